/-! From the entry to the loop. -/
theorem mj_TT_0 (L : Nat) (xs : Nat → Int32) : mj_TT L xs (mj_world0 0 (fun _ => 0)) = mj_world0 L xs := by
  unfold mj_TT mj_world0
  refine Prod.ext rfl (Prod.ext rfl (Prod.ext ?_ rfl))
  funext k j
  by_cases hk : k = 0
  · simp only [hk, if_true]
  · simp only [hk, if_false]
theorem mj_world0_P (L : Nat) (xs : Nat → Int32) : mj_P9 (mj_world0 L xs) := fun _ _ _ => rfl
theorem mj_lo1_G (z o : Nat) (ho : o ≠ 0) : ∀ v ∈ mj_lo z [.ref o], v ≠ some (.ref 0) := by
  refine mj_pad_G _ (mj_ex_G (fun v hv => ?_))
  rcases List.mem_cons.mp hv with e | hv
  · rw [e]
    intro q
    injection q with q
    exact ho q
  · cases hv
theorem mj_MR_out (a k : Nat) (h : 73 ≤ a ∨ 64 ≤ k) : mj_MR a k = none := by
  unfold mj_MR
  have hb : ∀ {x c m : Nat}, m ≤ x → c < m → Nat.ble x c = false := by
    intro x c m h1 h2
    cases q : Nat.ble x c with
    | false => rfl
    | true =>
      have := Nat.le_of_ble_eq_true q
      omega
  have hq : ∀ {x c m : Nat}, m ≤ x → c < m → Nat.beq x c = false := by
    intro x c m h1 h2
    cases q : Nat.beq x c with
    | false => rfl
    | true =>
      have := Nat.eq_of_beq_eq_true q
      omega
  rcases h with h | h
  · simp only [hb h (show 1 < 73 by omega), hb h (show 2 < 73 by omega), hb h (show 8 < 73 by omega), hb h (show 14 < 73 by omega), hb h (show 20 < 73 by omega), hb h (show 24 < 73 by omega), hb h (show 31 < 73 by omega), hb h (show 35 < 73 by omega), hq h (show 1 < 73 by omega), hq h (show 2 < 73 by omega), hq h (show 8 < 73 by omega), hq h (show 14 < 73 by omega), hq h (show 20 < 73 by omega), hq h (show 24 < 73 by omega), hq h (show 31 < 73 by omega), hq h (show 35 < 73 by omega), hq h (show 42 < 73 by omega), cond_false]
  · simp only [hb h (show 0 < 64 by omega), hb h (show 1 < 64 by omega), hb h (show 2 < 64 by omega), hb h (show 3 < 64 by omega), hb h (show 4 < 64 by omega), hb h (show 5 < 64 by omega), hb h (show 7 < 64 by omega), hb h (show 8 < 64 by omega), hb h (show 9 < 64 by omega), hb h (show 10 < 64 by omega), hb h (show 13 < 64 by omega), hb h (show 14 < 64 by omega), hb h (show 15 < 64 by omega), hb h (show 16 < 64 by omega), hb h (show 17 < 64 by omega), hb h (show 18 < 64 by omega), hb h (show 24 < 64 by omega), hb h (show 28 < 64 by omega), hb h (show 29 < 64 by omega), hb h (show 30 < 64 by omega), hb h (show 31 < 64 by omega), hb h (show 32 < 64 by omega), hb h (show 33 < 64 by omega), hb h (show 35 < 64 by omega), hb h (show 36 < 64 by omega), hb h (show 38 < 64 by omega), hb h (show 39 < 64 by omega), hb h (show 40 < 64 by omega), hb h (show 41 < 64 by omega), hb h (show 47 < 64 by omega), hb h (show 48 < 64 by omega), hb h (show 49 < 64 by omega), hb h (show 51 < 64 by omega), hq h (show 0 < 64 by omega), hq h (show 1 < 64 by omega), hq h (show 2 < 64 by omega), hq h (show 3 < 64 by omega), hq h (show 4 < 64 by omega), hq h (show 5 < 64 by omega), hq h (show 6 < 64 by omega), hq h (show 7 < 64 by omega), hq h (show 8 < 64 by omega), hq h (show 9 < 64 by omega), hq h (show 10 < 64 by omega), hq h (show 11 < 64 by omega), hq h (show 13 < 64 by omega), hq h (show 14 < 64 by omega), hq h (show 15 < 64 by omega), hq h (show 16 < 64 by omega), hq h (show 17 < 64 by omega), hq h (show 18 < 64 by omega), hq h (show 24 < 64 by omega), hq h (show 28 < 64 by omega), hq h (show 29 < 64 by omega), hq h (show 30 < 64 by omega), hq h (show 31 < 64 by omega), hq h (show 32 < 64 by omega), hq h (show 33 < 64 by omega), hq h (show 35 < 64 by omega), hq h (show 36 < 64 by omega), hq h (show 38 < 64 by omega), hq h (show 39 < 64 by omega), hq h (show 40 < 64 by omega), hq h (show 41 < 64 by omega), hq h (show 47 < 64 by omega), hq h (show 48 < 64 by omega), hq h (show 49 < 64 by omega), hq h (show 51 < 64 by omega), hq h (show 52 < 64 by omega), cond_false, Bool.cond_self]
theorem mj_SH_len (L : Nat) : (mj_SH L).length = 73 := rfl
/-- what the constructors leave behind -/
theorem mj_made (L : Nat) (xs : Nat → Int32) : ∃ w1 w2 : mjW, mj_run1 L xs = some (none, w1) ∧ w1.1.length = 42 ∧ mj_run2 w1 = some (none, w2) ∧ w2.1 = mj_SH L ∧ w2.2.1 = mj_MR ∧ ∀ q ∈ mj_want, q.1 ≠ 0 → w2.2.2.1 q.1 q.2.1 = Int32.ofNat q.2.2 := by
  have h := mj_good0
  unfold mj_good mj_both at h
  cases h1 : mj_run1 0 (fun _ => 0) with
  | none => rw [h1] at h; cases h
  | some r1 =>
    obtain ⟨v1, w1⟩ := r1
    rw [h1] at h
    have hw0 : 0 < (mj_world0 0 (fun _ => 0)).1.length := by decide
    have hg1 : mj_G (mj_lo 78 [.ref 1]) [] (mj_grow (mj_world0 0 (fun _ => 0)) 7 11) := by
      refine ⟨mj_lo1_G _ _ (by omega), (fun v hv => by cases hv), fun a k => ?_, by show 0 < 2; omega⟩
      show mj_new (fun _ _ => none) 1 none a k ≠ some 0
      unfold mj_new
      split <;> exact fun q => by cases q
    have h1' := h1
    unfold mj_run1 at h1'
    obtain ⟨t1, t2, t3, t4⟩ := mj_go_T (L := L) (xs := xs) _ _ _ _ _ _ _ _ _ (by decide) hg1 h1'
    have p1 := mj_go_P _ _ _ _ _ _ _ _ _ (by decide) (mj_P9_grow (mj_world0_P 0 (fun _ => 0)) 7 11) h1'
    subst t2
    simp only at h
    cases hl : Nat.beq w1.1.length 42 with
    | false => rw [hl] at h; cases h
    | true =>
      have hlen := Nat.eq_of_beq_eq_true hl
      rw [hl] at h
      simp only [cond_true] at h
      cases h2 : mj_run2 w1 with
      | none => rw [h2] at h; cases h
      | some r2 =>
        obtain ⟨v2, w2⟩ := r2
        rw [h2] at h
        have hg2 : mj_G (mj_lo 133 [.ref 42]) [] (mj_grow w1 8 54) := by
          have g := mj_G_grow (lo := mj_lo 133 [.ref 42]) (st := []) (w := w1) ⟨mj_lo1_G _ _ (by omega), (fun v hv => by cases hv), t3, t4⟩ 8 54
          exact (mj_G_tail g).2
        have h2' := h2
        unfold mj_run2 at h2'
        obtain ⟨u1, u2, u3, u4⟩ := mj_go_T (L := L) (xs := xs) _ _ _ _ _ _ _ _ _ (by decide) hg2 h2'
        have p2 := mj_go_P _ _ _ _ _ _ _ _ _ (by decide) (mj_P9_grow p1 8 54) h2'
        subst u2
        simp only [Bool.and_eq_true, decide_eq_true_eq, List.all_eq_true] at h
        obtain ⟨⟨c1, c2⟩, c3⟩ := h
        refine ⟨mj_TT L xs w1, mj_TT L xs w2, ?_, ?_, ?_, ?_, ?_, ?_⟩
        · unfold mj_run1
          rw [← mj_TT_0 L xs, ← mj_T_grow hw0]
          exact t1
        · obtain ⟨w1a, w1b⟩ := w1
          cases w1a with
          | nil => cases hlen
          | cons q r => exact hlen
        · unfold mj_run2
          rw [← mj_T_grow t4]
          exact u1
        · show (0, L) :: w2.1.tail = mj_SH L
          rw [c1]
          rfl
        · funext a k
          show w2.2.1 a k = mj_MR a k
          by_cases ha : 73 ≤ a ∨ 64 ≤ k
          · rw [mj_MR_out a k ha, p2 a k (by rw [c1, mj_SH_len]; exact ha)]
          · exact c2 a (List.mem_range.mpr (by omega)) k (List.mem_range.mpr (by omega))
        · intro q hq h0
          show (if q.1 = 0 then xs q.2.1 else w2.2.2.1 q.1 q.2.1) = _
          rw [if_neg h0]
          exact c3 q hq
theorem mj_begin (L : Nat) (xs : Nat → Int32) : ∃ i l, mj_ev 33 226 (0, [some (.ref 0), none, none, none], [], mj_world0 L xs) = mj_E 33 226 18 [some (.ref 0), some (.ref 1), some (.ref 42), some (.int (0 : Int32))] [] L i l ∧ ∀ q ∈ mj_want, q.1 ≠ 0 → i q.1 q.2.1 = Int32.ofNat q.2.2 := by
  obtain ⟨w1, w2, r1, hlen, r2, c1, c2, c3⟩ := mj_made L xs
  refine ⟨w2.2.2.1, w2.2.2.2, ?_, c3⟩
  have s1 : mj_ev 33 226 (0, [some (.ref 0), none, none, none], [], mj_world0 L xs) = mj_ev 33 226 (4, [some (.ref 0), none, none, none], [.ref 1, .ref 1], mj_grow (mj_world0 L xs) 7 11) := mj_ev_ss 2 rfl
  have s2 : mj_ev 33 226 (4, [some (.ref 0), none, none, none], [.ref 1, .ref 1], mj_grow (mj_world0 L xs) 7 11) = (mj_ev (mj_rk 78 [.ref 1]) 78 (0, mj_lo 78 [.ref 1], [], mj_grow (mj_world0 L xs) 7 11)).bind fun t => mj_ev 33 226 (7, [some (.ref 0), none, none, none], t.1.toList ++ [.ref 1], t.2) := mj_ev_c (e := (.invokespecial 9, 3, 0, 78)) rfl rfl rfl rfl
  have s3 : mj_ev (mj_rk 78 [.ref 1]) 78 (0, mj_lo 78 [.ref 1], [], mj_grow (mj_world0 L xs) 7 11) = some (none, w1) := mj_ev_iff.mpr ⟨3000, r1⟩
  have s4 : mj_ev 33 226 (7, [some (.ref 0), none, none, none], [.ref 1], w1) = mj_ev 33 226 (12, [some (.ref 0), some (.ref 1), none, none], [.ref w1.1.length, .ref w1.1.length], mj_grow w1 8 54) := mj_ev_ss 3 rfl
  have hn : (mj_nth (w1.1 ++ [(8, 54)]) 42).1 = 8 := by
    rw [← hlen, mj_nth_last]
  have hca : mj_ca 33 133 [.ref 42, .ref 42] (mj_grow w1 8 54) = some ([.ref 42], [.ref 42]) := by
    show (bif Nat.beq (mj_nth (w1.1 ++ [(8, 54)]) 42).1 8 && _ && _ && _ then _ else _) = _
    rw [hn]
    rfl
  have s5 : mj_ev 33 226 (12, [some (.ref 0), some (.ref 1), none, none], [.ref 42, .ref 42], mj_grow w1 8 54) = (mj_ev (mj_rk 133 [.ref 42]) 133 (0, mj_lo 133 [.ref 42], [], mj_grow w1 8 54)).bind fun t => mj_ev 33 226 (15, [some (.ref 0), some (.ref 1), none, none], t.1.toList ++ [.ref 42], t.2) := mj_ev_c (e := (.invokespecial 12, 3, 0, 133)) rfl rfl rfl hca
  have s6 : mj_ev (mj_rk 133 [.ref 42]) 133 (0, mj_lo 133 [.ref 42], [], mj_grow w1 8 54) = some (none, w2) := mj_ev_iff.mpr ⟨3000, r2⟩
  have s7 : mj_ev 33 226 (15, [some (.ref 0), some (.ref 1), none, none], [.ref 42], w2) = mj_ev 33 226 (18, [some (.ref 0), some (.ref 1), some (.ref 42), some (.int (0 : Int32))], [], w2) := mj_ev_ss 3 rfl
  have s8 : w2 = mj_mk L w2.2.2.1 w2.2.2.2 := by
    obtain ⟨a1, a2, a3, a4⟩ := w2
    have c1 : a1 = mj_SH L := c1
    have c2 : a2 = mj_MR := c2
    rw [c1, c2]
    rfl
  rw [s1, s2, s3, Option.bind_some]
  show mj_ev 33 226 (7, [some (.ref 0), none, none, none], [.ref 1], w1) = _
  rw [s4, hlen, s5, s6, Option.bind_some]
  show mj_ev 33 226 (15, [some (.ref 0), some (.ref 1), none, none], [.ref 42], w2) = _
  rw [s7]
  show mj_ev 33 226 (18, _, [], w2) = mj_ev 33 226 (18, _, [], mj_mk L w2.2.2.1 w2.2.2.2)
  rw [← s8]
/-- the drawer at the start -/
def mq_D0 : mq_D := fun a b => if a = 0 then 8 else if a = 3 then b else if a = 4 then 85 else if a = 5 then 4 else if a = 8 then 2 else 0
theorem mq_begin {i : mMI} (W : ∀ q ∈ mj_want, q.1 ≠ 0 → i q.1 q.2.1 = Int32.ofNat q.2.2) : mq_RC i mq_D0 mq_D0 (fun _ _ => 0) (fun _ => 0) ∧ mq_RM i mq_D0 mq_D0 (fun _ _ => 0) (fun _ => 0) ∧ mq_OkS mq_D0 mq_D0 (fun _ _ => 0) := by
  have V : ∀ a k v, (a, k, v) ∈ mj_want → a ≠ 0 → i a k = nI v := fun a k v h h0 => W (a, k, v) h h0
  have r3 : ∀ j, j < 8 → (3, j, 0) ∈ mj_want := by decide
  have r4 : ∀ j, j < 8 → (4, j, 0) ∈ mj_want := by decide
  have r5 : ∀ j, j < 8 → (5, j, j) ∈ mj_want := by decide
  have r44 : ∀ j, j < 8 → (44, j, 0) ∈ mj_want := by decide
  have r45 : ∀ j, j < 8 → (45, j, 0) ∈ mj_want := by decide
  have r46 : ∀ j, j < 8 → (46, j, j) ∈ mj_want := by decide
  have r23 : ∀ j, j < 7 → (23, j, 0) ∈ mj_want := by decide
  have r43 : ∀ j, j < 7 → (43, j, 0) ∈ mj_want := by decide
  have no : ∀ {α : Prop} (j : Nat), j < 0 → α := fun j h => absurd h (by omega)
  refine ⟨⟨⟨V 2 0 8 (by decide) (by omega), V 2 4 85 (by decide) (by omega), V 2 5 4 (by decide) (by omega), V 2 6 0 (by decide) (by omega), V 2 7 0 (by decide) (by omega), V 2 8 2 (by decide) (by omega), V 2 9 0 (by decide) (by omega), fun j h => V 3 j 0 (r3 j h) (by omega), fun j h => V 4 j 0 (r4 j h) (by omega), fun j h => V 5 j j (r5 j h) (by omega), fun j h => no j h, fun j h => no j h⟩, V 1 3 0 (by decide) (by omega), (fun h => absurd h (by decide)), V 20 1 0 (by decide) (by omega), fun j h => no j h, V 1 6 0 (by decide) (by omega), fun j h => no j h, fun j h => V 23 j 0 (r23 j h) (by omega)⟩,
    ⟨⟨V 42 6 8 (by decide) (by omega), V 42 7 85 (by decide) (by omega), V 42 8 4 (by decide) (by omega), V 42 9 0 (by decide) (by omega), V 42 10 0 (by decide) (by omega), V 42 11 2 (by decide) (by omega), V 42 12 0 (by decide) (by omega), fun j h => V 44 j 0 (r44 j h) (by omega), fun j h => V 45 j 0 (r45 j h) (by omega), fun j h => V 46 j j (r46 j h) (by omega), fun j h => no j h, fun j h => no j h⟩, V 42 25 0 (by decide) (by omega), ⟨(fun h => absurd h (by decide)), V 68 1 0 (by decide) (by omega), V 69 1 0 (by decide) (by omega)⟩, V 42 19 0 (by decide) (by omega), fun j h => no j h, V 42 53 0 (by decide) (by omega), fun j h => no j h, fun j h => V 43 j 0 (r43 j h) (by omega)⟩, ?_⟩
  have ok : mq_Ok mq_D0 := by
    refine ⟨⟨(by decide), (by decide)⟩, fun j _ => (by show 0 ≤ 5; omega), fun j _ => (by show 0 ≤ 9; omega), ⟨fun j h => h, fun a b _ _ h => h⟩, (by decide), (by decide), (by decide), (by decide), ⟨(by decide), (by decide)⟩, (by decide), fun j h => no j h⟩
  exact ⟨ok, (by show 0 ≤ 1; omega), (fun _ => ok), (by show 0 ≤ 96; omega), (fun j h => no j h), (by show 0 ≤ 10; omega), fun j h => no j h⟩
