/-! Putting back on the model's side. -/
theorem qs_hasC (L : Nat) {x : Int32} {n b : Nat} {c : Nat → Bool} (i : mMI) (l : mML) (hx : mq_tl x n c) (hb : b < n) : qf_Mod_has L x (nI b) i l = some (mq_b (c b), i, l) := by
  refine qe_Mod_has L _ _ i l _ ?_
  have h := hx b hb
  cases hc : c b with
  | true => rw [if_pos (h.mpr hc)]; rfl
  | false => rw [if_neg (fun q => by have := h.mp q; rw [hc] at this; cases this)]; rfl
theorem qs_Mod_lays (L : Nat) {lie : Nat → Nat} {n : Nat} {c : Nat → Bool} {x : Int32} (i : mMI) (l : mML) (hn : n ≤ 8) (hl : ∀ j, j < n → lie j < n) (hx : mq_tl x n c) (h6 : i 42 6 = nI n) (h46 : ∀ p, p < n → i 46 p = nI (lie p)) (p0 Q : List Nat) (hQ : Q.length ≤ 8) (h50 : i 42 50 = nI p0.length) (h0 : mq_h1 (i 70) p0) (hq : p0 ++ mq_lz lie c n 0 = Q) : ∃ i', qf_Mod_lays L x i l = some (i', l) ∧ i' 42 50 = nI Q.length ∧ mq_h1 (i' 70) Q ∧ (∀ k, k ≠ 42 → k ≠ 70 → i' k = i k) ∧ ∀ j, j ≠ 50 → i' 42 j = i 42 j := by
  have loop : ∀ (m j : Nat), j + m = n → ∀ (p : List Nat) (i1 : mMI), i1 42 50 = nI p.length → mq_h1 (i1 70) p → p ++ mq_lz lie c m j = Q → (∀ k, k ≠ 42 → k ≠ 70 → i1 k = i k) → (∀ j, j ≠ 50 → i1 42 j = i 42 j) → ∃ i', qf_Mod_lays_p2 L x (nI j) i1 l = some (i', l) ∧ i' 42 50 = nI Q.length ∧ mq_h1 (i' 70) Q ∧ (∀ k, k ≠ 42 → k ≠ 70 → i' k = i k) ∧ ∀ j, j ≠ 50 → i' 42 j = i 42 j := by
    intro m
    induction m with
    | zero =>
      intro j hj p i1 a0 a1 a2 a3 a4
      have hj : j = n := hj
      subst hj
      have a2 : p ++ [] = Q := a2
      rw [List.append_nil] at a2
      subst a2
      refine ⟨i1, qe_Mod_lays_p2 L _ _ i1 l _ ?_, a0, a1, a3, a4⟩
      rw [a4 6 (by omega), h6, if_pos (nI_le (Nat.le_refl _) (by omega))]
    | succ m ih =>
      intro j hj p i1 a0 a1 a2 a3 a4
      have hlt : j < n := by omega
      have e46 : i1 46 j = nI (lie j) := by rw [a3 46 (by omega) (by omega)]; exact h46 j hlt
      have hs := qs_hasC L i1 l hx (hl j hlt)
      cases hc : c (lie j) with
      | true =>
        rw [mq_lz_t hc] at a2
        have hlen : p.length < 8 := by
          have := congrArg List.length a2
          rw [List.length_append, List.length_cons] at this
          omega
        obtain ⟨i', g1, g2⟩ := ih (j + 1) (by omega) (p ++ [lie j]) (mj_up (mj_up i1 70 p.length (nI (lie j))) 42 50 (nI (p.length + 1))) (by rw [mq_upi_at, if_pos rfl, List.length_append, List.length_singleton]) (mq_h1_app a1 (fun t => by rw [mq_upn (by omega), mq_upi_at])) (by rw [List.append_assoc]; exact a2) (fun k k1 k2 => by rw [mq_upn k1, mq_upn k2]; exact a3 k k1 k2) (fun y hy => by rw [mq_upi_at, if_neg hy, mq_upn (by omega)]; exact a4 y hy)
        refine ⟨i', qe_Mod_lays_p2 L _ _ i1 l _ ?_, g2⟩
        rw [a4 6 (by omega), h6, if_neg (nI_ge hlt (by omega)), if_neg (nI_in (show j < 8 by omega) (by omega)), nI_clamp (by omega), e46, hs, Option.bind_some]
        dsimp only
        rw [hc, if_neg (by decide), if_neg (mq_in (show j < 8 by omega) (by omega))]
        simp only [a0]
        rw [if_neg (nI_in hlen (by omega)), nI_clamp (by omega), e46, nI_1, nI_1]
        exact g1
      | false =>
        rw [mq_lz_f hc] at a2
        obtain ⟨i', g1, g2⟩ := ih (j + 1) (by omega) p i1 a0 a1 a2 a3 a4
        refine ⟨i', qe_Mod_lays_p2 L _ _ i1 l _ ?_, g2⟩
        rw [a4 6 (by omega), h6, if_neg (nI_ge hlt (by omega)), if_neg (nI_in (show j < 8 by omega) (by omega)), nI_clamp (by omega), e46, hs, Option.bind_some]
        dsimp only
        rw [hc, if_pos (by decide), nI_1]
        exact g1
  obtain ⟨i', g1, g2⟩ := loop n 0 (by omega) p0 i h50 h0 hq (fun _ _ _ => rfl) (fun _ _ => rfl)
  exact ⟨i', qe_Mod_lays L _ i l _ g1, g2⟩
theorem mq_tl_m {f t n : Nat} (hf : f < 256) (ht : t < 256) (hn : n ≤ 8) : mq_tl ((nI (2 ^ n - 1) &&& (nI f ^^^ (-1 : Int32))) &&& (nI t ^^^ (-1 : Int32))) n (mq_c2 f t) := by
  intro b hb
  have hp := mq_pow hn
  have hpos : 0 < 2 ^ n := Nat.pow_pos (by omega)
  rw [mq_andc, mq_andc]
  have b1 : (2 ^ n - 1) ^^^ ((2 ^ n - 1) &&& f) < 2 ^ 8 := Nat.xor_lt_two_pow (by omega) (Nat.lt_of_le_of_lt Nat.and_le_left (by omega))
  have b2 : ((2 ^ n - 1) ^^^ ((2 ^ n - 1) &&& f)) ^^^ (((2 ^ n - 1) ^^^ ((2 ^ n - 1) &&& f)) &&& t) < 2 ^ 8 := Nat.xor_lt_two_pow b1 (Nat.lt_of_le_of_lt Nat.and_le_left b1)
  refine ((mq_bit1 (by omega) (by omega)).trans mq_tb1).trans ?_
  unfold mq_c2
  rw [Nat.testBit_xor, Nat.testBit_and, Nat.testBit_xor, Nat.testBit_and, Nat.testBit_two_pow_sub_one, decide_eq_true hb]
  cases f.testBit b <;> cases t.testBit b <;> decide
theorem mq_dd_self {dk : Nat → Nat} {a b : Nat} (hab : a ≠ b) (hs : ∀ x, (dk x).testBit x = false) : ∀ x, (mq_dd dk a b x).testBit x = false := by
  intro x
  unfold mq_dd
  by_cases e1 : x = a
  · rw [if_pos e1, Nat.testBit_or, e1, hs a, Nat.testBit_two_pow, decide_eq_false (fun z => hab z.symm)]
    rfl
  · rw [if_neg e1]
    by_cases e2 : x = b
    · rw [if_pos e2, Nat.testBit_or, e2, hs b, Nat.testBit_two_pow, decide_eq_false hab]
      rfl
    · rw [if_neg e2]; exact hs x
theorem mq_ddor {dk : Nat → Nat} {a b ga gb : Nat} (hab : a ≠ b) (hg : ga ≠ gb) : mq_dd dk a b ga ||| mq_dd dk a b gb = ((dk ga ||| dk gb) ||| (if (2 ^ ga ||| 2 ^ gb).testBit a = true then 2 ^ b else 0)) ||| (if (2 ^ ga ||| 2 ^ gb).testBit b = true then 2 ^ a else 0) := by
  have bit : ∀ x, (2 ^ ga ||| 2 ^ gb).testBit x = (decide (ga = x) || decide (gb = x)) := fun x => by rw [Nat.testBit_or, Nat.testBit_two_pow, Nat.testBit_two_pow]
  rw [bit, bit]
  unfold mq_dd
  by_cases h1 : ga = a
  · subst h1
    have h2 : ¬ gb = ga := fun q => hg q.symm
    have h3 : ¬ ga = b := hab
    rw [if_pos rfl, if_neg h2, decide_eq_true rfl, Bool.true_or, if_pos rfl, decide_eq_false h3, Bool.false_or]
    by_cases h4 : gb = b
    · subst h4
      rw [if_pos rfl, decide_eq_true rfl, if_pos rfl]
      apply Nat.eq_of_testBit_eq
      intro y
      simp only [Nat.testBit_or]
      cases (dk ga).testBit y <;> cases (dk gb).testBit y <;> cases (2 ^ ga).testBit y <;> cases (2 ^ gb).testBit y <;> rfl
    · rw [if_neg h4, decide_eq_false h4, if_neg (by decide), Nat.or_zero]
      apply Nat.eq_of_testBit_eq
      intro y
      simp only [Nat.testBit_or]
      cases (dk ga).testBit y <;> cases (dk gb).testBit y <;> cases (2 ^ b).testBit y <;> rfl
  · rw [if_neg h1, decide_eq_false h1, Bool.false_or]
    by_cases h2 : gb = a
    · subst h2
      have h4 : ¬ gb = b := hab
      rw [if_pos rfl, decide_eq_true rfl, if_pos rfl, decide_eq_false h4, Bool.or_false]
      by_cases h3 : ga = b
      · subst h3
        rw [if_pos rfl, decide_eq_true rfl, if_pos rfl]
        apply Nat.eq_of_testBit_eq
        intro y
        simp only [Nat.testBit_or]
        cases (dk ga).testBit y <;> cases (dk gb).testBit y <;> cases (2 ^ ga).testBit y <;> cases (2 ^ gb).testBit y <;> rfl
      · rw [if_neg h3, decide_eq_false h3, if_neg (by decide), Nat.or_zero]
        apply Nat.eq_of_testBit_eq
        intro y
        simp only [Nat.testBit_or]
        cases (dk ga).testBit y <;> cases (dk gb).testBit y <;> cases (2 ^ b).testBit y <;> rfl
    · rw [if_neg h2, decide_eq_false h2, if_neg (show ¬ false = true by decide), Nat.or_zero]
      by_cases h3 : ga = b
      · subst h3
        have h4 : ¬ gb = ga := fun q => hg q.symm
        rw [if_pos rfl, if_neg h4, decide_eq_true rfl, Bool.true_or, if_pos rfl]
        apply Nat.eq_of_testBit_eq
        intro y
        simp only [Nat.testBit_or]
        cases (dk ga).testBit y <;> cases (dk gb).testBit y <;> cases (2 ^ a).testBit y <;> rfl
      · rw [if_neg h3, decide_eq_false h3, Bool.false_or]
        by_cases h4 : gb = b
        · subst h4
          rw [if_pos rfl, decide_eq_true rfl, if_pos rfl]
          apply Nat.eq_of_testBit_eq
          intro y
          simp only [Nat.testBit_or]
          cases (dk ga).testBit y <;> cases (dk gb).testBit y <;> cases (2 ^ a).testBit y <;> rfl
        · rw [if_neg h4, decide_eq_false h4, if_neg (by decide), Nat.or_zero]
section
variable {D : mq_D}
theorem qs_Mod_knownFlat (L : Nat) {k F W : Nat} {lie : Nat → Nat} {ga gb : Nat} (i : mMI) (l : mML) (hO : mq_Ok D) (hk : k ≤ 5) (hF : F < 256) (hl1 : ∀ j, j < D 0 0 → lie j < D 0 0) (hl2 : ∀ a b, a < D 0 0 → b < D 0 0 → lie a = lie b → a = b) (h6 : i 42 6 = nI (D 0 0)) (h8 : i 42 8 = nI (D 5 0)) (h43 : i 42 43 = nI F) (h46 : ∀ p, p < D 0 0 → i 46 p = nI (lie p)) (h42 : i 42 42 = nI (mq_pl (D 0 0) (D 5 0) k).length) (hh2 : mq_h2 (i 64) (i 65) (mq_pl (D 0 0) (D 5 0) k)) (ho : (mq_res D k F W lie).2.2.1 = some (ga, gb)) (h45 : i 42 45 = nI ga) (h46b : i 42 46 = nI gb) :
    ∃ i', qf_Mod_knownFlat L (nI k) (nI (mq_res D k F W lie).1) i l = some (nI (mq_kf (mq_res D k F W lie).2.2.2 (some (ga, gb))), i', l) ∧ ∀ c, c ≠ 67 → i' c = i c := by
  have hn := hO.1
  have hg := hO.2.2.2.2.2.1
  have hlen := mq_pl_len hn.2 hg hk
  have hnew := mq_pl_new hn.2 hg hk
  have hin := mq_newb_in _ hnew
  have hfr0 := mq_fr_new hn.2 hl1 hl2 _ hnew
  have hr28 : (mq_res D k F W lie).1 ≤ 28 := by
    have h := mq_run_le k (D 0 0) (D 5 0) F W (mq_mp lie (mq_pl (D 0 0) (D 5 0) k)) 0 0 (fun _ => 0)
    have h3 : (mq_mp lie (mq_pl (D 0 0) (D 5 0) k)).length = (mq_pl (D 0 0) (D 5 0) k).length := List.length_map ..
    unfold mq_res
    omega
  obtain ⟨ok1, ok2, ok3⟩ := mq_res_ok hO (F := F) (W := W) hk hl1 hl2
  obtain ⟨o1, o2, o3, o4, o5, o6, o7, o8, o9⟩ := ok3 _ ho
  have o4 : ga ≠ gb := o4
  have hgd : 2 ^ ga ||| 2 ^ gb < 256 := Nat.or_lt_two_pow (n := 8) (mq_pow_lt o5) (mq_pow_lt o6)
  obtain ⟨mF, hmF⟩ : ∃ mF, (mq_res D k F W lie).1 = mF + 1 := ⟨(mq_res D k F W lie).1 - 1, by omega⟩
  unfold mq_res at ho hmF o8 hr28 ⊢
  generalize hPL : mq_pl (D 0 0) (D 5 0) k = PL at h42 hh2 hlen hnew hin hfr0 ho hmF o8 hr28
  generalize hR : mq_run k (D 0 0) (D 5 0) F W (mq_mp lie PL) 0 0 (fun _ => 0) = R0 at ho hmF o8 hr28 ⊢
  have fin : (nI (R0.2.2.2 ga ||| R0.2.2.2 gb) &&& (nI (2 ^ ga ||| 2 ^ gb) ^^^ (-1 : Int32))) = nI (mq_kf R0.2.2.2 (some (ga, gb))) := by
    have o8 : (2 ^ ga ||| 2 ^ gb) &&& (R0.2.2.2 ga ||| R0.2.2.2 gb) = 0 := o8
    rw [mq_andc, Nat.and_comm, o8, Nat.xor_zero]
    rfl
  have loop : ∀ (t p : List (Nat × Nat)) (m la : Nat) (dk : Nat → Nat) (i1 : mMI), p ++ t = PL → mq_fr dk (mq_mp lie t) → (∀ x, (dk x).testBit x = false) → (∀ x, dk x < 256) → la < 256 → (∀ x, x < 8 → i1 67 x = nI (mq_pop (dk x))) → (∀ c, c ≠ 67 → i1 c = i c) → mq_run k (D 0 0) (D 5 0) F W (mq_mp lie t) m la dk = R0 →
      ∃ i', qf_Mod_knownFlat_p58 L (nI k) (nI R0.1) (nI (2 ^ ga ||| 2 ^ gb)) (nI (dk ga ||| dk gb)) (nI m) (nI p.length) i1 l = some (nI (mq_kf R0.2.2.2 (some (ga, gb))), i', l) ∧ ∀ c, c ≠ 67 → i' c = i c := by
    intro t
    induction t with
    | nil =>
      intro p m la dk i1 hp hfr hs hdk hla s4 s5 hrun
      have : R0.2.2.1 = none := by rw [← hrun]; rfl
      rw [this] at ho
      cases ho
    | cons q t ih =>
      intro p m la dk i1 hp hfr hs hdk hla s4 s5 hrun
      have hmem : q ∈ PL := by rw [← hp]; exact List.mem_append_right _ (List.mem_cons_self ..)
      have hget : PL[p.length]? = some (q.1, q.2) := by
        rw [← hp, List.getElem?_append_right (Nat.le_refl _), Nat.sub_self]
        rfl
      have hlt : p.length < PL.length := by
        rw [← hp, List.length_append, List.length_cons]
        omega
      have hmp : ∀ z ∈ mq_mp lie (q :: t), z.1 < D 0 0 ∧ z.2 < D 0 0 := by
        intro z hz
        obtain ⟨y, hy, rfl⟩ := List.mem_map.mp hz
        obtain ⟨h1, h2⟩ := hin y (by rw [← hp]; exact List.mem_append_right _ hy)
        exact ⟨hl1 _ h1, hl1 _ h2⟩
      have rok := (mq_run_ok (k := k) (g := D 5 0) (F := F) (W := W) (mq_mp lie (q :: t)) m la dk hfr hs hdk hmp hla).2.2 (ga, gb) (by rw [hrun]; exact ho)
      rw [hrun] at rok
      obtain ⟨_, _, _, _, _, _, rm, _, rd⟩ := rok
      obtain ⟨q1, q2⟩ := hin q hmem
      obtain ⟨r1, r2⟩ := hh2 p.length q.1 q.2 hget
      have e64 : i1 64 p.length = nI q.1 := by rw [s5 64 (by omega)]; exact r1
      have e65 : i1 65 p.length = nI q.2 := by rw [s5 65 (by omega)]; exact r2
      have e46a : i1 46 q.1 = nI (lie q.1) := by rw [s5 46 (by omega)]; exact h46 _ q1
      have e46b : i1 46 q.2 = nI (lie q.2) := by rw [s5 46 (by omega)]; exact h46 _ q2
      have f42 : ∀ j, i1 42 j = i 42 j := fun j => by rw [s5 42 (by omega)]
      have hm : mq_mp lie (q :: t) = (lie q.1, lie q.2) :: mq_mp lie t := rfl
      rw [hm] at hfr hrun
      obtain ⟨u1, u2, u3, u4, u5⟩ := hfr.1 _ (List.mem_cons_self ..)
      have u3 : lie q.1 ≠ lie q.2 := u3
      have u1 : lie q.1 < 8 := u1
      have u2 : lie q.2 < 8 := u2
      have w1 := mq_popor (dk (lie q.1)) (hdk _) (lie q.2) u2 u4
      have w2 := mq_popor (dk (lie q.2)) (hdk _) (lie q.1) u1 u5
      have lo := qs_isLeft L (k := k) (n := D 0 0) (g := D 5 0) (F := F) (a := lie q.1) (b := lie q.2) (dk := dk) i1 l hk hn.2 hg hF u1 u2 ((f42 6).trans h6) ((f42 8).trans h8) ((f42 43).trans h43) (s4 _ (by omega)) (s4 _ (by omega))
      have hp1 : (p ++ [q]).length = p.length + 1 := by rw [List.length_append, List.length_singleton]
      have hpt : (p ++ [q]) ++ t = PL := by rw [List.append_assoc]; exact hp
      by_cases hstop : mF ≤ m
      · have hmm : R0.1 = m + 1 := by omega
        have hdd := rd hmm
        refine ⟨i1, qe_Mod_knownFlat_p58 L _ _ _ _ _ _ i1 l _ ?_, s5⟩
        rw [f42 42, h42, if_neg (nI_ge hlt (by omega)), hmF, nI_pred, if_pos (nI_le hstop (by omega)), ← hdd, fin]
      · by_cases hleft : (mq_lt k (D 0 0) (D 5 0) F dk (lie q.1) || mq_lt k (D 0 0) (D 5 0) F dk (lie q.2)) = true
        · have er : mq_run k (D 0 0) (D 5 0) F W ((lie q.1, lie q.2) :: mq_mp lie t) m la dk = mq_run k (D 0 0) (D 5 0) F W (mq_mp lie t) m la dk := by
            simp only [mq_run]
            rw [if_pos hleft]
          rw [er] at hrun
          obtain ⟨i', g1, g2⟩ := ih (p ++ [q]) m la dk i1 hpt (mq_fr_tail hfr) hs hdk hla s4 s5 hrun
          rw [hp1] at g1
          refine ⟨i', qe_Mod_knownFlat_p58 L _ _ _ _ _ _ i1 l _ ?_, g2⟩
          rw [f42 42, h42, if_neg (nI_ge hlt (by omega)), hmF, nI_pred, if_neg (nI_ge (by omega) (by omega)), if_neg (nI_in (show p.length < 28 by omega) (by omega)), nI_clamp (by omega), e64, if_neg (nI_in (show q.1 < 8 by omega) (by omega)), if_neg (mq_in (show p.length < 28 by omega) (by omega)), e65, if_neg (nI_in (show q.2 < 8 by omega) (by omega)), nI_clamp (show q.1 < 2 ^ 31 by omega), nI_clamp (show q.2 < 2 ^ 31 by omega), e46a, e46b, lo, Option.bind_some]
          dsimp only
          rw [hleft, if_neg (by decide), nI_1, ← hmF]
          exact g1
        · have hleft' : (mq_lt k (D 0 0) (D 5 0) F dk (lie q.1) || mq_lt k (D 0 0) (D 5 0) F dk (lie q.2)) = false := by
            cases h : (mq_lt k (D 0 0) (D 5 0) F dk (lie q.1) || mq_lt k (D 0 0) (D 5 0) F dk (lie q.2)) with
            | true => exact absurd h hleft
            | false => rfl
          cases hlit : (W.testBit (lie q.1) && W.testBit (lie q.2)) with
          | true =>
            have er : mq_run k (D 0 0) (D 5 0) F W ((lie q.1, lie q.2) :: mq_mp lie t) m la dk = (m + 1, 2 ^ lie q.1 ||| 2 ^ lie q.2, some (lie q.1, lie q.2), dk) := by
              simp only [mq_run]
              rw [if_neg hleft, if_pos hlit]
            rw [er] at hrun
            rw [← hrun] at hmF
            have hmF : m + 1 = mF + 1 := hmF
            omega
          | false =>
            have er : mq_run k (D 0 0) (D 5 0) F W ((lie q.1, lie q.2) :: mq_mp lie t) m la dk = mq_run k (D 0 0) (D 5 0) F W (mq_mp lie t) (m + 1) (2 ^ lie q.1 ||| 2 ^ lie q.2) (mq_dd dk (lie q.1) (lie q.2)) := by
              simp only [mq_run]
              rw [if_neg hleft, if_neg (by rw [hlit]; decide)]
            rw [er] at hrun
            have hor : 2 ^ lie q.1 ||| 2 ^ lie q.2 < 256 := Nat.or_lt_two_pow (n := 8) (mq_pow_lt u1) (mq_pow_lt u2)
            generalize hi2 : mj_up (mj_up i1 67 (lie q.1) (nI (mq_pop (dk (lie q.1)) + 1))) 67 (lie q.2) (nI (mq_pop (dk (lie q.2)) + 1)) = i2
            obtain ⟨i', g1, g2⟩ := ih (p ++ [q]) (m + 1) _ _ i2 hpt (mq_fr_dd hfr) (mq_dd_self u3 hs) (mq_dd_lt hdk u1 u2) hor
              (fun x hx => by
                rw [← hi2, mq_upi_at, mq_upi_at]
                unfold mq_dd
                by_cases x1 : x = lie q.1
                · rw [if_neg (fun z => u3 (x1.symm.trans z)), if_pos x1, if_pos x1, w1]
                · rw [if_neg x1, if_neg x1]
                  by_cases x2 : x = lie q.2
                  · rw [if_pos x2, if_pos x2, w2]
                  · rw [if_neg x2, if_neg x2]
                    exact s4 x hx)
              (fun c c1 => by rw [← hi2, mq_upn c1, mq_upn c1]; exact s5 c c1) hrun
            rw [hp1, mq_ddor u3 o4] at g1
            have ha := qs_Mod_has L (w := 2 ^ ga ||| 2 ^ gb) (b := lie q.1) i2 l (by omega) u1
            have hb := qs_Mod_has L (w := 2 ^ ga ||| 2 ^ gb) (b := lie q.2) i2 l (by omega) u2
            have z2 : mj_up i1 67 (lie q.1) (nI (mq_pop (dk (lie q.1)) + 1)) 67 (lie q.2) = nI (mq_pop (dk (lie q.2))) := by
              rw [mq_upi_at, if_neg (fun z => u3 z.symm)]
              exact s4 _ (by omega)
            refine ⟨i', qe_Mod_knownFlat_p58 L _ _ _ _ _ _ i1 l _ ?_, g2⟩
            rw [f42 42, h42, if_neg (nI_ge hlt (by omega)), hmF, nI_pred, if_neg (nI_ge (by omega) (by omega)), if_neg (nI_in (show p.length < 28 by omega) (by omega)), nI_clamp (by omega), e64, if_neg (nI_in (show q.1 < 8 by omega) (by omega)), if_neg (mq_in (show p.length < 28 by omega) (by omega)), e65, if_neg (nI_in (show q.2 < 8 by omega) (by omega)), nI_clamp (show q.1 < 2 ^ 31 by omega), nI_clamp (show q.2 < 2 ^ 31 by omega), e46a, e46b, lo, Option.bind_some]
            dsimp only
            rw [hleft', if_pos (by decide), if_neg (nI_in u1 (by omega)), if_neg (nI_in u1 (by omega)), if_neg (nI_in u2 (by omega)), if_neg (nI_in u2 (by omega)), nI_clamp (show lie q.1 < 2 ^ 31 by omega), nI_clamp (show lie q.2 < 2 ^ 31 by omega), s4 _ u1]
            simp only [nI_1, z2, hi2, ha, hb, Option.bind_some]
            rw [← hmF]
            cases ba : (2 ^ ga ||| 2 ^ gb).testBit (lie q.1) with
            | false =>
              rw [ba, if_neg (by decide)] at g1
              rw [if_pos (by decide)]
              cases bb : (2 ^ ga ||| 2 ^ gb).testBit (lie q.2) with
              | false =>
                rw [bb, if_neg (by decide)] at g1
                rw [if_pos (by decide), show (0 : Int32) = nI 0 from rfl, mq_or, mq_or]
                exact g1
              | true =>
                rw [bb, if_pos rfl] at g1
                rw [if_neg (by decide), show (0 : Int32) = nI 0 from rfl, mq_or, mq_shl (by omega), mq_or]
                exact g1
            | true =>
              rw [ba, if_pos rfl] at g1
              rw [if_neg (by decide)]
              cases bb : (2 ^ ga ||| 2 ^ gb).testBit (lie q.2) with
              | false =>
                rw [bb, if_neg (by decide)] at g1
                rw [if_pos (by decide), show (0 : Int32) = nI 0 from rfl, mq_shl (by omega), mq_or, mq_or]
                exact g1
              | true =>
                rw [bb, if_pos rfl] at g1
                rw [if_neg (by decide), mq_shl (by omega), mq_or, mq_shl (by omega), mq_or]
                exact g1
  have init : ∀ (m v : Nat), v + m = 8 → ∀ i1 : mMI, (∀ x, x < v → i1 67 x = nI 0) → (∀ c, c ≠ 67 → i1 c = i c) → ∃ i', qf_Mod_knownFlat_p31 L (nI k) (nI R0.1) (nI (2 ^ ga ||| 2 ^ gb)) (0 : Int32) (nI v) i1 l = some (nI (mq_kf R0.2.2.2 (some (ga, gb))), i', l) ∧ ∀ c, c ≠ 67 → i' c = i c := by
    intro m
    induction m with
    | zero =>
      intro v hv i1 s4 s5
      have hv : v = 8 := hv
      subst hv
      obtain ⟨i', g1, g2⟩ := loop PL [] 0 0 (fun _ => 0) i1 rfl hfr0 (fun _ => Nat.zero_testBit _) (fun _ => by omega) (by omega) s4 s5 hR
      refine ⟨i', qe_Mod_knownFlat_p31 L _ _ _ _ _ i1 l _ ?_, g2⟩
      rw [if_pos (show (8 : Int32) ≤ nI 8 from nI_le (Nat.le_refl _) (by omega))]
      exact g1
    | succ m ih =>
      intro v hv i1 s4 s5
      obtain ⟨i', g1, g2⟩ := ih (v + 1) (by omega) (mj_up i1 67 v (0 : Int32)) (fun x hx => by
        rw [mq_upi_at]
        by_cases e : x = v
        · rw [if_pos e]; rfl
        · rw [if_neg e]; exact s4 x (by omega)) (fun c c1 => by rw [mq_upn c1]; exact s5 c c1)
      refine ⟨i', qe_Mod_knownFlat_p31 L _ _ _ _ _ i1 l _ ?_, g2⟩
      rw [if_neg (show ¬ (8 : Int32) ≤ nI v from nI_ge (a := v) (b := 8) (by omega) (by omega)), if_neg (nI_in (show v < 8 by omega) (by omega)), nI_clamp (by omega), nI_1]
      exact g1
  obtain ⟨i', g1, g2⟩ := init 8 0 rfl i (fun x hx => absurd hx (by omega)) (fun _ _ => rfl)
  refine ⟨i', qe_Mod_knownFlat L _ _ i l _ ?_, g2⟩
  have o5 : ga < 8 := o5
  have o6 : gb < 8 := o6
  rw [h45, if_pos (nI_pos' (by omega)), h46b, mq_shl (by omega), mq_shl (by omega), mq_or]
  exact g1
end
