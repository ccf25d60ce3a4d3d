/-! The tries and the worlds in which they are lit, on both sides. -/
def mw_at (xs : List Nat) (j : Nat) : Nat := xs[j]?.getD 0
theorem mw_at_l {xs : List Nat} {a j : Nat} (h : j < xs.length) : mw_at (xs ++ [a]) j = mw_at xs j := by
  unfold mw_at
  rw [List.getElem?_append_left h]
theorem mw_at_e {xs : List Nat} {a : Nat} : mw_at (xs ++ [a]) xs.length = a := by
  unfold mw_at
  rw [List.getElem?_concat_length]
  rfl
/-- the tries below a number -/
def mw_tl (D : mq_D) : Nat → List Nat
  | 0 => []
  | m + 1 => if mq_need D m = true then mw_tl D m ++ [m] else mw_tl D m
theorem mw_tl_1 {D : mq_D} {m : Nat} (h : mq_need D m = true) : mw_tl D (m + 1) = mw_tl D m ++ [m] := if_pos h
theorem mw_tl_0 {D : mq_D} {m : Nat} (h : mq_need D m = false) : mw_tl D (m + 1) = mw_tl D m := if_neg (by rw [h]; decide)
theorem mw_tl_ct (D : mq_D) (m : Nat) : (mw_tl D m).length = mq_ct (mq_need D) m := by
  induction m with
  | zero => rfl
  | succ m ih =>
    simp only [mq_ct]
    cases h : mq_need D m
    · rw [mw_tl_0 h, ih]; rfl
    · rw [mw_tl_1 h, List.length_append, ih]; rfl
theorem mw_tl_n : ∀ n, n < 7 → ∀ q, q < 5 → mq_ct (fun s => decide (s < 2 ^ n) && decide (mq_pop s = q)) 64 ≤ 20 := by decide +kernel
theorem mw_tl_len {D : mq_D} (hO : mq_Ok D) (h6 : D 0 0 ≤ 6) {m : Nat} (hm : m ≤ 64) : (mw_tl D m).length ≤ 20 := by
  have h8 := hO.2.2.2.2.2.2.2.2.1
  have h := mw_tl_n (D 0 0) (by omega) (D 8 0) (by omega)
  rw [mw_tl_ct]
  have e := mq_ct_shift (mq_need D) m (64 - m)
  rw [show m + (64 - m) = 64 by omega] at e
  have h2 : mq_ct (mq_need D) 64 ≤ 20 := h
  omega
theorem mw_tl_out (D : mq_D) (k : Nat) : mw_tl D (2 ^ D 0 0 + k) = mw_tl D (2 ^ D 0 0) := by
  induction k with
  | zero => rfl
  | succ k ih => rw [← Nat.add_assoc, mw_tl_0 (mq_need_out (by omega)), ih]
theorem mw_tl_lt (D : mq_D) (m : Nat) : ∀ j, j < (mw_tl D m).length → mw_at (mw_tl D m) j < m := by
  induction m with
  | zero => intro j hj; exact absurd hj (by show ¬ j < 0; omega)
  | succ m ih =>
    intro j hj
    cases h : mq_need D m
    · rw [mw_tl_0 h] at hj ⊢
      have := ih j hj
      omega
    · rw [mw_tl_1 h] at hj ⊢
      by_cases e : j < (mw_tl D m).length
      · rw [mw_at_l e]
        have := ih j e
        omega
      · rw [List.length_append] at hj
        have : j = (mw_tl D m).length := by
          have : [m].length = 1 := rfl
          omega
        rw [this, mw_at_e]
        omega
/-- the worlds that may be -/
def mw_my (D : mq_D) (w : Nat) : Bool := decide (w < 2 ^ D 0 0) && mq_may D w
/-- a try of so many is lit in a world that may be -/
def mw_lt (D : mq_D) (s w : Nat) : Bool := mw_my D w && decide (w &&& s = s)
theorem mw_Wm {D : mq_D} (hO : mq_Ok D) (w : Nat) : mq_Wm D w = 0 ↔ mw_my D w = false := by
  unfold mw_my
  by_cases h : w < 2 ^ D 0 0
  · rw [mq_Wm_0 hO h, decide_eq_true h, Bool.true_and]
    cases mq_may D w
    · exact ⟨fun _ => rfl, fun _ => by decide⟩
    · exact ⟨fun z => absurd rfl z, fun z => by cases z⟩
  · rw [mq_Wm_out hO w (by omega), decide_eq_false h, Bool.false_and]
    exact ⟨fun _ => rfl, fun _ => rfl⟩
theorem mw_p6 {n : Nat} (h : n ≤ 6) : 2 ^ n ≤ 64 := Nat.pow_le_pow_right (by omega) h
theorem mw_h_put {y : Int64} {P : Nat → Bool} {w : Nat} (hw : w < 64) (h : ∀ v, v < 64 → mq_h y v = (decide (v < w) && P v)) (hP : P w = true) : ∀ v, v < 64 → mq_h (y ||| ((1 : Int64) <<< (Int32.toInt64 (nI w) &&& 63))) v = (decide (v < w + 1) && P v) := by
  intro v hv
  rw [mq_h_or, h v hv, mq_h_1 w hw v hv]
  by_cases e : v = w
  · subst e
    rw [hP, decide_eq_true (show v < v + 1 by omega), decide_eq_true rfl]
    simp
  · rw [decide_eq_false e, Bool.or_false]
    congr 1
    exact decide_eq_decide.mpr (by omega)
theorem mw_h_skip {y : Int64} {P : Nat → Bool} {w : Nat} (h : ∀ v, v < 64 → mq_h y v = (decide (v < w) && P v)) (hP : P w = false) : ∀ v, v < 64 → mq_h y v = (decide (v < w + 1) && P v) := by
  intro v hv
  rw [h v hv]
  by_cases e : v = w
  · subst e
    rw [hP, Bool.and_false, Bool.and_false]
  · congr 1
    exact decide_eq_decide.mpr (by omega)
theorem mw_h_or0 (y : Int64) (v : Nat) : mq_h (y ||| (0 : Int64)) v = mq_h y v := by rw [mq_h_or, mq_h_0, Bool.or_false]
theorem qs_worldsHolding (L : Nat) {s N : Nat} (i : mMI) (l : mML) (hs : s < 64) (hN : N ≤ 64) : ∃ y, qf_Cover_worldsHolding L (nI s) (nI N) i l = some (y, i, l) ∧ ∀ v, v < 64 → mq_h y v = (decide (v < N) && decide (v &&& s = s)) := by
  have loop : ∀ (m w : Nat), w + m = N → ∀ y, (∀ v, v < 64 → mq_h y v = (decide (v < w) && decide (v &&& s = s))) → ∃ y', qf_Cover_worldsHolding_p5 L (nI s) (nI N) y (nI w) i l = some (y', i, l) ∧ ∀ v, v < 64 → mq_h y' v = (decide (v < N) && decide (v &&& s = s)) := by
    intro m
    induction m with
    | zero =>
      intro w hw y hy
      have hw : w = N := hw
      subst hw
      refine ⟨y, qe_Cover_worldsHolding_p5 L _ _ _ _ i l _ ?_, hy⟩
      rw [if_pos (nI_le (Nat.le_refl _) (by omega))]
    | succ m ih =>
      intro w hw y hy
      have ec : nI (w &&& s) = nI s ↔ w &&& s = s := nI_eq (Nat.lt_of_le_of_lt Nat.and_le_left (by omega)) (by omega)
      by_cases hc : w &&& s = s
      · obtain ⟨y', g1, g2⟩ := ih (w + 1) (by omega) _ (mw_h_put (by omega) hy (decide_eq_true hc))
        refine ⟨y', qe_Cover_worldsHolding_p5 L _ _ _ _ i l _ ?_, g2⟩
        rw [if_neg (nI_ge (by omega) (by omega)), mq_and, if_pos (ec.mpr hc), nI_1]
        exact g1
      · obtain ⟨y', g1, g2⟩ := ih (w + 1) (by omega) _ (mw_h_skip hy (decide_eq_false hc))
        refine ⟨y', qe_Cover_worldsHolding_p5 L _ _ _ _ i l _ ?_, g2⟩
        rw [if_neg (nI_ge (by omega) (by omega)), mq_and, if_neg (fun z => hc (ec.mp z)), nI_1]
        exact g1
  obtain ⟨y', g1, g2⟩ := loop N 0 (by omega) 0 (fun v _ => by rw [mq_h_0, decide_eq_false (by omega), Bool.false_and])
  exact ⟨y', qe_Cover_worldsHolding L _ _ i l _ g1, g2⟩
/-- the class holds the tries and where they are lit -/
def mw_CL (D : mq_D) (i : mMI) (l : mML) : Prop := i 31 3 = nI (mw_tl D 64).length ∧ (∀ j, j < (mw_tl D 64).length → i 32 j = nI (mw_at (mw_tl D 64) j)) ∧ (∀ j, j < (mw_tl D 64).length → ∀ w, w < 64 → mq_h (l 33 j) w = mw_lt D (mw_at (mw_tl D 64) j) w) ∧ ∀ j, j ≤ (mw_tl D 64).length → ∀ w, w < 64 → (mq_h (l 34 j) w = true ↔ ∃ k, j ≤ k ∧ k < (mw_tl D 64).length ∧ mw_lt D (mw_at (mw_tl D 64) k) w = true)
theorem qs_listTries (L : Nat) {D : mq_D} {y : Int64} (i : mMI) (l : mML) (hO : mq_Ok D) (h6 : D 0 0 ≤ 6) (hy : ∀ w, w < 64 → mq_h y w = mw_my D w) : ∃ i' l', qf_Cover_listTries L (nI (2 ^ D 0 0)) (nI (D 8 0)) y i l = some (i', l') ∧ mw_CL D i' l' ∧ (∀ k, k ≠ 31 → k ≠ 32 → i' k = i k) := by
  have hN := mw_p6 h6
  have h8 := hO.2.2.2.2.2.2.2.2.1
  have et : mw_tl D (2 ^ D 0 0) = mw_tl D 64 := by
    have := mw_tl_out D (64 - 2 ^ D 0 0)
    rw [show 2 ^ D 0 0 + (64 - 2 ^ D 0 0) = 64 by omega] at this
    exact this.symm
  have h20 := mw_tl_len hO h6 (Nat.le_refl 64)
  -- from behind
  have back : ∀ (x : Nat), x ≤ (mw_tl D 64).length → ∀ (i1 : mMI) (l1 : mML), (∀ j, j < (mw_tl D 64).length → ∀ w, w < 64 → mq_h (l1 33 j) w = mw_lt D (mw_at (mw_tl D 64) j) w) → (∀ j, x ≤ j → j ≤ (mw_tl D 64).length → ∀ w, w < 64 → (mq_h (l1 34 j) w = true ↔ ∃ k, j ≤ k ∧ k < (mw_tl D 64).length ∧ mw_lt D (mw_at (mw_tl D 64) k) w = true)) → ∃ l', qf_Cover_listTries_p100 L (nI x - (1 : Int32)) i1 l1 = some (i1, l') ∧ (∀ j, j < (mw_tl D 64).length → ∀ w, w < 64 → mq_h (l' 33 j) w = mw_lt D (mw_at (mw_tl D 64) j) w) ∧ ∀ j, j ≤ (mw_tl D 64).length → ∀ w, w < 64 → (mq_h (l' 34 j) w = true ↔ ∃ k, j ≤ k ∧ k < (mw_tl D 64).length ∧ mw_lt D (mw_at (mw_tl D 64) k) w = true) := by
    intro x
    induction x with
    | zero =>
      intro hx i1 l1 a1 a2
      refine ⟨l1, qe_Cover_listTries_p100 L _ i1 l1 _ ?_, a1, fun j hj => a2 j (by omega) hj⟩
      rw [if_pos (show nI 0 - (1 : Int32) < 0 by decide)]
    | succ x ih =>
      intro hx i1 l1 a1 a2
      obtain ⟨l', g1, g2, g3⟩ := ih (by omega) i1 (mj_up l1 34 x (l1 34 (x + 1) ||| l1 33 x)) (fun j hj w hw => by rw [show mj_up l1 34 x (l1 34 (x + 1) ||| l1 33 x) 33 = l1 33 from by funext k; simp [mj_up]]; exact a1 j hj w hw) (fun j h1 h2 w hw => by
        by_cases e : j = x
        · subst e
          rw [show mj_up l1 34 j (l1 34 (j + 1) ||| l1 33 j) 34 j = l1 34 (j + 1) ||| l1 33 j from by simp [mj_up], mq_h_or, Bool.or_eq_true, a2 (j + 1) (by omega) (by omega) w hw, a1 j (by omega) w hw]
          constructor
          · rintro (⟨k, k1, k2, k3⟩ | k3)
            · exact ⟨k, by omega, k2, k3⟩
            · exact ⟨j, Nat.le_refl _, by omega, k3⟩
          · rintro ⟨k, k1, k2, k3⟩
            by_cases ek : k = j
            · subst ek
              exact Or.inr k3
            · exact Or.inl ⟨k, by omega, k2, k3⟩
        · rw [show mj_up l1 34 x (l1 34 (x + 1) ||| l1 33 x) 34 j = l1 34 j from by simp [mj_up, e]]
          exact a2 j (by omega) h2 w hw)
      refine ⟨l', qe_Cover_listTries_p100 L _ i1 l1 _ ?_, g2, g3⟩
      rw [show nI (x + 1) - (1 : Int32) = nI x from pk_sub (a := x + 1) (b := 1) (by omega), if_neg (show ¬ nI x < (0 : Int32) from nI_pos (by omega)), nI_1, qs_Two_atL_34 L i1 l1 (by omega), Option.bind_some]
      dsimp only
      rw [qs_Two_atL_33 L i1 l1 (by omega), Option.bind_some]
      dsimp only
      rw [qs_Two_storeL_34 L _ i1 l1 (by omega), Option.bind_some]
      dsimp only
      rw [show nI x + (-1 : Int32) = nI x - 1 from (Int32.sub_eq_add_neg (nI x) 1).symm]
      exact g1
  have loop : ∀ (m s : Nat), s + m = 2 ^ D 0 0 → ∀ (i1 : mMI) (l1 : mML), i1 31 3 = nI (mw_tl D s).length → (∀ j, j < (mw_tl D s).length → i1 32 j = nI (mw_at (mw_tl D s) j)) → (∀ j, j < (mw_tl D s).length → ∀ w, w < 64 → mq_h (l1 33 j) w = mw_lt D (mw_at (mw_tl D s) j) w) → (∀ k, k ≠ 31 → k ≠ 32 → i1 k = i k) → ∃ i' l', qf_Cover_listTries_p8 L (nI (2 ^ D 0 0)) (nI (D 8 0)) y (nI s) i1 l1 = some (i', l') ∧ mw_CL D i' l' ∧ (∀ k, k ≠ 31 → k ≠ 32 → i' k = i k) := by
    intro m
    induction m with
    | zero =>
      intro s hs i1 l1 a1 a2 a3 a4
      have hs : s = 2 ^ D 0 0 := hs
      subst hs
      rw [et] at a1 a2 a3
      obtain ⟨l', g1, g2, g3⟩ := back (mw_tl D 64).length (Nat.le_refl _) i1 (mj_up l1 34 (mw_tl D 64).length (0 : Int64)) (fun j hj w hw => by rw [show mj_up l1 34 (mw_tl D 64).length (0 : Int64) 33 = l1 33 from by funext k; simp [mj_up]]; exact a3 j hj w hw) (fun j h1 h2 w hw => by
        have e : j = (mw_tl D 64).length := by omega
        rw [e, show mj_up l1 34 (mw_tl D 64).length (0 : Int64) 34 (mw_tl D 64).length = 0 from by simp [mj_up], mq_h_0]
        exact ⟨(fun z => by cases z), (fun ⟨k, k1, k2, _⟩ => by omega)⟩)
      refine ⟨i1, l', qe_Cover_listTries_p8 L _ _ _ _ i1 l1 _ ?_, ⟨a1, a2, g2, g3⟩, a4⟩
      rw [if_pos (nI_le (Nat.le_refl _) (by omega)), a1, qs_Two_storeL_34 L _ i1 l1 (by omega), Option.bind_some]
      dsimp only
      rw [a1]
      exact g1
    | succ m ih =>
      intro s hs i1 l1 a1 a2 a3 a4
      have hpop := mq_pop_le s
      have e8 : nI (mq_pop s) = nI (D 8 0) ↔ mq_pop s = D 8 0 := nI_eq (by omega) (by omega)
      cases hn : mq_need D s with
      | false =>
        have hne : ¬ mq_pop s = D 8 0 := fun z => by
          rw [(mq_need_in (show s < 2 ^ D 0 0 by omega)).mpr z] at hn
          cases hn
        obtain ⟨i', l', g⟩ := ih (s + 1) (by omega) i1 l1 (by rw [mw_tl_0 hn]; exact a1) (by rw [mw_tl_0 hn]; exact a2) (by rw [mw_tl_0 hn]; exact a3) a4
        refine ⟨i', l', qe_Cover_listTries_p8 L _ _ _ _ i1 l1 _ ?_, g.2⟩
        rw [if_neg (nI_ge (by omega) (by omega)), qs_bitCount L i1 l1 (by omega), Option.bind_some]
        dsimp only
        rw [if_neg (fun z => hne (e8.mp z)), nI_1]
        exact g.1
      | true =>
        have hpe := (mq_need_in (show s < 2 ^ D 0 0 by omega)).mp hn
        have hl := mw_tl_len hO h6 (m := s + 1) (by omega)
        rw [mw_tl_1 hn, List.length_append] at hl
        have hl1 : (mw_tl D s).length < 20 := by
          have : [s].length = 1 := rfl
          omega
        obtain ⟨z, z1, z2⟩ := qs_worldsHolding L (s := s) (N := 2 ^ D 0 0) (mj_up i1 32 (mw_tl D s).length (nI s)) l1 (by omega) hN
        have en : (mw_tl D (s + 1)).length = (mw_tl D s).length + 1 := by rw [mw_tl_1 hn, List.length_append]; rfl
        obtain ⟨i', l', g⟩ := ih (s + 1) (by omega) (mj_up (mj_up i1 32 (mw_tl D s).length (nI s)) 31 3 (nI ((mw_tl D s).length + 1))) (mj_up l1 33 (mw_tl D s).length (y &&& z)) (by rw [mq_upi_at, if_pos rfl, en]) (fun j hj => by
          rw [en] at hj
          rw [mq_upn (by omega), mq_upi_at, mw_tl_1 hn]
          by_cases e : j = (mw_tl D s).length
          · rw [if_pos e, e, mw_at_e]
          · rw [if_neg e, mw_at_l (by omega)]
            exact a2 j (by omega)) (fun j hj w hw => by
          rw [en] at hj
          rw [mw_tl_1 hn]
          by_cases e : j = (mw_tl D s).length
          · rw [e, mw_at_e, show mj_up l1 33 (mw_tl D s).length (y &&& z) 33 (mw_tl D s).length = y &&& z from by simp [mj_up], mq_h_and, hy w hw, z2 w hw]
            unfold mw_lt mw_my
            cases decide (w < 2 ^ D 0 0) <;> simp
          · rw [mw_at_l (by omega), show mj_up l1 33 (mw_tl D s).length (y &&& z) 33 j = l1 33 j from by simp [mj_up, e]]
            exact a3 j (by omega) w hw) (fun k h1 h2 => by rw [mq_upn h1, mq_upn h2]; exact a4 k h1 h2)
        refine ⟨i', l', qe_Cover_listTries_p8 L _ _ _ _ i1 l1 _ ?_, g.2⟩
        rw [if_neg (nI_ge (by omega) (by omega)), qs_bitCount L i1 l1 (by omega), Option.bind_some]
        dsimp only
        rw [if_pos (e8.mpr hpe), if_neg (show ¬ (20 : Int32) ≤ i1 31 3 from by rw [a1]; exact nI_ge (a := (mw_tl D s).length) (b := 20) hl1 (by omega)), a1, qs_Two_store_32 L _ i1 l1 hl1, Option.bind_some]
        dsimp only
        rw [z1, Option.bind_some]
        dsimp only
        rw [mq_upn (show 31 ≠ 32 by omega), a1, qs_Two_storeL_33 L _ _ l1 hl1, Option.bind_some]
        dsimp only
        rw [mq_upn (show 31 ≠ 32 by omega), a1, nI_1, nI_1]
        exact g.1
  obtain ⟨i', l', g⟩ := loop (2 ^ D 0 0) 0 (by omega) (mj_up i 31 3 (0 : Int32)) l (by rw [mq_upi_at, if_pos rfl]; rfl) (fun j hj => absurd hj (by show ¬ j < 0; omega)) (fun j hj => absurd hj (by show ¬ j < 0; omega)) (fun k h1 _ => mq_upn h1)
  exact ⟨i', l', qe_Cover_listTries L _ _ _ i l _ g.1, g.2⟩
/-- the model holds the tries and where they are lit -/
def mw_ML (D : mq_D) (i : mMI) (l : mML) : Prop := i 42 34 = nI (mw_tl D 64).length ∧ (∀ j, j < (mw_tl D 64).length → i 58 j = nI (mw_at (mw_tl D 64) j)) ∧ ∀ j, j < (mw_tl D 64).length → ∀ w, w < 64 → mq_h (l 60 j) w = mw_lt D (mw_at (mw_tl D 64) j) w
theorem mw_MD {i i' : mMI} {D : mq_D} (h : mq_MD i D) (g : ∀ a, a ≠ 42 → a ≠ 58 → i' a = i a) (g2 : ∀ j, j ≠ 34 → i' 42 j = i 42 j) : mq_MD i' D := by
  unfold mq_MD at h ⊢
  rw [g 44 (by omega) (by omega), g 45 (by omega) (by omega), g 46 (by omega) (by omega), g 47 (by omega) (by omega), g 48 (by omega) (by omega), g2 6 (by omega), g2 7 (by omega), g2 8 (by omega), g2 9 (by omega), g2 10 (by omega), g2 11 (by omega), g2 12 (by omega)]
  exact h
theorem qs_findLights (L : Nat) {D : mq_D} (i : mMI) (l : mML) (hM : mq_MD i D) (hO : mq_Ok D) (h6 : D 0 0 ≤ 6) (h56 : ∀ w, w < 256 → mq_Wm D w < 2 ^ 31 ∧ i 56 w = nI (mq_Wm D w)) : ∃ y i' l', qf_Mod_findLights L i l = some (y, i', l') ∧ mw_ML D i' l' ∧ (∀ w, w < 64 → mq_h y w = mw_my D w) ∧ (∀ a, a ≠ 42 → a ≠ 58 → i' a = i a) ∧ ∀ j, j ≠ 34 → i' 42 j = i 42 j := by
  have h20 := mw_tl_len hO h6 (Nat.le_refl 64)
  have e56 : ∀ (i1 : mMI), (∀ a, a ≠ 42 → a ≠ 58 → i1 a = i a) → ∀ w, w < 256 → (i1 56 w ≤ (0 : Int32) ↔ mw_my D w = false) := by
    intro i1 hi w hw
    rw [hi 56 (by omega) (by omega), (h56 w hw).2, ← mw_Wm hO w]
    by_cases h : mq_Wm D w = 0
    · exact ⟨fun _ => h, fun _ => by rw [h]; exact (by decide : nI 0 ≤ (0 : Int32))⟩
    · exact ⟨fun z => absurd z (nI_ge (a := 0) (b := mq_Wm D w) (by omega) (h56 w hw).1), fun z => absurd z h⟩
  -- one try's worlds
  have inner : ∀ (m w s q : Nat), w + m = 64 → s < 64 → q < 20 → ∀ (y : Int64) (i1 : mMI) (l1 : mML), (∀ a, a ≠ 42 → a ≠ 58 → i1 a = i a) → i1 42 34 = nI q → (∀ v, v < 64 → mq_h (l1 60 q) v = (decide (v < w) && mw_lt D s v)) → ∃ l', (∀ r, qf_Mod_findLights_p9 L y (nI (s + 1)) (mj_up i1 42 34 (nI (q + 1))) l' = some r → qf_Mod_findLights_p68 L y (nI s) (nI w) i1 l1 = some r) ∧ (∀ v, v < 64 → mq_h (l' 60 q) v = mw_lt D s v) ∧ ∀ j, j ≠ q → l' 60 j = l1 60 j := by
    intro m
    induction m with
    | zero =>
      intro w s q hw hs hq y i1 l1 a1 a2 a3
      have hw : w = 64 := hw
      subst hw
      refine ⟨l1, fun r hr => qe_Mod_findLights_p68 L _ _ _ i1 l1 _ ?_, fun v hv => by rw [a3 v hv, decide_eq_true hv, Bool.true_and], fun _ _ => rfl⟩
      rw [if_pos (show (64 : Int32) ≤ nI 64 from nI_le (a := 64) (b := 64) (Nat.le_refl _) (by omega)), a2, nI_1, nI_1]
      exact hr
    | succ m ih =>
      intro w s q hw hs hq y i1 l1 a1 a2 a3
      have c64 : ¬ (64 : Int32) ≤ nI w := nI_ge (a := w) (b := 64) (by omega) (by omega)
      have rest : ∀ x : Int64, (∀ v, v < 64 → mq_h x v = (decide (v < w + 1) && mw_lt D s v)) → ∃ l', (∀ r, qf_Mod_findLights_p9 L y (nI (s + 1)) (mj_up i1 42 34 (nI (q + 1))) l' = some r → qf_Mod_findLights_p68 L y (nI s) (nI (w + 1)) i1 (mj_up l1 60 q x) = some r) ∧ (∀ v, v < 64 → mq_h (l' 60 q) v = mw_lt D s v) ∧ ∀ j, j ≠ q → l' 60 j = l1 60 j := by
        intro x hx
        obtain ⟨l', g1, g2, g3⟩ := ih (w + 1) s q (by omega) hs hq y i1 (mj_up l1 60 q x) a1 a2 (by rw [show mj_up l1 60 q x 60 q = x from by simp [mj_up]]; exact hx)
        exact ⟨l', g1, g2, fun j hj => (g3 j hj).trans (by simp [mj_up, hj])⟩
      cases hmy : mw_my D w with
      | false =>
        have hlt : mw_lt D s w = false := by unfold mw_lt; rw [hmy, Bool.false_and]
        obtain ⟨l', g1, g2⟩ := rest (l1 60 q ||| (0 : Int64)) (fun v hv => by rw [mw_h_or0]; exact mw_h_skip a3 hlt v hv)
        refine ⟨l', fun r hr => qe_Mod_findLights_p68 L _ _ _ i1 l1 _ ?_, g2⟩
        rw [if_neg c64, a2, if_neg (nI_in hq (by omega)), if_neg (nI_in (show w < 256 by omega) (by omega)), nI_clamp (show w < 2 ^ 31 by omega), if_pos ((e56 i1 a1 w (by omega)).mpr hmy), if_neg (nI_in hq (by omega)), nI_clamp (show q < 2 ^ 31 by omega), nI_1]
        exact g1 r hr
      | true =>
        have c0 : ¬ i1 56 w ≤ (0 : Int32) := fun z => by
          rw [(e56 i1 a1 w (by omega)).mp z] at hmy
          cases hmy
        by_cases hc : w &&& s = s
        · have hlt : mw_lt D s w = true := by unfold mw_lt; rw [hmy, decide_eq_true hc]; rfl
          obtain ⟨l', g1, g2⟩ := rest _ (mw_h_put (by omega) a3 hlt)
          refine ⟨l', fun r hr => qe_Mod_findLights_p68 L _ _ _ i1 l1 _ ?_, g2⟩
          rw [if_neg c64, a2, if_neg (nI_in hq (by omega)), if_neg (nI_in (show w < 256 by omega) (by omega)), nI_clamp (show w < 2 ^ 31 by omega), if_neg c0, if_pos ((mq_andn (by omega) (by omega)).mpr (by rw [Nat.and_comm]; exact hc)), if_neg (nI_in hq (by omega)), nI_clamp (show q < 2 ^ 31 by omega), nI_1]
          exact g1 r hr
        · have hlt : mw_lt D s w = false := by unfold mw_lt; rw [decide_eq_false hc, Bool.and_false]
          obtain ⟨l', g1, g2⟩ := rest (l1 60 q ||| (0 : Int64)) (fun v hv => by rw [mw_h_or0]; exact mw_h_skip a3 hlt v hv)
          refine ⟨l', fun r hr => qe_Mod_findLights_p68 L _ _ _ i1 l1 _ ?_, g2⟩
          rw [if_neg c64, a2, if_neg (nI_in hq (by omega)), if_neg (nI_in (show w < 256 by omega) (by omega)), nI_clamp (show w < 2 ^ 31 by omega), if_neg c0, if_neg (fun z => hc (by have := (mq_andn (show s < 1024 by omega) (show w < 1024 by omega)).mp z; rw [Nat.and_comm] at this; exact this)), if_neg (nI_in hq (by omega)), nI_clamp (show q < 2 ^ 31 by omega), nI_1]
          exact g1 r hr
  have loop : ∀ (m s : Nat), s + m = 64 → ∀ (y : Int64) (i1 : mMI) (l1 : mML), (∀ v, v < 64 → mq_h y v = (decide (v < s) && mw_my D v)) → i1 42 34 = nI (mw_tl D s).length → (∀ j, j < (mw_tl D s).length → i1 58 j = nI (mw_at (mw_tl D s) j)) → (∀ j, j < (mw_tl D s).length → ∀ w, w < 64 → mq_h (l1 60 j) w = mw_lt D (mw_at (mw_tl D s) j) w) → (∀ a, a ≠ 42 → a ≠ 58 → i1 a = i a) → (∀ j, j ≠ 34 → i1 42 j = i 42 j) → ∃ y' i' l', qf_Mod_findLights_p9 L y (nI s) i1 l1 = some (y', i', l') ∧ mw_ML D i' l' ∧ (∀ w, w < 64 → mq_h y' w = mw_my D w) ∧ (∀ a, a ≠ 42 → a ≠ 58 → i' a = i a) ∧ ∀ j, j ≠ 34 → i' 42 j = i 42 j := by
    intro m
    induction m with
    | zero =>
      intro s hs y i1 l1 a0 a1 a2 a3 a4 a5
      have hs : s = 64 := hs
      subst hs
      refine ⟨y, i1, l1, qe_Mod_findLights_p9 L _ _ i1 l1 _ ?_, ⟨a1, a2, a3⟩, fun w hw => by rw [a0 w hw, decide_eq_true hw, Bool.true_and], a4, a5⟩
      rw [if_pos (show (64 : Int32) ≤ nI 64 from nI_le (a := 64) (b := 64) (Nat.le_refl _) (by omega))]
    | succ m ih =>
      intro s hs y i1 l1 a0 a1 a2 a3 a4 a5
      have c64 : ¬ (64 : Int32) ≤ nI s := nI_ge (a := s) (b := 64) (by omega) (by omega)
      have hM1 := mw_MD hM a4 a5
      have ond := qs_isOfNeeds L (s := s) i1 l1 hM1 hO (by omega)
      -- with the world taken into account
      have step : ∀ y2 : Int64, (∀ v, v < 64 → mq_h y2 v = (decide (v < s + 1) && mw_my D v)) → ∃ y' i' l', (∀ r, some (y', i', l') = some r → ((qf_Mod_isOfNeeds L (nI s) i1 l1).bind fun q1 => (if (q1.1 : Int32) = (0 : Int32) then (qf_Mod_findLights_p9 L y2 (nI s + (1 : Int32)) q1.2.1 q1.2.2) else (if ((q1.2.1 42 34) : Int32) < 0 ∨ 20 ≤ Int32.toNatClampNeg (q1.2.1 42 34) then none else (if ((q1.2.1 42 34) : Int32) < 0 ∨ 20 ≤ Int32.toNatClampNeg (q1.2.1 42 34) then none else (qf_Mod_findLights_p68 L y2 (nI s) (0 : Int32) (mj_up q1.2.1 58 (Int32.toNatClampNeg (q1.2.1 42 34)) (nI s)) (mj_up q1.2.2 60 (Int32.toNatClampNeg (q1.2.1 42 34)) (0 : Int64))))))) = some r) ∧ mw_ML D i' l' ∧ (∀ w, w < 64 → mq_h y' w = mw_my D w) ∧ (∀ a, a ≠ 42 → a ≠ 58 → i' a = i a) ∧ ∀ j, j ≠ 34 → i' 42 j = i 42 j := by
        intro y2 hy2
        cases hn : mq_need D s with
        | false =>
          obtain ⟨y', i', l', g, g2⟩ := ih (s + 1) (by omega) y2 i1 l1 hy2 (by rw [mw_tl_0 hn]; exact a1) (by rw [mw_tl_0 hn]; exact a2) (by rw [mw_tl_0 hn]; exact a3) a4 a5
          refine ⟨y', i', l', fun r hr => ?_, g2⟩
          rw [ond.2 hn, Option.bind_some]
          dsimp only
          rw [if_pos rfl, nI_1, g]
          exact hr
        | true =>
          have hl := mw_tl_len hO h6 (m := s + 1) (by omega)
          have en : (mw_tl D (s + 1)).length = (mw_tl D s).length + 1 := by rw [mw_tl_1 hn, List.length_append]; rfl
          have hl1 : (mw_tl D s).length < 20 := by omega
          obtain ⟨l2, k1, k2, k3⟩ := inner 64 0 s (mw_tl D s).length rfl (by omega) hl1 y2 (mj_up i1 58 (mw_tl D s).length (nI s)) (mj_up l1 60 (mw_tl D s).length (0 : Int64)) (fun a h1 h2 => by rw [mq_upn h2]; exact a4 a h1 h2) (by rw [mq_upn (by omega)]; exact a1) (fun v hv => by rw [show mj_up l1 60 (mw_tl D s).length (0 : Int64) 60 (mw_tl D s).length = 0 from by simp [mj_up], mq_h_0, decide_eq_false (by omega), Bool.false_and])
          obtain ⟨y', i', l', g, g2⟩ := ih (s + 1) (by omega) y2 (mj_up (mj_up i1 58 (mw_tl D s).length (nI s)) 42 34 (nI ((mw_tl D s).length + 1))) l2 hy2 (by rw [mq_upi_at, if_pos rfl, en]) (fun j hj => by
            rw [en] at hj
            rw [mq_upn (by omega), mq_upi_at, mw_tl_1 hn]
            by_cases e : j = (mw_tl D s).length
            · rw [if_pos e, e, mw_at_e]
            · rw [if_neg e, mw_at_l (by omega)]
              exact a2 j (by omega)) (fun j hj w hw => by
            rw [en] at hj
            rw [mw_tl_1 hn]
            by_cases e : j = (mw_tl D s).length
            · rw [e, mw_at_e]
              exact k2 w hw
            · rw [mw_at_l (by omega), k3 j e, show mj_up l1 60 (mw_tl D s).length (0 : Int64) 60 j = l1 60 j from by simp [mj_up, e]]
              exact a3 j (by omega) w hw) (fun a h1 h2 => by rw [mq_upn h1, mq_upn h2]; exact a4 a h1 h2) (fun j hj => by rw [mq_upi_at, if_neg hj, mq_upn (by omega)]; exact a5 j hj)
          refine ⟨y', i', l', fun r hr => ?_, g2⟩
          rw [ond.1 hn, Option.bind_some]
          dsimp only
          rw [if_neg (by decide)]
          simp only [a1, if_neg (nI_in hl1 (show 20 < 2 ^ 31 by omega))]
          simp only [nI_clamp (show (mw_tl D s).length < 2 ^ 31 by omega)]
          exact k1 r (by rw [g]; exact hr)
      cases hmy : mw_my D s with
      | false =>
        obtain ⟨y', i', l', g1, g2⟩ := step (y ||| (0 : Int64)) (fun v hv => by rw [mw_h_or0]; exact mw_h_skip a0 hmy v hv)
        refine ⟨y', i', l', qe_Mod_findLights_p9 L _ _ i1 l1 _ ?_, g2⟩
        rw [if_neg c64, if_neg (nI_in (show s < 256 by omega) (by omega)), nI_clamp (show s < 2 ^ 31 by omega), if_pos ((e56 i1 a4 s (by omega)).mpr hmy)]
        exact g1 _ rfl
      | true =>
        obtain ⟨y', i', l', g1, g2⟩ := step _ (mw_h_put (by omega) a0 hmy)
        refine ⟨y', i', l', qe_Mod_findLights_p9 L _ _ i1 l1 _ ?_, g2⟩
        rw [if_neg c64, if_neg (nI_in (show s < 256 by omega) (by omega)), nI_clamp (show s < 2 ^ 31 by omega), if_neg (fun z => by
          rw [(e56 i1 a4 s (by omega)).mp z] at hmy
          cases hmy)]
        exact g1 _ rfl
  obtain ⟨y', i', l', g, g2, g3, g4, g5⟩ := loop 64 0 rfl 0 (mj_up i 42 34 (0 : Int32)) l (fun v _ => by rw [mq_h_0, decide_eq_false (by omega), Bool.false_and]) (by rw [mq_upi_at, if_pos rfl]; rfl) (fun j hj => absurd hj (by show ¬ j < 0; omega)) (fun j hj => absurd hj (by show ¬ j < 0; omega)) (fun a h1 _ => mq_upn h1) (fun j hj => by rw [mq_upi_at, if_neg hj])
  exact ⟨y', i', l', qe_Mod_findLights L i l _ g, g2, g3, g4, g5⟩
