/-! The first pairs: count, strike, row, feed, kind, truly, good, lamp. -/
theorem qs_isIn_1 (L : Nat) {x a b : Int32} (i : mMI) (l : mML) (h1 : ¬ x < a) (h2 : ¬ b < x) : qf_Mod_isIn L x a b i l = some (1, i, l) := by
  refine qe_Mod_isIn L x a b i l _ ?_
  rw [if_neg h1, if_neg h2]
theorem qs_isIn_lo (L : Nat) {x a b : Int32} (i : mMI) (l : mML) (h1 : x < a) : qf_Mod_isIn L x a b i l = some (0, i, l) := by
  refine qe_Mod_isIn L x a b i l _ ?_
  rw [if_pos h1]
theorem qs_isIn_hi (L : Nat) {x a b : Int32} (i : mMI) (l : mML) (h1 : ¬ x < a) (h2 : b < x) : qf_Mod_isIn L x a b i l = some (0, i, l) := by
  refine qe_Mod_isIn L x a b i l _ ?_
  rw [if_neg h1, if_pos h2]
theorem qs_bound_in (L : Nat) {x a b : Int32} (i : mMI) (l : mML) (h1 : a ≤ x) (h2 : x ≤ b) : qf_Mod_bound L x a b i l = some (0, i, l) := by
  refine qe_Mod_bound L x a b i l _ ?_
  rw [if_pos h1, if_pos h2]
theorem qs_bound_hi (L : Nat) {x a b : Int32} (i : mMI) (l : mML) (h1 : a ≤ x) (h2 : ¬ x ≤ b) : qf_Mod_bound L x a b i l = some (-6, i, l) := by
  refine qe_Mod_bound L x a b i l _ ?_
  rw [if_pos h1, if_neg h2]
theorem qs_bound_lo (L : Nat) {x a b : Int32} (i : mMI) (l : mML) (h1 : ¬ a ≤ x) : qf_Mod_bound L x a b i l = some (-4, i, l) := by
  refine qe_Mod_bound L x a b i l _ ?_
  rw [if_neg h1]
theorem mq_r1 : -(-1 : Int32) = nI 1 := by decide
theorem mq_r2 : -(-2 : Int32) = nI 2 := by decide
theorem mq_r3 : -(-3 : Int32) = nI 3 := by decide
theorem mq_r4 : -(-4 : Int32) = nI 4 := by decide
theorem mq_r6 : -(-6 : Int32) = nI 6 := by decide
theorem qs_noKind_1 (L : Nat) {x : Int32} (i : mMI) (l : mML) (h : x < 0 ∨ 5 < x) : qf_Two_noKind L x i l = some (1, i, l) := by
  refine qe_Two_noKind L x i l _ ?_
  by_cases h0 : x < 0
  · rw [if_pos h0]
  · have h6 : ¬ x < 6 := by
      have h5 : (5 : Int32) < x := h.resolve_left h0
      rw [Int32.lt_iff_toInt_lt] at h5 ⊢
      have e5 : (5 : Int32).toInt = 5 := by decide
      have e6 : (6 : Int32).toInt = 6 := by decide
      omega
    rw [if_neg h0, if_neg h6]
theorem qs_noKind_0 (L : Nat) {j : Nat} (i : mMI) (l : mML) (h : j ≤ 5) : qf_Two_noKind L (nI j) i l = some (0, i, l) := by
  refine qe_Two_noKind L _ i l _ ?_
  rw [if_neg (nI_pos (by omega)), if_pos (show nI j < (6 : Int32) from nI_lt (b := 6) (by omega) (by omega))]
theorem qs_noRule_1 (L : Nat) {x : Int32} (i : mMI) (l : mML) (h : x < 0 ∨ 5 < x) : qf_Two_noRule L x i l = some (1, i, l) := by
  refine qe_Two_noRule L x i l _ ?_
  by_cases h0 : x < 0
  · rw [if_pos h0]
  · have h6 : ¬ x < 6 := by
      have h5 : (5 : Int32) < x := h.resolve_left h0
      rw [Int32.lt_iff_toInt_lt] at h5 ⊢
      have e5 : (5 : Int32).toInt = 5 := by decide
      have e6 : (6 : Int32).toInt = 6 := by decide
      omega
    rw [if_neg h0, if_neg h6]
theorem qs_noRule_0 (L : Nat) {j : Nat} (i : mMI) (l : mML) (h : j ≤ 5) : qf_Two_noRule L (nI j) i l = some (0, i, l) := by
  refine qe_Two_noRule L _ i l _ ?_
  rw [if_neg (nI_pos (by omega)), if_pos (show nI j < (6 : Int32) from nI_lt (b := 6) (by omega) (by omega))]
/-- a number between a and b, or not -/
theorem mq_in3 (x a b : Int32) {n m : Nat} (ha : a.toInt = n) (hb : b.toInt = m) (hnm : n ≤ m) : (x < a ∧ ¬ a ≤ x) ∨ (b < x ∧ ¬ x ≤ b ∧ a ≤ x ∧ ¬ x < a) ∨ ∃ j, n ≤ j ∧ j ≤ m ∧ x = nI j ∧ a ≤ x ∧ x ≤ b ∧ ¬ x < a ∧ ¬ b < x := by
  rcases mq_tri x a b ha hb with h | (h | h) | h
  · exact Or.inl h
  · exact Or.inr (Or.inl h)
  · exact absurd h.2 (by omega)
  · exact Or.inr (Or.inr h)
section
variable {i : mMI} {l : mML} {D P M : mq_D} {R : Nat → Int32}
theorem qp_strike (L : Nat) (hC : mq_RC i D P M R) (hM : mq_RM i D P M R) (hO : mq_OkS D P M) : mq_P (fun i l => qf_Two_strike L i l) (fun i l => qf_Mod_strike L i l) i l := by
  have h9 := hO.1.2.2.2.2.2.2.2.2.2.1
  have e9 := hC.1.2.2.2.2.2.2.1
  by_cases h0 : D 9 0 = 0
  · refine mq_P_ref (r := -3) hC hM hO 3 (qe_Two_strike L i l _ ?_) (fun i0 h => qe_Mod_strike L i0 l _ ?_)
    · rw [e9, h0, if_neg (by decide), qs_refuse L i l mq_r3 (by omega), Option.bind_some]
    · rw [h.1.2.2.2.2.2.2.1, h0, if_pos (by decide), qs_no L i0 l mq_r3 (by omega), Option.bind_some]
  · obtain ⟨n, hn⟩ : ∃ n, D 9 0 = n + 1 := ⟨D 9 0 - 1, by omega⟩
    refine mq_P_D (D' := mq_u D 9 0 n) (r := nI n) (l1 := l) hC hM hO (qe_Two_strike L i l _ ?_) (mq_Ck_9 hC.1 (v := n) (by omega)) (fun k h => mq_upn (by omega)) (mq_Ok_strike hO.1 (by omega)) (fun i0 h => ⟨_, l, qe_Mod_strike L i0 l _ ?_, mq_Mk_9 h.1 (v := n) (by omega), fun k h => mq_upn (by omega), fun j h => ?_, fun k h => mq_upn (by omega)⟩)
    · rw [e9, hn, if_pos (show (0 : Int32) < nI (n + 1) from nI_lt (a := 0) (by omega) (by omega)), nI_pred]
    · rw [h.1.2.2.2.2.2.2.1, hn, if_neg (nI_ne0 (by omega) (by omega)), nI_pred]
    · rw [mq_upi_at, if_neg (by omega)]
theorem qp_row (L : Nat) (x : Int32) (hC : mq_RC i D P M R) (hM : mq_RM i D P M R) (hO : mq_OkS D P M) : mq_P (fun i l => qf_Two_row L x i l) (fun i l => qf_Mod_row L x i l) i l := by
  have hcnt := hO.2.2.2.2.2.1
  have e6 := hC.2.2.2.2.2.1
  have hp : ∀ i0, (h : mq_RM i0 D P M R) → ∀ k (y : Int32), -y = nI k → k < 7 → (¬ y = 0) → qf_Mod_row_p25 L x y i0 l = some (y, mq_ref 43 i0 k, l) := by
    intro i0 h k y hy hk h0
    refine qe_Mod_row_p25 L x y i0 l _ ?_
    rw [if_neg h0, qs_no L i0 l hy hk, Option.bind_some]
  rcases mq_in3 x 0 255 (n := 0) (m := 255) (by decide) (by decide) (by omega) with ⟨h1, h2⟩ | ⟨h1, h2, h3, h4⟩ | ⟨j, hj1, hj2, hx, h3, h4, h5, h6⟩
  · refine mq_P_ref (r := -4) hC hM hO 4 (qe_Two_row L x i l _ ?_) (fun i0 h => qe_Mod_row L x i0 l _ ?_)
    · rw [if_neg h2, qs_refuse L i l mq_r4 (by omega), Option.bind_some]
    · rw [qs_bound_lo L i0 l h2, Option.bind_some]
      rw [if_neg (show ¬ (-4 : Int32) = 0 by decide)]
      exact hp i0 h 4 (-4) mq_r4 (by omega) (by decide)
  · refine mq_P_ref (r := -6) hC hM hO 6 (qe_Two_row L x i l _ ?_) (fun i0 h => qe_Mod_row L x i0 l _ ?_)
    · rw [if_pos h3, if_pos h1, qs_refuse L i l mq_r6 (by omega), Option.bind_some]
    · rw [qs_bound_hi L i0 l h3 h2, Option.bind_some]
      rw [if_neg (show ¬ (-6 : Int32) = 0 by decide)]
      exact hp i0 h 6 (-6) mq_r6 (by omega) (by decide)
  · by_cases hf : M 2 0 = 10
    · refine mq_P_ref (r := -6) hC hM hO 6 (qe_Two_row L x i l _ ?_) (fun i0 h => qe_Mod_row L x i0 l _ ?_)
      · rw [if_pos h3, if_neg h6, e6, hf, if_neg (by decide), qs_refuse L i l mq_r6 (by omega), Option.bind_some]
      · rw [qs_bound_in L i0 l h3 h4]
        simp only [Option.bind_some, ↓reduceIte, h.2.2.2.2.2.1, hf]
        rw [if_pos (by decide)]
        exact hp i0 h 6 (-6) mq_r6 (by omega) (by decide)
    · subst hx
      have hkeep : mq_u (mq_u M 4 (M 2 0) j) 2 0 (M 2 0 + 1) 0 0 = M 0 0 ∧ mq_u (mq_u M 4 (M 2 0) j) 2 0 (M 2 0 + 1) 1 0 = M 1 0 ∧ mq_u (mq_u M 4 (M 2 0) j) 2 0 (M 2 0 + 1) 2 0 = M 2 0 + 1 ∧ (∀ y, mq_u (mq_u M 4 (M 2 0) j) 2 0 (M 2 0 + 1) 3 y = M 3 y) ∧ ∀ y, mq_u (mq_u M 4 (M 2 0) j) 2 0 (M 2 0 + 1) 4 y = if y = M 2 0 then j else M 4 y := by
        refine ⟨?_, ?_, ?_, fun y => ?_, fun y => ?_⟩ <;> simp [mq_u]
      obtain ⟨k1, k2, k3, k4, k5⟩ := hkeep
      have hgo : ∀ (f : Nat → Int32), (∀ y, y < M 2 0 → f y = nI (M 4 y)) → ∀ y, y < M 2 0 + 1 → (if y = M 2 0 then nI j else f y) = nI (if y = M 2 0 then j else M 4 y) := by
        intro f hf y hy
        by_cases e : y = M 2 0
        · rw [if_pos e, if_pos e]
        · rw [if_neg e, if_neg e]
          exact hf y (by omega)
      refine mq_P_mk (D' := D) (P' := P) (R' := R) (M' := mq_u (mq_u M 4 (M 2 0) j) 2 0 (M 2 0 + 1)) (r := nI (M 2 0 + 1)) (i1 := mj_up (mj_up i 22 (M 2 0) (nI j)) 1 6 (nI (M 2 0 + 1))) (l1 := l) hM (qe_Two_row L _ i l _ ?_) ?_ (fun k h => (mq_upn (by omega)).trans (mq_upn (by omega))) ?_ (fun i0 h => ⟨mj_up (mj_up i0 72 (M 2 0) (nI j)) 42 53 (nI (M 2 0 + 1)), l, qe_Mod_row L _ i0 l _ ?_, ?_, fun k h => (mq_upn (by omega)).trans (mq_upn (by omega))⟩)
      · rw [if_pos h3, if_neg h6, e6, if_pos (show nI (M 2 0) < (10 : Int32) from nI_lt (b := 10) (by omega) (by omega)), qs_Two_store_22 L _ i l (by omega), Option.bind_some]
        simp only [mq_upn (show 1 ≠ 22 by omega), e6]
        rw [nI_1]
      · obtain ⟨a0, a1, a2, a3, a4, a5, a6, a7⟩ := hC
        have z : mq_CD 2 3 4 5 6 7 (mj_up (mj_up i 22 (M 2 0) (nI j)) 1 6 (nI (M 2 0 + 1))) D := a0.congr (fun k h1 h2 => (mq_upn (by omega)).trans (mq_upn (by omega)))
        refine ⟨z, ?_, ?_, ?_, ?_, ?_, ?_, ?_⟩
        · rw [k1, mq_upi_at, if_neg (by omega), mq_upn (by omega)]; exact a1
        · rw [k1]
          unfold mq_CD
          simp only [mq_upn (show 8 ≠ 1 by omega), mq_upn (show 8 ≠ 22 by omega), mq_upn (show 9 ≠ 1 by omega), mq_upn (show 9 ≠ 22 by omega), mq_upn (show 10 ≠ 1 by omega), mq_upn (show 10 ≠ 22 by omega), mq_upn (show 11 ≠ 1 by omega), mq_upn (show 11 ≠ 22 by omega), mq_upn (show 12 ≠ 1 by omega), mq_upn (show 12 ≠ 22 by omega), mq_upn (show 13 ≠ 1 by omega), mq_upn (show 13 ≠ 22 by omega)]
          exact a2
        · rw [k2, mq_upn (by omega), mq_upn (by omega)]; exact a3
        · rw [k2, mq_upn (by omega), mq_upn (by omega)]; intro y hy; rw [k4]; exact a4 y hy
        · rw [k3, mq_upi_at, if_pos rfl]
        · rw [k3, mq_upn (by omega)]; intro y hy; rw [k5, mq_upi_at]; exact hgo _ a6 y hy
        · rw [mq_upn (by omega), mq_upn (by omega)]; exact a7
      · obtain ⟨o0, o1, o2, o3, o4, o5, o6⟩ := hO
        refine ⟨o0, by rw [k1]; exact o1, by rw [k1]; exact o2, by rw [k2]; exact o3, fun y hy => ?_, by rw [k3]; omega, fun y hy => ?_⟩
        · rw [k2] at hy; rw [k4]; exact o4 y hy
        · rw [k3] at hy
          rw [k5]
          by_cases e : y = M 2 0
          · rw [if_pos e]; exact hj2
          · rw [if_neg e]; exact o6 y (by omega)
      · have hc0 : M 2 0 < 10 := by omega
        rw [qs_bound_in L i0 l h3 h4]
        simp only [Option.bind_some, ↓reduceIte, h.2.2.2.2.2.1]
        rw [if_neg (show ¬ nI (M 2 0) = (10 : Int32) from fun q => hf ((nI_eq (b := 10) (by omega) (by omega)).mp q))]
        refine qe_Mod_row_p25 L _ _ i0 l _ ?_
        rw [if_pos rfl, h.2.2.2.2.2.1, if_neg (nI_in hc0 (by omega)), nI_clamp (by omega), nI_1]
      · obtain ⟨a0, a1, a2, a3, a4, a5, a6, a7⟩ := h
        have z : mq_MD (mj_up (mj_up i0 72 (M 2 0) (nI j)) 42 53 (nI (M 2 0 + 1))) D := a0.congr (fun k h1 h2 => by rw [mq_upi_at, if_neg (by omega), mq_upn (by omega)]) (fun k h1 h2 => (mq_upn (by omega)).trans (mq_upn (by omega)))
        refine ⟨z, ?_, ?_, ?_, ?_, ?_, ?_, ?_⟩
        · rw [k1, mq_upi_at, if_neg (by omega), mq_upn (by omega)]; exact a1
        · rw [k1]
          unfold mq_KD
          simp only [mq_upn (show 55 ≠ 42 by omega), mq_upn (show 55 ≠ 72 by omega), mq_upn (show 68 ≠ 42 by omega), mq_upn (show 68 ≠ 72 by omega), mq_upn (show 69 ≠ 42 by omega), mq_upn (show 69 ≠ 72 by omega)]
          exact a2
        · rw [k2, mq_upi_at, if_neg (by omega), mq_upn (by omega)]; exact a3
        · rw [k2, mq_upn (by omega), mq_upn (by omega)]; intro y hy; rw [k4]; exact a4 y hy
        · rw [k3, mq_upi_at, if_pos rfl]
        · rw [k3, mq_upn (by omega)]; intro y hy; rw [k5, mq_upi_at]; exact hgo _ a6 y hy
        · rw [mq_upn (by omega), mq_upn (by omega)]; exact a7
end
