/-! feed, truly, good, lamp, kind. -/
section
variable {i : mMI} {l : mML} {D P M : mq_D} {R : Nat → Int32}
theorem mq_n2 : ((-2 : Int32) = 0) = False := eq_false (by decide)
theorem mq_n1 : ((-1 : Int32) = 0) = False := eq_false (by decide)
theorem mq_n4 : ((-4 : Int32) = 0) = False := eq_false (by decide)
theorem mq_n6 : ((-6 : Int32) = 0) = False := eq_false (by decide)
theorem mq_10 : ((1 : Int32) = 0) = False := eq_false (by decide)
theorem mq_01 : ((0 : Int32) = 1) = False := eq_false (by decide)
theorem qp_feed (L : Nat) (x : Int32) (hC : mq_RC i D P M R) (hM : mq_RM i D P M R) (hO : mq_OkS D P M) : mq_P (fun i l => qf_Two_feed L x i l) (fun i l => qf_Mod_feed L x i l) i l := by
  have hcnt := hO.2.2.2.1
  have e6 := hC.2.2.2.1
  have hp : ∀ i0, (h : mq_RM i0 D P M R) → ∀ k (y : Int32), -y = nI k → k < 7 → (¬ y = 0) → qf_Mod_feed_p25 L x y i0 l = some (y, mq_ref 43 i0 k, l) := by
    intro i0 h k y hy hk h0
    refine qe_Mod_feed_p25 L x y i0 l _ ?_
    rw [if_neg h0, qs_no L i0 l hy hk, Option.bind_some]
  rcases mq_in3 x 0 255 (n := 0) (m := 255) (by decide) (by decide) (by omega) with ⟨h1, h2⟩ | ⟨h1, h2, h3, h4⟩ | ⟨j, hj1, hj2, hx, h3, h4, h5, h6⟩
  · refine mq_P_ref (r := -4) hC hM hO 4 (qe_Two_feed L x i l _ ?_) (fun i0 h => qe_Mod_feed L x i0 l _ ?_)
    · rw [if_neg h2, qs_refuse L i l mq_r4 (by omega), Option.bind_some]
    · rw [qs_bound_lo L i0 l h2, Option.bind_some]
      rw [if_neg (show ¬ (-4 : Int32) = 0 by decide)]
      exact hp i0 h 4 (-4) mq_r4 (by omega) (by decide)
  · refine mq_P_ref (r := -6) hC hM hO 6 (qe_Two_feed L x i l _ ?_) (fun i0 h => qe_Mod_feed L x i0 l _ ?_)
    · rw [if_pos h3, if_pos h1, qs_refuse L i l mq_r6 (by omega), Option.bind_some]
    · rw [qs_bound_hi L i0 l h3 h2, Option.bind_some]
      rw [if_neg (show ¬ (-6 : Int32) = 0 by decide)]
      exact hp i0 h 6 (-6) mq_r6 (by omega) (by decide)
  · by_cases hf : M 1 0 = 96
    · refine mq_P_ref (r := -6) hC hM hO 6 (qe_Two_feed L x i l _ ?_) (fun i0 h => qe_Mod_feed L x i0 l _ ?_)
      · rw [if_pos h3, if_neg h6, e6, hf, if_neg (by decide), qs_refuse L i l mq_r6 (by omega), Option.bind_some]
      · rw [qs_bound_in L i0 l h3 h4]
        simp only [Option.bind_some, ↓reduceIte, h.2.2.2.1, hf]
        rw [if_pos (by decide)]
        exact hp i0 h 6 (-6) mq_r6 (by omega) (by decide)
    · subst hx
      have hkeep : mq_u (mq_u M 3 (M 1 0) j) 1 0 (M 1 0 + 1) 0 0 = M 0 0 ∧ mq_u (mq_u M 3 (M 1 0) j) 1 0 (M 1 0 + 1) 2 0 = M 2 0 ∧ mq_u (mq_u M 3 (M 1 0) j) 1 0 (M 1 0 + 1) 1 0 = M 1 0 + 1 ∧ (∀ y, mq_u (mq_u M 3 (M 1 0) j) 1 0 (M 1 0 + 1) 4 y = M 4 y) ∧ ∀ y, mq_u (mq_u M 3 (M 1 0) j) 1 0 (M 1 0 + 1) 3 y = if y = M 1 0 then j else M 3 y := by
        refine ⟨?_, ?_, ?_, fun y => ?_, fun y => ?_⟩ <;> simp [mq_u]
      obtain ⟨k1, k2, k3, k4, k5⟩ := hkeep
      have hgo : ∀ (f : Nat → Int32), (∀ y, y < M 1 0 → f y = nI (M 3 y)) → ∀ y, y < M 1 0 + 1 → (if y = M 1 0 then nI j else f y) = nI (if y = M 1 0 then j else M 3 y) := by
        intro f hf y hy
        by_cases e : y = M 1 0
        · rw [if_pos e, if_pos e]
        · rw [if_neg e, if_neg e]
          exact hf y (by omega)
      refine mq_P_mk (D' := D) (P' := P) (R' := R) (M' := mq_u (mq_u M 3 (M 1 0) j) 1 0 (M 1 0 + 1)) (r := nI (M 1 0 + 1)) (i1 := mj_up (mj_up i 21 (M 1 0) (nI j)) 20 1 (nI (M 1 0 + 1))) (l1 := l) hM (qe_Two_feed L _ i l _ ?_) ?_ (fun k h => (mq_upn (by omega)).trans (mq_upn (by omega))) ?_ (fun i0 h => ⟨mj_up (mj_up i0 49 (M 1 0) (nI j)) 42 19 (nI (M 1 0 + 1)), l, qe_Mod_feed L _ i0 l _ ?_, ?_, fun k h => (mq_upn (by omega)).trans (mq_upn (by omega))⟩)
      · have ha : qf_Letters_add L (nI j) i l = some (nI (M 1 0 + 1), mj_up (mj_up i 21 (M 1 0) (nI j)) 20 1 (nI (M 1 0 + 1)), l) := by
          refine qe_Letters_add L _ i l _ ?_
          rw [e6, qs_Two_store_21 L _ i l (by omega), Option.bind_some]
          simp only [mq_upn (show 20 ≠ 21 by omega), e6]
          rw [nI_1]
        rw [if_pos h3, if_neg h6, e6, if_pos (show nI (M 1 0) < (96 : Int32) from nI_lt (b := 96) (by omega) (by omega)), ha, Option.bind_some]
      · obtain ⟨a0, a1, a2, a3, a4, a5, a6, a7⟩ := hC
        have z : mq_CD 2 3 4 5 6 7 (mj_up (mj_up i 21 (M 1 0) (nI j)) 20 1 (nI (M 1 0 + 1))) D := a0.congr (fun k h1 h2 => (mq_upn (by omega)).trans (mq_upn (by omega)))
        refine ⟨z, ?_, ?_, ?_, ?_, ?_, ?_, ?_⟩
        · rw [k1, mq_upn (by omega), mq_upn (by omega)]; exact a1
        · rw [k1]
          unfold mq_CD
          simp only [mq_upn (show 8 ≠ 20 by omega), mq_upn (show 8 ≠ 21 by omega), mq_upn (show 9 ≠ 20 by omega), mq_upn (show 9 ≠ 21 by omega), mq_upn (show 10 ≠ 20 by omega), mq_upn (show 10 ≠ 21 by omega), mq_upn (show 11 ≠ 20 by omega), mq_upn (show 11 ≠ 21 by omega), mq_upn (show 12 ≠ 20 by omega), mq_upn (show 12 ≠ 21 by omega), mq_upn (show 13 ≠ 20 by omega), mq_upn (show 13 ≠ 21 by omega)]
          exact a2
        · rw [k3, mq_upi_at, if_pos rfl]
        · rw [k3, mq_upn (by omega)]; intro y hy; rw [k5, mq_upi_at]; exact hgo _ a4 y hy
        · rw [k2, mq_upn (by omega), mq_upn (by omega)]; exact a5
        · rw [k2, mq_upn (by omega), mq_upn (by omega)]; intro y hy; rw [k4]; exact a6 y hy
        · rw [mq_upn (by omega), mq_upn (by omega)]; exact a7
      · obtain ⟨o0, o1, o2, o3, o4, o5, o6⟩ := hO
        refine ⟨o0, by rw [k1]; exact o1, by rw [k1]; exact o2, by rw [k3]; omega, fun y hy => ?_, by rw [k2]; exact o5, fun y hy => ?_⟩
        · rw [k3] at hy
          rw [k5]
          by_cases e : y = M 1 0
          · rw [if_pos e]; exact hj2
          · rw [if_neg e]; exact o4 y (by omega)
        · rw [k2] at hy; rw [k4]; exact o6 y hy
      · have hc0 : M 1 0 < 96 := by omega
        rw [qs_bound_in L i0 l h3 h4]
        simp only [Option.bind_some, ↓reduceIte, h.2.2.2.1]
        rw [if_neg (show ¬ nI (M 1 0) = (96 : Int32) from fun q => hf ((nI_eq (b := 96) (by omega) (by omega)).mp q))]
        refine qe_Mod_feed_p25 L _ _ i0 l _ ?_
        rw [if_pos rfl, h.2.2.2.1, if_neg (nI_in hc0 (by omega)), nI_clamp (by omega), nI_1]
      · obtain ⟨a0, a1, a2, a3, a4, a5, a6, a7⟩ := h
        have z : mq_MD (mj_up (mj_up i0 49 (M 1 0) (nI j)) 42 19 (nI (M 1 0 + 1))) D := a0.congr (fun k h1 h2 => by rw [mq_upi_at, if_neg (by omega), mq_upn (by omega)]) (fun k h1 h2 => (mq_upn (by omega)).trans (mq_upn (by omega)))
        refine ⟨z, ?_, ?_, ?_, ?_, ?_, ?_, ?_⟩
        · rw [k1, mq_upi_at, if_neg (by omega), mq_upn (by omega)]; exact a1
        · rw [k1]
          unfold mq_KD
          simp only [mq_upn (show 55 ≠ 42 by omega), mq_upn (show 55 ≠ 49 by omega), mq_upn (show 68 ≠ 42 by omega), mq_upn (show 68 ≠ 49 by omega), mq_upn (show 69 ≠ 42 by omega), mq_upn (show 69 ≠ 49 by omega)]
          exact a2
        · rw [k3, mq_upi_at, if_pos rfl]
        · rw [k3, mq_upn (by omega)]; intro y hy; rw [k5, mq_upi_at]; exact hgo _ a4 y hy
        · rw [k2, mq_upi_at, if_neg (by omega), mq_upn (by omega)]; exact a5
        · rw [k2, mq_upn (by omega), mq_upn (by omega)]; intro y hy; rw [k4]; exact a6 y hy
        · rw [mq_upn (by omega), mq_upn (by omega)]; exact a7
theorem qp_truly (L : Nat) (x : Int32) (hC : mq_RC i D P M R) (hM : mq_RM i D P M R) (hO : mq_OkS D P M) : mq_P (fun i l => qf_Two_truly L x i l) (fun i l => qf_Mod_truly L x i l) i l := by
  by_cases h : x >>> (nI (D 0 0) &&& 31) = 0
  · obtain ⟨s, hs, hx⟩ := (mq_set hO.1.1.2).mp h
    subst hx
    refine mq_P_D (D' := mq_u D 4 0 s) (r := nI (D 4 0)) (l1 := l) hC hM hO (qe_Two_truly L _ i l _ ?_) (mq_Ck_s hC.1 (f := 4) (v := s) (by omega)) (fun k h => mq_upn (by omega)) (mq_Ok_truly hO.1 hs) (fun i0 h0 => ⟨_, l, qe_Mod_truly L _ i0 l _ ?_, mq_Mk_s h0.1 (f := 4) (g := 7) (v := s) (by omega), fun k h => mq_upn (by omega), fun j h => ?_, fun k h => mq_upn (by omega)⟩)
    · rw [qs_Drawer_hasAll_2 L _ i l hC.1, Option.bind_some]
      rw [if_neg (fun q => mq_tf0.mp q h)]
      simp only [hC.1.2.1]
    · rw [qs_Mod_areBatteries L _ i0 l h0.1 hO.1, Option.bind_some]
      rw [if_neg (fun q => mq_tf0.mp q h)]
      simp only [h0.1.2.1]
    · rw [mq_upi_at, if_neg (by omega)]
  · refine mq_P_ref (r := -1) hC hM hO 1 (qe_Two_truly L x i l _ ?_) (fun i0 h0 => qe_Mod_truly L x i0 l _ ?_)
    · rw [qs_Drawer_hasAll_2 L _ i l hC.1, Option.bind_some]
      rw [if_pos (mq_tf0.mpr h)]
      simp only [qs_refuse L i l mq_r1 (show 1 < 7 by omega), Option.bind_some]
    · rw [qs_Mod_areBatteries L _ i0 l h0.1 hO.1, Option.bind_some]
      rw [if_pos (mq_tf0.mpr h)]
      simp only [qs_no L i0 l mq_r1 (show 1 < 7 by omega), Option.bind_some]
theorem qp_lamp (L : Nat) (x y : Int32) (hC : mq_RC i D P M R) (hM : mq_RM i D P M R) (hO : mq_OkS D P M) : mq_P (fun i l => qf_Two_lamp L x y i l) (fun i l => qf_Mod_lamp L x y i l) i l := by
  have e7 := hC.1.2.2.2.2.1
  have e8 := hC.1.2.2.2.2.2.1
  have href : x < 0 ∨ 5 < x → mq_P (fun i l => qf_Two_lamp L x y i l) (fun i l => qf_Mod_lamp L x y i l) i l := by
    intro h
    have hi : ∀ i0, qf_Mod_isIn L x 0 5 i0 l = some (0, i0, l) := by
      intro i0
      by_cases h0 : x < 0
      · exact qs_isIn_lo L i0 l h0
      · exact qs_isIn_hi L i0 l h0 (h.resolve_left h0)
    refine mq_P_ref (r := -2) hC hM hO 2 (qe_Two_lamp L x y i l _ ?_) (fun i0 h0 => qe_Mod_lamp L x y i0 l _ ?_)
    · simp only [qs_noKind_1 L i l h, Option.bind_some, mq_10, ↓reduceIte, qs_refuse L i l mq_r2 (show 2 < 7 by omega)]
    · simp only [hi i0, Option.bind_some, mq_n2, ↓reduceIte, qs_no L i0 l mq_r2 (show 2 < 7 by omega)]
  rcases mq_in3 x 0 5 (n := 0) (m := 5) (by decide) (by decide) (by omega) with ⟨h1, h2⟩ | ⟨h1, h2, h3, h4⟩ | ⟨k, hk1, hk2, hx, h3, h4, h5, h6⟩
  · exact href (Or.inl h1)
  · exact href (Or.inr h1)
  · have hnk := qs_noKind_0 L i l hk2
    subst hx
    rcases mq_in3 y 2 4 (n := 2) (m := 4) (by decide) (by decide) (by omega) with ⟨g1, g2⟩ | ⟨g1, g2, g3, g4⟩ | ⟨n, hn1, hn2, hy, g3, g4, g5, g6⟩
    · refine mq_P_ref (r := -4) hC hM hO 4 (qe_Two_lamp L _ y i l _ ?_) (fun i0 h0 => qe_Mod_lamp L _ y i0 l _ ?_)
      · simp only [hnk, Option.bind_some, g2, ↓reduceIte, qs_refuse L i l mq_r4 (show 4 < 7 by omega)]
      · simp only [qs_isIn_1 L i0 l h5 h6, qs_bound_lo L i0 l g2, Option.bind_some, mq_10, mq_n4, ↓reduceIte, qs_no L i0 l mq_r4 (show 4 < 7 by omega)]
    · refine mq_P_ref (r := -6) hC hM hO 6 (qe_Two_lamp L _ y i l _ ?_) (fun i0 h0 => qe_Mod_lamp L _ y i0 l _ ?_)
      · simp only [hnk, Option.bind_some, g2, g3, ↓reduceIte, qs_refuse L i l mq_r6 (show 6 < 7 by omega)]
      · simp only [qs_isIn_1 L i0 l h5 h6, qs_bound_hi L i0 l g3 g2, Option.bind_some, mq_10, mq_n6, ↓reduceIte, qs_no L i0 l mq_r6 (show 6 < 7 by omega)]
    · subst hy
      have ht : qf_Drawer_takeLamp_2 L (nI k) (nI n) i l = some (mj_up (mj_up (mj_up i 2 7 (nI k)) 2 8 (nI n)) 2 9 (nI 0), l) := qe_Drawer_takeLamp_2 L _ _ i l _ rfl
      refine mq_P_D (D' := mq_u (mq_u (mq_u D 7 0 k) 8 0 n) 9 0 0) (r := nI (10 * D 7 0 + D 8 0)) (i1 := mj_up (mj_up (mj_up i 2 7 (nI k)) 2 8 (nI n)) 2 9 (nI 0)) (l1 := l) hC hM hO (qe_Two_lamp L _ _ i l _ ?_) (mq_Ck_9 (mq_Ck_s (mq_Ck_s hC.1 (f := 7) (v := k) (by omega)) (f := 8) (v := n) (by omega)) (v := 0) (by omega)) (fun k h => (mq_upn (by omega)).trans ((mq_upn (by omega)).trans (mq_upn (by omega)))) (mq_Ok_lamp hO.1 hk2 ⟨hn1, hn2⟩) (fun i0 h0 => ⟨mj_up (mj_up (mj_up i0 42 10 (nI k)) 42 11 (nI n)) 42 12 (nI 0), l, qe_Mod_lamp L _ _ i0 l _ ?_, mq_Mk_9 (mq_Mk_s (mq_Mk_s h0.1 (f := 7) (g := 10) (v := k) (by omega)) (f := 8) (g := 11) (v := n) (by omega)) (v := 0) (by omega), fun k h => (mq_upn (by omega)).trans ((mq_upn (by omega)).trans (mq_upn (by omega))), fun j h => ?_, fun k h => (mq_upn (by omega)).trans ((mq_upn (by omega)).trans (mq_upn (by omega)))⟩)
      · simp only [hnk, Option.bind_some, g3, g4, ↓reduceIte, ht, e7, e8]
        rw [show (10 : Int32) * nI (D 7 0) = nI (10 * D 7 0) from pk_mul 10 _, nI_add]
      · simp only [qs_isIn_1 L i0 l h5 h6, qs_bound_in L i0 l g3 g4, Option.bind_some, mq_10, ↓reduceIte, h0.1.2.2.2.2.1, h0.1.2.2.2.2.2.1]
        rw [show (10 : Int32) * nI (D 7 0) = nI (10 * D 7 0) from pk_mul 10 _, nI_add]
        rfl
      · rw [mq_upi_at, if_neg (by omega), mq_upi_at, if_neg (by omega), mq_upi_at, if_neg (by omega)]
end
