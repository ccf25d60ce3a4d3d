/-! good, kind, would, tries, book, battery, count. -/
section
variable {i : mMI} {l : mML} {D P M : mq_D} {R : Nat → Int32}
theorem qp_good (L : Nat) (x y : Int32) (hC : mq_RC i D P M R) (hM : mq_RM i D P M R) (hO : mq_OkS D P M) : mq_P (fun i l => qf_Two_good L x y i l) (fun i l => qf_Mod_good L x y i l) i l := by
  have hn := hO.1.1.2
  have hg := hO.1.2.2.2.2.2.1
  have e0 := hC.1.1
  have e5 := hC.1.2.2.1
  have e6 := hC.1.2.2.2.1
  have href : ¬ y = 0 → ¬ y = 1 → (∀ i0, qf_Mod_isIn L y 0 1 i0 l = some (0, i0, l)) → mq_P (fun i l => qf_Two_good L x y i l) (fun i l => qf_Mod_good L x y i l) i l := by
    intro h0 h1 hi
    refine mq_P_ref (r := -2) hC hM hO 2 (qe_Two_good L x y i l _ ?_) (fun i0 h0 => qe_Mod_good L x y i0 l _ ?_)
    · simp only [h0, h1, ↓reduceIte, Option.bind_some, qs_refuse L i l mq_r2 (show 2 < 7 by omega)]
    · simp only [hi i0, Option.bind_some, mq_n2, ↓reduceIte, qs_no L i0 l mq_r2 (show 2 < 7 by omega)]
  rcases mq_in3 y 0 1 (n := 0) (m := 1) (by decide) (by decide) (by omega) with ⟨h1, h2⟩ | ⟨h1, h2, h3, h4⟩ | ⟨a, ha1, ha2, hy, h3, h4, h5, h6⟩
  · exact href (fun e => by rw [e] at h1; exact absurd h1 (by decide)) (fun e => by rw [e] at h1; exact absurd h1 (by decide)) (fun i0 => qs_isIn_lo L i0 l h1)
  · exact href (fun e => by rw [e] at h1; exact absurd h1 (by decide)) (fun e => by rw [e] at h1; exact absurd h1 (by decide)) (fun i0 => qs_isIn_hi L i0 l h4 h1)
  · have h16 : ∀ r, qf_Two_good_p16 L x y i l = some r → qf_Two_good L x y i l = some r := by
      intro r hr
      refine qe_Two_good L x y i l _ ?_
      by_cases z : y = 0
      · rw [if_pos z]; exact hr
      · have z1 : y = 1 := by
          have : a = 1 := by
            apply Nat.le_antisymm ha2
            apply Nat.pos_of_ne_zero
            intro e
            subst e
            exact z hy
          rw [hy, this]
          rfl
        rw [if_neg z, if_pos z1]; exact hr
    rcases mq_in3 x 0 (nI (D 0 0)) (n := 0) (m := D 0 0) (by decide) (nI_toInt (by omega)) (by omega) with ⟨g1, g2⟩ | ⟨g1, g2, g3, g4⟩ | ⟨g, hg1, hg2, hx, g3, g4, g5, g6⟩
    · refine mq_P_ref (r := -4) hC hM hO 4 (h16 _ (qe_Two_good_p16 L x y i l _ ?_)) (fun i0 h0 => qe_Mod_good L x y i0 l _ ?_)
      · simp only [g2, ↓reduceIte, Option.bind_some, qs_refuse L i l mq_r4 (show 4 < 7 by omega)]
      · simp only [qs_isIn_1 L i0 l h5 h6, qs_bound_lo L i0 l g2, Option.bind_some, mq_10, mq_n4, ↓reduceIte, qs_no L i0 l mq_r4 (show 4 < 7 by omega)]
    · refine mq_P_ref (r := -6) hC hM hO 6 (h16 _ (qe_Two_good_p16 L x y i l _ ?_)) (fun i0 h0 => qe_Mod_good L x y i0 l _ ?_)
      · simp only [e0, g3, g2, ↓reduceIte, Option.bind_some, qs_refuse L i l mq_r6 (show 6 < 7 by omega)]
      · simp only [qs_isIn_1 L i0 l h5 h6, h0.1.1, qs_bound_hi L i0 l g3 g2, Option.bind_some, mq_10, mq_n6, ↓reduceIte, qs_no L i0 l mq_r6 (show 6 < 7 by omega)]
    · have er : ∀ u v : Int32, u = nI (D 5 0) → v = nI (D 6 0) → (2 : Int32) * u + v = nI (2 * D 5 0 + D 6 0) := by
        intro u v hu hv
        rw [hu, hv, show (2 : Int32) * nI (D 5 0) = nI (2 * D 5 0) from pk_mul 2 _, nI_add]
      subst hx hy
      refine mq_P_D (D' := mq_u (mq_u D 5 0 g) 6 0 a) (r := nI (2 * D 5 0 + D 6 0)) (i1 := mj_up (mj_up i 2 5 (nI g)) 2 6 (nI a)) (l1 := l) hC hM hO (h16 _ (qe_Two_good_p16 L _ _ i l _ ?_)) (mq_Ck_s (mq_Ck_s hC.1 (f := 5) (v := g) (by omega)) (f := 6) (v := a) (by omega)) (fun k h => (mq_upn (by omega)).trans (mq_upn (by omega))) (mq_Ok_good hO.1 hg2 ha2) (fun i0 h0 => ⟨mj_up (mj_up i0 42 8 (nI g)) 42 9 (nI a), l, qe_Mod_good L _ _ i0 l _ ?_, mq_Mk_s (mq_Mk_s h0.1 (f := 5) (g := 8) (v := g) (by omega)) (f := 6) (g := 9) (v := a) (by omega), fun k h => (mq_upn (by omega)).trans (mq_upn (by omega)), fun j h => ?_, fun k h => (mq_upn (by omega)).trans (mq_upn (by omega))⟩)
      · simp only [e0, g3, g4, ↓reduceIte, er _ _ e5 e6]
      · simp only [qs_isIn_1 L i0 l h5 h6, h0.1.1, qs_bound_in L i0 l g3 g4, Option.bind_some, mq_10, ↓reduceIte, er _ _ h0.1.2.2.1 h0.1.2.2.2.1]
      · rw [mq_upi_at, if_neg (by omega), mq_upi_at, if_neg (by omega)]
theorem mq_batt {x : Int32} {n : Nat} (h : 0 ≤ x ∧ x < nI n) (hn : n < 2 ^ 31) : ∃ b, b < n ∧ x = nI b := by
  have h1 := h.1
  have h2 := h.2
  rw [Int32.le_iff_toInt_le] at h1
  rw [Int32.lt_iff_toInt_lt, nI_toInt hn] at h2
  have e0 : (0 : Int32).toInt = 0 := by decide
  refine ⟨x.toInt.toNat, by omega, ?_⟩
  apply Int32.toInt_inj.mp
  rw [nI_toInt (by omega)]
  omega
theorem qp_kind (L : Nat) (x y z : Int32) (hC : mq_RC i D P M R) (hM : mq_RM i D P M R) (hO : mq_OkS D P M) : mq_P (fun i l => qf_Two_kind L x y z i l) (fun i l => qf_Mod_kind L x y z i l) i l := by
  have hn := hO.1.1.2
  by_cases hb : 0 ≤ x ∧ x < nI (D 0 0)
  · obtain ⟨b, hb2, hx⟩ := mq_batt hb (by omega)
    have hb8 : b < 8 := by omega
    have hhas := qs_Drawer_has_2 L x i l hC.1 hO.1
    have hisb : ∀ i0, mq_RM i0 D P M R → qf_Mod_isBattery L x i0 l = some (mq_tf (0 ≤ x ∧ x < nI (D 0 0)), i0, l) := fun i0 h0 => qs_Mod_isBattery L x i0 l h0.1
    simp only [mq_tf_is hb] at hhas hisb
    have href : y < 0 ∨ 5 < y → mq_P (fun i l => qf_Two_kind L x y z i l) (fun i l => qf_Mod_kind L x y z i l) i l := by
      intro h
      have hi : ∀ i0, qf_Mod_isIn L y 0 5 i0 l = some (0, i0, l) := by
        intro i0
        by_cases h0 : y < 0
        · exact qs_isIn_lo L i0 l h0
        · exact qs_isIn_hi L i0 l h0 (h.resolve_left h0)
      refine mq_P_ref (r := -2) hC hM hO 2 (qe_Two_kind L x y z i l _ ?_) (fun i0 h0 => qe_Mod_kind L x y z i0 l _ ?_)
      · simp only [hhas, qs_noKind_1 L i l h, Option.bind_some, mq_10, ↓reduceIte, qs_refuse L i l mq_r2 (show 2 < 7 by omega)]
      · simp only [hisb i0 h0, hi i0, Option.bind_some, mq_10, mq_n2, ↓reduceIte, qs_no L i0 l mq_r2 (show 2 < 7 by omega)]
    rcases mq_in3 y 0 5 (n := 0) (m := 5) (by decide) (by decide) (by omega) with ⟨h1, h2⟩ | ⟨h1, h2, h3, h4⟩ | ⟨k, hk1, hk2, hy, h3, h4, h5, h6⟩
    · exact href (Or.inl h1)
    · exact href (Or.inr h1)
    · have hnk := qs_noKind_0 L i l hk2
      rw [← hy] at hnk
      rcases mq_in3 z 0 9 (n := 0) (m := 9) (by decide) (by decide) (by omega) with ⟨g1, g2⟩ | ⟨g1, g2, g3, g4⟩ | ⟨n, hn1, hn2, hz, g3, g4, g5, g6⟩
      · refine mq_P_ref (r := -4) hC hM hO 4 (qe_Two_kind L x y z i l _ ?_) (fun i0 h0 => qe_Mod_kind L x y z i0 l _ ?_)
        · simp only [hhas, hnk, Option.bind_some, g2, mq_10, ↓reduceIte, qs_refuse L i l mq_r4 (show 4 < 7 by omega)]
        · simp only [hisb i0 h0, qs_isIn_1 L i0 l h5 h6, qs_bound_lo L i0 l g2, Option.bind_some, mq_10, mq_n4, ↓reduceIte, qs_no L i0 l mq_r4 (show 4 < 7 by omega)]
      · refine mq_P_ref (r := -6) hC hM hO 6 (qe_Two_kind L x y z i l _ ?_) (fun i0 h0 => qe_Mod_kind L x y z i0 l _ ?_)
        · simp only [hhas, hnk, Option.bind_some, g2, g3, mq_10, ↓reduceIte, qs_refuse L i l mq_r6 (show 6 < 7 by omega)]
        · simp only [hisb i0 h0, qs_isIn_1 L i0 l h5 h6, qs_bound_hi L i0 l g3 g2, Option.bind_some, mq_10, mq_n6, ↓reduceIte, qs_no L i0 l mq_r6 (show 6 < 7 by omega)]
      · have er : ∀ u v : Int32, u = nI (D 1 b) → v = nI (D 2 b) → (10 : Int32) * u + v = nI (10 * D 1 b + D 2 b) := by
          intro u v hu hv
          rw [hu, hv, show (10 : Int32) * nI (D 1 b) = nI (10 * D 1 b) from pk_mul 10 _, nI_add]
        have hmk : qf_Drawer_mark_2 L (nI b) (nI k) (nI n) i l = some (mj_up (mj_up i 3 b (nI k)) 4 b (nI n), l) := by
          refine qe_Drawer_mark_2 L _ _ _ i l _ ?_
          simp only [qs_Two_store_3 L _ i l hb8, Option.bind_some, qs_Two_store_4 L _ _ l hb8]
        subst hx hy hz
        refine mq_P_D (D' := mq_mark D b k n) (r := nI (10 * D 1 b + D 2 b)) (i1 := mj_up (mj_up i 3 b (nI k)) 4 b (nI n)) (l1 := l) hC hM hO (qe_Two_kind L _ _ _ i l _ ?_) (mq_Ck_mark hC.1) (fun k h => (mq_upn (by omega)).trans (mq_upn (by omega))) (mq_Ok_mark hO.1 hk2 hn2) (fun i0 h0 => ⟨mj_up (mj_up i0 44 b (nI k)) 45 b (nI n), l, qe_Mod_kind L _ _ _ i0 l _ ?_, mq_Mk_mark h0.1, fun k h => (mq_upn (by omega)).trans (mq_upn (by omega)), fun j h => ?_, fun k h => (mq_upn (by omega)).trans (mq_upn (by omega))⟩)
        · simp only [hhas, hnk, Option.bind_some, mq_10, g3, g4, ↓reduceIte, qs_Two_at_3 L i l hb8, qs_Two_at_4 L i l hb8, hmk, er _ _ (hC.1.2.2.2.2.2.2.2.1 b hb8) (hC.1.2.2.2.2.2.2.2.2.1 b hb8)]
        · simp only [hisb i0 h0, qs_isIn_1 L i0 l h5 h6, qs_bound_in L i0 l g3 g4, Option.bind_some, mq_10, ↓reduceIte, if_neg (nI_in hb8 (show 8 < 2 ^ 31 by omega))]
          simp only [nI_clamp (show b < 2 ^ 31 by omega), er _ _ (h0.1.2.2.2.2.2.2.2.1 b hb8) (h0.1.2.2.2.2.2.2.2.2.1 b hb8)]
        · rw [mq_upn (by omega), mq_upn (by omega)]
  · refine mq_P_ref (r := -1) hC hM hO 1 (qe_Two_kind L x y z i l _ ?_) (fun i0 h0 => qe_Mod_kind L x y z i0 l _ ?_)
    · simp only [qs_Drawer_has_2 L x i l hC.1 hO.1, mq_tf_no hb, Option.bind_some, ↓reduceIte, qs_refuse L i l mq_r1 (show 1 < 7 by omega)]
    · simp only [qs_Mod_isBattery L x i0 l h0.1, mq_tf_no hb, Option.bind_some, mq_n1, ↓reduceIte, qs_no L i0 l mq_r1 (show 1 < 7 by omega)]
end
