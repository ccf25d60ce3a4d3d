/-! judge, heaps, chain. -/
section
variable {i : mMI} {l : mML} {D P M : mq_D} {R : Nat → Int32}
theorem qp_judge (L : Nat) (hC : mq_RC i D P M R) (hM : mq_RM i D P M R) (hO : mq_OkS D P M) : mq_P (fun i l => qf_Two_judge L i l) (fun i l => qf_Mod_judge L i l) i l := by
  have hp := mq_pow hO.1.1.2
  have hk5 := hO.1.2.2.2.2.2.2.2.1
  have hN := hO.2.2.2.2.2.1
  have hNv := hO.2.2.2.2.2.2
  have loop : ∀ (m k : Nat), M 2 0 ≤ k + 2 * m → k ≤ M 2 0 + 1 → ∃ r, (∀ i, mq_CD 2 3 4 5 6 7 i D → (∀ j, j < M 2 0 → i 22 j = nI (M 4 j)) → qf_Two_judge_p12 L (nI (M 2 0)) (nI k) i l = some (r, i, l)) ∧ (∀ i, mq_MD i D → (∀ j, j < M 2 0 → i 72 j = nI (M 4 j)) → qf_Mod_judge_p12 L (nI (M 2 0)) (nI k) i l = some (r, i, l)) := by
    have stop : ∀ k, M 2 0 ≤ k → k ≤ M 2 0 + 1 → ∃ r, (∀ i, mq_CD 2 3 4 5 6 7 i D → (∀ j, j < M 2 0 → i 22 j = nI (M 4 j)) → qf_Two_judge_p12 L (nI (M 2 0)) (nI k) i l = some (r, i, l)) ∧ (∀ i, mq_MD i D → (∀ j, j < M 2 0 → i 72 j = nI (M 4 j)) → qf_Mod_judge_p12 L (nI (M 2 0)) (nI k) i l = some (r, i, l)) := by
      intro k h1 h2
      refine ⟨-9, fun i _ _ => qe_Two_judge_p12 L _ _ i l _ ?_, fun i _ _ => qe_Mod_judge_p12 L _ _ i l _ ?_⟩
      · rw [if_pos (nI_le h1 (by omega))]
      · rw [if_pos (nI_le h1 (by omega))]
    intro m
    induction m with
    | zero => exact fun k h1 h2 => stop k (by omega) h2
    | succ m ih =>
      intro k h1 h2
      by_cases hk : M 2 0 ≤ k
      · exact stop k hk h2
      · have hlt : k < M 2 0 := by omega
        have e1 : nI (k + 1) = nI (M 2 0) ↔ k + 1 = M 2 0 := nI_eq (by omega) (by omega)
        have e2 : nI k + (2 : Int32) = nI (k + 2) := nI_add k 2
        rcases mq_isTry2 L (nI (M 4 k)) hO.1 with ⟨s, hs, hx, ht, g1, g2⟩ | ⟨g1, g2⟩
        · rw [hx] at g1 g2
          by_cases hl : k + 1 = M 2 0
          · refine ⟨nI k, fun i hc h22 => qe_Two_judge_p12 L _ _ i l _ ?_, fun i hm h72 => qe_Mod_judge_p12 L _ _ i l _ ?_⟩
            · rw [if_neg (nI_ge hlt (by omega))]
              simp only [qs_Two_at_22 L i l (show k < 10 by omega), Option.bind_some, h22 k hlt, hx, g1 i l hc, mq_10, ↓reduceIte, nI_1]
              rw [if_neg (nI_nlt (by omega) (by omega))]
            · rw [if_neg (nI_ge hlt (by omega)), nI_1, if_pos (e1.mpr hl)]
          · have hl2 : k + 1 < M 2 0 := by omega
            by_cases he : nI (M 4 (k + 1)) = nI (mq_tells (D 7 0) s (D 4 0))
            · obtain ⟨r, f1, f2⟩ := ih (k + 2) (by omega) (by omega)
              refine ⟨r, fun i hc h22 => qe_Two_judge_p12 L _ _ i l _ ?_, fun i hm h72 => qe_Mod_judge_p12 L _ _ i l _ ?_⟩
              · rw [if_neg (nI_ge hlt (by omega))]
                simp only [qs_Two_at_22 L i l (show k < 10 by omega), Option.bind_some, h22 k hlt, hx, g1 i l hc, mq_10, ↓reduceIte, nI_1]
                rw [if_pos (nI_lt hl2 (by omega))]
                simp only [qs_Two_at_22 L i l (show k + 1 < 10 by omega), Option.bind_some, h22 (k + 1) hl2, hc.2.1, qs_Drawer_tells_2 L i l hc.2.2.2.2.1 hk5 (show s < 1024 by omega), he, ↓reduceIte, e2]
                exact f1 i hc h22
              · rw [if_neg (nI_ge hlt (by omega)), nI_1, if_neg (fun q => hl (e1.mp q))]
                simp only [if_neg (mq_in (show k < 10 by omega) (show 10 < 2 ^ 31 by omega)), if_neg (mq_in (show k + 1 < 10 by omega) (show 10 < 2 ^ 31 by omega)), nI_clamp (show k < 2 ^ 31 by omega), nI_clamp (show k + 1 < 2 ^ 31 by omega), h72 k hlt, hx, g2 i l hm, Option.bind_some, mq_10, ↓reduceIte]
                simp only [h72 k hlt, hx, hm.2.1, h72 (k + 1) hl2, qs_Mod_tells L i l hm.2.2.2.2.1 hk5 (show s < 1024 by omega), Option.bind_some, he, ↓reduceIte, e2]
                exact f2 i hm h72
            · refine ⟨nI (k + 1), fun i hc h22 => qe_Two_judge_p12 L _ _ i l _ ?_, fun i hm h72 => qe_Mod_judge_p12 L _ _ i l _ ?_⟩
              · rw [if_neg (nI_ge hlt (by omega))]
                simp only [qs_Two_at_22 L i l (show k < 10 by omega), Option.bind_some, h22 k hlt, hx, g1 i l hc, mq_10, ↓reduceIte, nI_1]
                rw [if_pos (nI_lt hl2 (by omega))]
                simp only [qs_Two_at_22 L i l (show k + 1 < 10 by omega), Option.bind_some, h22 (k + 1) hl2, hc.2.1, qs_Drawer_tells_2 L i l hc.2.2.2.2.1 hk5 (show s < 1024 by omega), he, ↓reduceIte]
              · rw [if_neg (nI_ge hlt (by omega)), nI_1, if_neg (fun q => hl (e1.mp q))]
                simp only [if_neg (mq_in (show k < 10 by omega) (show 10 < 2 ^ 31 by omega)), if_neg (mq_in (show k + 1 < 10 by omega) (show 10 < 2 ^ 31 by omega)), nI_clamp (show k < 2 ^ 31 by omega), nI_clamp (show k + 1 < 2 ^ 31 by omega), h72 k hlt, hx, g2 i l hm, Option.bind_some, mq_10, ↓reduceIte]
                simp only [h72 k hlt, hx, hm.2.1, h72 (k + 1) hl2, qs_Mod_tells L i l hm.2.2.2.2.1 hk5 (show s < 1024 by omega), Option.bind_some, he, ↓reduceIte]
        · refine ⟨nI k, fun i hc h22 => qe_Two_judge_p12 L _ _ i l _ ?_, fun i hm h72 => qe_Mod_judge_p12 L _ _ i l _ ?_⟩
          · rw [if_neg (nI_ge hlt (by omega))]
            simp only [qs_Two_at_22 L i l (show k < 10 by omega), Option.bind_some, h22 k hlt, g1 i l hc, ↓reduceIte]
          · rw [if_neg (nI_ge hlt (by omega)), nI_1]
            by_cases hl : k + 1 = M 2 0
            · rw [if_pos (e1.mpr hl)]
            · rw [if_neg (fun q => hl (e1.mp q))]
              simp only [if_neg (mq_in (show k < 10 by omega) (show 10 < 2 ^ 31 by omega)), nI_clamp (show k < 2 ^ 31 by omega), h72 k hlt, g2 i l hm, Option.bind_some, ↓reduceIte]
  obtain ⟨r, f1, f2⟩ := loop (M 2 0) 0 (by omega) (by omega)
  have k1 : mq_u M 2 0 0 0 0 = M 0 0 := by simp [mq_u]
  have k2 : mq_u M 2 0 0 1 0 = M 1 0 := by simp [mq_u]
  have k3 : mq_u M 2 0 0 2 0 = 0 := by simp [mq_u]
  have k4 : ∀ y, mq_u M 2 0 0 3 y = M 3 y := fun y => by simp [mq_u]
  have z : mq_CD 2 3 4 5 6 7 (mj_up i 1 6 (0 : Int32)) D := hC.1.congr (fun k h1 h2 => mq_upn (by omega))
  refine mq_P_mk (D' := D) (P' := P) (R' := R) (M' := mq_u M 2 0 0) (r := r) (i1 := mj_up i 1 6 (0 : Int32)) (l1 := l) hM (qe_Two_judge L i l _ ?_) ?_ (fun k h => mq_upn (by omega)) ?_ (fun i0 h => ⟨mj_up i0 42 53 (0 : Int32), l, qe_Mod_judge L i0 l _ ?_, ?_, fun k h => mq_upn (by omega)⟩)
  · rw [hC.2.2.2.2.2.1]
    exact f1 _ z (fun j hj => by rw [mq_upn (by omega)]; exact hC.2.2.2.2.2.2.1 j hj)
  · obtain ⟨a0, a1, a2, a3, a4, a5, a6, a7⟩ := hC
    refine ⟨z, ?_, ?_, ?_, ?_, ?_, ?_, ?_⟩
    · rw [k1, mq_upi_at, if_neg (by omega)]; exact a1
    · rw [k1]
      unfold mq_CD
      simp only [mq_upn (show 8 ≠ 1 by omega), mq_upn (show 9 ≠ 1 by omega), mq_upn (show 10 ≠ 1 by omega), mq_upn (show 11 ≠ 1 by omega), mq_upn (show 12 ≠ 1 by omega), mq_upn (show 13 ≠ 1 by omega)]
      exact a2
    · rw [k2, mq_upn (by omega)]; exact a3
    · rw [k2, mq_upn (by omega)]; intro y hy; rw [k4]; exact a4 y hy
    · rw [k3, mq_upi_at, if_pos rfl]; rfl
    · rw [k3]; intro y hy; omega
    · rw [mq_upn (by omega)]; exact a7
  · obtain ⟨o0, o1, o2, o3, o4, o5, o6⟩ := hO
    refine ⟨o0, by rw [k1]; exact o1, by rw [k1]; exact o2, by rw [k2]; exact o3, fun y hy => ?_, by rw [k3]; omega, fun y hy => ?_⟩
    · rw [k2] at hy; rw [k4]; exact o4 y hy
    · rw [k3] at hy; omega
  · have zm : mq_MD (mj_up i0 42 53 (0 : Int32)) D := h.1.congr (fun j h1 h2 => by rw [mq_upi_at, if_neg (by omega)]) (fun k h1 h2 => mq_upn (by omega))
    rw [h.2.2.2.2.2.1]
    exact f2 _ zm (fun j hj => by rw [mq_upn (by omega)]; exact h.2.2.2.2.2.2.1 j hj)
  · have zm : mq_MD (mj_up i0 42 53 (0 : Int32)) D := h.1.congr (fun j h1 h2 => by rw [mq_upi_at, if_neg (by omega)]) (fun k h1 h2 => mq_upn (by omega))
    obtain ⟨a0, a1, a2, a3, a4, a5, a6, a7⟩ := h
    refine ⟨zm, ?_, ?_, ?_, ?_, ?_, ?_, ?_⟩
    · rw [k1, mq_upi_at, if_neg (by omega)]; exact a1
    · rw [k1]
      unfold mq_KD
      simp only [mq_upn (show 55 ≠ 42 by omega), mq_upn (show 68 ≠ 42 by omega), mq_upn (show 69 ≠ 42 by omega)]
      exact a2
    · rw [k2, mq_upi_at, if_neg (by omega)]; exact a3
    · rw [k2, mq_upn (by omega)]; intro y hy; rw [k4]; exact a4 y hy
    · rw [k3, mq_upi_at, if_pos rfl]; rfl
    · rw [k3]; intro y hy; omega
    · rw [mq_upn (by omega)]; exact a7
theorem mq_tri2 (a : Nat) : 2 ∣ (a + 1) * a := by
  rcases Nat.mod_two_eq_zero_or_one a with h | h
  · exact Nat.dvd_trans (Nat.dvd_of_mod_eq_zero h) (Nat.dvd_mul_left a (a + 1))
  · exact Nat.dvd_trans (Nat.dvd_of_mod_eq_zero (by omega)) (Nat.dvd_mul_right (a + 1) a)
theorem qs_pairsOf (L : Nat) (b : Nat) (i : mMI) (l : mML) (h : b < 1001) : qf_Two_pairsOf L (nI (b + 1)) i l = some (nI ((b + 1) * b / 2), i, l) := by
  have hb : (b + 1) * b ≤ 1001 * 1001 := Nat.mul_le_mul (by omega) (by omega)
  refine qe_Two_pairsOf L _ i l _ ?_
  rw [if_neg (by decide), nI_pred, pk_mul]
  have e : nI ((b + 1) * b) / (2 : Int32) = nI ((b + 1) * b / 2) := pk_div (d := 2) (by omega) (by omega) (by omega)
  rw [e]
theorem qp_heaps (L : Nat) (x y : Int32) (hC : mq_RC i D P M R) (hM : mq_RM i D P M R) (hO : mq_OkS D P M) : mq_P (fun i l => qf_Two_heaps L x y i l) (fun i l => qf_Mod_heaps L x y i l) i l := by
  have p10 : ∀ i0, mq_RM i0 D P M R → qf_Mod_heaps_p10 L x y i0 l = some (-4, mq_ref 43 i0 4, l) := fun i0 h => qe_Mod_heaps_p10 L x y i0 l _ (by rw [if_neg (by decide), qs_no L i0 l mq_r4 (by omega), Option.bind_some])
  have p27 : ∀ i0, mq_RM i0 D P M R → qf_Mod_heaps_p27 L x y i0 l = some (-6, mq_ref 43 i0 6, l) := fun i0 h => qe_Mod_heaps_p27 L x y i0 l _ (by rw [if_neg (by decide), qs_no L i0 l mq_r6 (by omega), Option.bind_some])
  by_cases h1 : x < (2 : Int32)
  · refine mq_P_ref (r := -4) hC hM hO 4 (qe_Two_heaps L x y i l _ ?_) (fun i0 h => qe_Mod_heaps L x y i0 l _ ?_)
    · rw [if_pos h1, qs_refuse L i l mq_r4 (by omega), Option.bind_some]
    · rw [if_pos h1]; exact p10 i0 h
  by_cases h2 : (2 : Int32) ≤ y
  · by_cases h3 : (999 : Int32) < x
    · refine mq_P_ref (r := -6) hC hM hO 6 (qe_Two_heaps L x y i l _ ?_) (fun i0 h => qe_Mod_heaps L x y i0 l _ ?_)
      · rw [if_neg h1, if_pos h2, if_pos h3, qs_refuse L i l mq_r6 (by omega), Option.bind_some]
      · rw [if_neg h1, if_pos h2, if_pos h3]; exact p27 i0 h
    by_cases h4 : y ≤ x
    · rcases mq_in3 x 2 999 (n := 2) (m := 999) (by decide) (by decide) (by omega) with ⟨q, _⟩ | ⟨q, _⟩ | ⟨n, hn1, hn2, rfl, -⟩
      · exact absurd q h1
      · exact absurd q h3
      rcases mq_in3 y 2 (nI n) (n := 2) (m := n) (by decide) (nI_toInt (by omega)) (by omega) with ⟨_, q⟩ | ⟨_, q, _⟩ | ⟨g, hg1, hg2, rfl, -⟩
      · exact absurd h2 q
      · exact absurd h4 q
      obtain ⟨h, rfl⟩ : ∃ h, g = h + 1 := ⟨g - 1, by omega⟩
      have hd := Nat.div_add_mod n h
      have hm := Nat.mod_lt n (show 0 < h by omega)
      have ha : 0 < n / h := Nat.div_pos (by omega) (by omega)
      have hale : n / h ≤ n := Nat.div_le_self n h
      have eD : nI n / nI h = nI (n / h) := pk_div (by omega) (by omega) (by omega)
      have eR : nI n - nI n / nI h * nI h = nI (n % h) := pk_rem (by omega) (by omega) (by omega)
      have e0 : ¬ nI h = (0 : Int32) := nI_ne0 (by omega) (by omega)
      rw [eD] at eR
      generalize hq : n / h = a at ha hale eD eR
      generalize hr : n % h = c at hm eR
      obtain ⟨b, rfl⟩ : ∃ b, a = b + 1 := ⟨a - 1, by omega⟩
      have u1 : c * (b + 1 + 1) * (b + 1) ≤ 999 * 1000 * 999 := Nat.mul_le_mul (Nat.mul_le_mul (by omega) (by omega)) (by omega)
      have u2 : (h - c) * (b + 1) * b ≤ 999 * 1000 * 999 := Nat.mul_le_mul (Nat.mul_le_mul (by omega) (by omega)) (by omega)
      have v1 : c * (b + 1 + 1) * (b + 1) / 2 = c * ((b + 1 + 1) * (b + 1) / 2) := by
        rw [Nat.mul_assoc, Nat.mul_div_assoc _ (mq_tri2 (b + 1))]
      have v2 : (h - c) * (b + 1) * b / 2 = (h - c) * ((b + 1) * b / 2) := by
        rw [Nat.mul_assoc, Nat.mul_div_assoc _ (mq_tri2 b)]
      refine mq_P_same (r := nI (c * ((b + 1 + 1) * (b + 1) / 2) + (h - c) * ((b + 1) * b / 2))) hC hM hO (qe_Two_heaps L _ _ i l _ ?_) (fun i0 h0 => qe_Mod_heaps L _ _ i0 l _ ?_)
      · rw [if_neg h1, if_pos h2, if_neg h3, if_pos h4, nI_pred]
        have eP : qf_Two_pairsWithinHeaps L (nI n) (nI h) i l = some (nI (c * ((b + 1 + 1) * (b + 1) / 2) + (h - c) * ((b + 1) * b / 2)), i, l) := by
          refine qe_Two_pairsWithinHeaps L _ _ i l _ ?_
          rw [if_pos (show (1 : Int32) ≤ nI h from nI_le (a := 1) (by omega) (by omega)), if_neg e0, if_neg e0, eD, nI_1, qs_pairsOf L (b + 1) i l (by omega), Option.bind_some]
          simp only [qs_pairsOf L b i l (show b < 1001 by omega), Option.bind_some]
          rw [eR, pk_sub (by omega), pk_mul, pk_mul, nI_add]
        rw [eP, Option.bind_some]
      · rw [if_neg h1, if_pos h2, if_neg h3, if_pos h4, if_pos rfl, nI_pred, if_neg e0, if_neg e0, if_neg (by decide), if_neg (by decide), eD, eR, nI_1, nI_pred, pk_sub (by omega), pk_mul, pk_mul, pk_mul, pk_mul]
        have w1 : nI (c * (b + 1 + 1) * (b + 1)) / (2 : Int32) = nI (c * (b + 1 + 1) * (b + 1) / 2) := pk_div (d := 2) (by omega) (by omega) (by omega)
        have w2 : nI ((h - c) * (b + 1) * b) / (2 : Int32) = nI ((h - c) * (b + 1) * b / 2) := pk_div (d := 2) (by omega) (by omega) (by omega)
        rw [w1, w2, nI_add, v1, v2]
    · refine mq_P_ref (r := -6) hC hM hO 6 (qe_Two_heaps L x y i l _ ?_) (fun i0 h => qe_Mod_heaps L x y i0 l _ ?_)
      · rw [if_neg h1, if_pos h2, if_neg h3, if_neg h4, qs_refuse L i l mq_r6 (by omega), Option.bind_some]
      · rw [if_neg h1, if_pos h2, if_neg h3, if_neg h4]; exact p27 i0 h
  · refine mq_P_ref (r := -4) hC hM hO 4 (qe_Two_heaps L x y i l _ ?_) (fun i0 h => qe_Mod_heaps L x y i0 l _ ?_)
    · rw [if_neg h1, if_neg h2, qs_refuse L i l mq_r4 (by omega), Option.bind_some]
    · rw [if_neg h1, if_neg h2]; exact p10 i0 h
end
