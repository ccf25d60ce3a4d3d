/-! count, may, likely, lit. -/
section
variable {i : mMI} {l : mML} {D P M : mq_D} {R : Nat → Int32}
theorem mq_look (L : Nat) (i : mMI) (l : mML) (hC : mq_RC i D P M R) (hO : mq_OkS D P M) : ∃ i' l', qf_Worlds_look_2 L i l = some (i', l') ∧ mq_RC i' D P M R ∧ (∀ k, 42 ≤ k → i' k = i k) ∧ i' 24 7 = nI (D 0 0) ∧ i' 24 8 = nI (2 ^ D 0 0) ∧ i' 24 9 = nI (mq_cnt (mq_Wm D) 256) ∧ (∀ s, s < 2 ^ D 0 0 → l' 26 s = lN (mq_sw (mq_Wm D) s 256)) ∧ (∀ w, w < 2 ^ D 0 0 → mq_may D w = true → i' 27 (mq_mc D w) = nI w) ∧ (∀ w, w < 2 ^ D 0 0 → l' 25 w = lN (mq_Wm D w)) ∧ ∀ k, k ≠ 24 → k ≠ 27 → i' k = i k := by
  obtain ⟨i', l', g, g1, g2, g3, g4, g5, g6, g7, g8, g9⟩ := qs_look L i l hC.1 hO.1
  refine ⟨i', l', g, hC.congr (fun k h => g1 k (by omega) (by omega)), fun k h => g1 k (by omega) (by omega), g3, g4, ?_, ?_, g6, ?_, g1⟩
  · rw [g5, mq_cnt_mc D hO.1]
  · intro s hs
    rw [g9 s hs, mq_both D hO.1 hs]
  · intro w hw
    rw [g8 w hw]
    unfold mq_Wm mq_W
    by_cases h : mq_may D w = true
    · rw [if_pos h, if_pos ⟨hw, h⟩]
    · rw [if_neg h, if_neg (fun q => h q.2)]
theorem mq_fm (L : Nat) (i : mMI) (l : mML) (hM : mq_RM i D P M R) (hO : mq_OkS D P M) : ∃ i', qf_Mod_findMay L i l = some (i', l) ∧ mq_RM i' D P M R ∧ (∀ k, k < 42 → i' k = i k) ∧ (∀ w, w < 256 → mq_Wm D w < 2 ^ 31 ∧ i' 56 w = nI (mq_Wm D w)) ∧ ∀ k, k ≠ 56 → i' k = i k := by
  refine ⟨_, qs_findMay L i l hM.1 hO.1, hM.congr (fun j _ => by rw [mq_fl_ne (by omega)]) (fun k h => mq_fl_ne (by omega)), fun k h => mq_fl_ne (by omega), fun w hw => ⟨?_, ?_⟩, fun k h => mq_fl_ne h⟩
  · have := mq_Wm_lt hO.1 w
    omega
  · simp [mq_fl, hw]
/-- a call that changes scratch alone -/
theorem mq_P_scr {α : Type} {f g : mMI → mML → Option (α × mMI × mML)} {i1 : mMI} {l1 : mML} (r : α) (hM : mq_RM i D P M R) (hO : mq_OkS D P M) (hf : f i l = some (r, i1, l1)) (hc : mq_RC i1 D P M R) (hk : ∀ k, 42 ≤ k → i1 k = i k)
    (hg : ∀ i0, mq_RM i0 D P M R → ∃ i2 l2, g i0 l1 = some (r, i2, l2) ∧ mq_RM i2 D P M R ∧ ∀ k, k < 42 → i2 k = i0 k) : mq_P f g i l := mq_P_mk hM hf hc hk hO hg
theorem qp_count (L : Nat) (x : Int32) (hC : mq_RC i D P M R) (hM : mq_RM i D P M R) (hO : mq_OkS D P M) : mq_P (fun i l => qf_Two_count L x i l) (fun i l => qf_Mod_count L x i l) i l := by
  have hp := mq_pow hO.1.1.2
  have h4 := hO.1.2.2.2.2.1
  obtain ⟨c0, c1, c2, c3, c4, c5, c6, -⟩ := hC.1
  by_cases h : x < 11 ∨ 16 < x
  · have hi : ∀ i0, qf_Mod_isIn L x 11 16 i0 l = some (0, i0, l) := by
      intro i0
      by_cases h0 : x < 11
      · exact qs_isIn_lo L i0 l h0
      · exact qs_isIn_hi L i0 l h0 (h.resolve_left h0)
    have same : ∀ r : Int32, qf_Two_count L x i l = some (r, i, l) → (∀ i0, mq_RM i0 D P M R → qf_Mod_count L x i0 l = some (r, i0, l)) → mq_P (fun i l => qf_Two_count L x i l) (fun i l => qf_Mod_count L x i l) i l := fun r h1 h2 => mq_P_same hC hM hO h1 h2
    by_cases x0 : x = 0
    · refine same (nI (D 0 0)) (qe_Two_count L x i l _ ?_) (fun i0 h0 => qe_Mod_count L x i0 l _ ?_)
      · simp only [x0, ↓reduceIte, c0]
      · simp only [hi i0, Option.bind_some, ↓reduceIte]
        simp only [x0, ↓reduceIte, h0.1.1]
    by_cases x1 : x = 1
    · refine same (nI (D 9 0)) (qe_Two_count L x i l _ ?_) (fun i0 h0 => qe_Mod_count L x i0 l _ ?_)
      · simp only [x0, ↓reduceIte]
        rw [if_pos x1, c6]
      · simp only [hi i0, Option.bind_some, ↓reduceIte, x0]
        rw [if_pos x1, h0.1.2.2.2.2.2.2.1]
    by_cases x2 : x = 2
    · refine same (nI (mq_pop (D 4 0))) (qe_Two_count L x i l _ ?_) (fun i0 h0 => qe_Mod_count L x i0 l _ ?_)
      · simp only [x0, x1, ↓reduceIte]
        rw [if_pos x2, c1, qs_bitCount L i l (by omega), Option.bind_some]
      · simp only [hi i0, Option.bind_some, ↓reduceIte, x0, x1]
        rw [if_pos x2, h0.1.2.1, qs_bits L i0 l (by omega), Option.bind_some]
    by_cases x3 : x = 3
    · refine same (nI (D 5 0)) (qe_Two_count L x i l _ ?_) (fun i0 h0 => qe_Mod_count L x i0 l _ ?_)
      · simp only [x0, x1, x2, ↓reduceIte]
        rw [if_pos x3, c2]
      · simp only [hi i0, Option.bind_some, ↓reduceIte, x0, x1, x2]
        rw [if_pos x3, h0.1.2.2.1]
    by_cases x4 : x = 4
    · refine same (nI (D 6 0)) (qe_Two_count L x i l _ ?_) (fun i0 h0 => qe_Mod_count L x i0 l _ ?_)
      · simp only [x0, x1, x2, x3, ↓reduceIte]
        rw [if_pos x4, c3]
      · simp only [hi i0, Option.bind_some, ↓reduceIte, x0, x1, x2, x3]
        rw [if_pos x4, h0.1.2.2.2.1]
    by_cases x5 : x = 5
    · refine same (nI (D 7 0)) (qe_Two_count L x i l _ ?_) (fun i0 h0 => qe_Mod_count L x i0 l _ ?_)
      · simp only [x0, x1, x2, x3, x4, ↓reduceIte]
        rw [if_pos x5, c4]
      · simp only [hi i0, Option.bind_some, ↓reduceIte, x0, x1, x2, x3, x4]
        rw [if_pos x5, h0.1.2.2.2.2.1]
    by_cases x6 : x = 6
    · refine same (nI (D 8 0)) (qe_Two_count L x i l _ ?_) (fun i0 h0 => qe_Mod_count L x i0 l _ ?_)
      · simp only [x0, x1, x2, x3, x4, x5, ↓reduceIte]
        rw [if_pos x6, c5]
      · simp only [hi i0, Option.bind_some, ↓reduceIte, x0, x1, x2, x3, x4, x5]
        rw [if_pos x6, h0.1.2.2.2.2.2.1]
    by_cases x7 : x = 7
    · refine same (nI (M 1 0)) (qe_Two_count L x i l _ ?_) (fun i0 h0 => qe_Mod_count L x i0 l _ ?_)
      · simp only [x0, x1, x2, x3, x4, x5, x6, ↓reduceIte]
        rw [if_pos x7, hC.2.2.2.1]
      · simp only [hi i0, Option.bind_some, ↓reduceIte, x0, x1, x2, x3, x4, x5, x6]
        rw [if_pos x7, h0.2.2.2.1]
    by_cases x8 : x = 8
    · refine same (nI (M 2 0)) (qe_Two_count L x i l _ ?_) (fun i0 h0 => qe_Mod_count L x i0 l _ ?_)
      · simp only [x0, x1, x2, x3, x4, x5, x6, x7, ↓reduceIte]
        rw [if_pos x8, hC.2.2.2.2.2.1]
      · simp only [hi i0, Option.bind_some, ↓reduceIte, x0, x1, x2, x3, x4, x5, x6, x7]
        rw [if_pos x8, h0.2.2.2.2.2.1]
    by_cases x9 : x = 9
    · obtain ⟨i1, l1, g, gC, gk, g7, g8, g9, -⟩ := mq_look L i l hC hO
      refine mq_P_scr (nI (mq_cnt (mq_Wm D) 256)) hM hO (qe_Two_count L x i l (nI (mq_cnt (mq_Wm D) 256), i1, l1) ?_) gC gk (fun i0 h0 => ?_)
      · simp only [x0, x1, x2, x3, x4, x5, x6, x7, x8, ↓reduceIte]
        rw [if_pos x9, g, Option.bind_some]
        simp only [g9]
      · obtain ⟨i2, e, eM, ek, eG, -⟩ := mq_fm L i0 l1 h0 hO
        refine ⟨i2, l1, qe_Mod_count L x i0 l1 _ ?_, eM, ek⟩
        have hi1 : qf_Mod_isIn L x 11 16 i0 l1 = some (0, i0, l1) := by
          by_cases h0 : x < 11
          · exact qs_isIn_lo L i0 l1 h0
          · exact qs_isIn_hi L i0 l1 h0 (h.resolve_left h0)
        simp only [hi1, Option.bind_some, ↓reduceIte, x0, x1, x2, x3, x4, x5, x6, x7, x8]
        rw [if_pos x9, e, Option.bind_some]
        simp only [qs_mayMany L i2 l1 (mq_Wm D) eG, Option.bind_some]
    · refine same (-9) (qe_Two_count L x i l _ ?_) (fun i0 h0 => qe_Mod_count L x i0 l _ ?_)
      · simp only [x0, x1, x2, x3, x4, x5, x6, x7, x8, x9, ↓reduceIte]
        by_cases h0 : x < 11
        · rw [if_pos h0]
        · rw [if_neg h0, if_pos (h.resolve_left h0)]
      · simp only [hi i0, Option.bind_some, ↓reduceIte, x0, x1, x2, x3, x4, x5, x6, x7, x8, x9]
  · rcases mq_in3 x 11 16 (n := 11) (m := 16) (by decide) (by decide) (by omega) with ⟨h1, h2⟩ | ⟨h1, h2, h3, h4⟩ | ⟨j, hj1, hj2, hx, h3, h4, h5, h6⟩
    · exact absurd (Or.inl h1) h
    · exact absurd (Or.inr h1) h
    · have ne : ∀ k, k < 11 → ¬ x = nI k := fun k hk q => by
        rw [hx] at q
        have := (nI_eq (by omega) (by omega)).mp q
        omega
      have e10 : x - 10 = nI (j - 10) := by
        rw [hx]
        exact pk_sub (b := 10) (by omega)
      refine mq_P_same (r := R (j - 10)) hC hM hO (qe_Two_count L x i l _ ?_) (fun i0 h0 => qe_Mod_count L x i0 l _ ?_)
      · rw [if_neg (show ¬ x = (0 : Int32) from ne 0 (by omega)), if_neg (show ¬ x = (1 : Int32) from ne 1 (by omega)), if_neg (show ¬ x = (2 : Int32) from ne 2 (by omega)), if_neg (show ¬ x = (3 : Int32) from ne 3 (by omega)), if_neg (show ¬ x = (4 : Int32) from ne 4 (by omega)), if_neg (show ¬ x = (5 : Int32) from ne 5 (by omega)), if_neg (show ¬ x = (6 : Int32) from ne 6 (by omega)), if_neg (show ¬ x = (7 : Int32) from ne 7 (by omega)), if_neg (show ¬ x = (8 : Int32) from ne 8 (by omega)), if_neg (show ¬ x = (9 : Int32) from ne 9 (by omega)), if_neg h5, if_neg h6, e10, qs_Two_at_23 L i l (by omega), Option.bind_some]
        simp only [hC.2.2.2.2.2.2.2 (j - 10) (by omega)]
      · rw [qs_isIn_1 L i0 l h5 h6, Option.bind_some, e10]
        simp only [mq_10, ↓reduceIte]
        rw [if_neg (nI_in (show j - 10 < 7 by omega) (by omega)), nI_clamp (by omega)]
        simp only [h0.2.2.2.2.2.2.2 (j - 10) (by omega)]
theorem qp_may (L : Nat) (x : Int32) (hC : mq_RC i D P M R) (hM : mq_RM i D P M R) (hO : mq_OkS D P M) : mq_P (fun i l => qf_Two_may L x i l) (fun i l => qf_Mod_may L x i l) i l := by
  have hn := hO.1.1
  rcases mq_in3 x 0 2 (n := 0) (m := 2) (by decide) (by decide) (by omega) with ⟨h1, h2⟩ | ⟨h1, h2, h3, h4⟩ | ⟨j, hj1, hj2, hx, h3, h4, h5, h6⟩
  · refine mq_P_ref (r := -2) hC hM hO 2 (qe_Two_may L x i l _ ?_) (fun i0 h => qe_Mod_may L x i0 l _ ?_)
    · simp only [h1, ↓reduceIte, Option.bind_some, qs_refuse L i l mq_r2 (show 2 < 7 by omega)]
    · simp only [qs_isIn_lo L i0 l h1, ↓reduceIte, Option.bind_some, qs_no L i0 l mq_r2 (show 2 < 7 by omega)]
  · refine mq_P_ref (r := -2) hC hM hO 2 (qe_Two_may L x i l _ ?_) (fun i0 h => qe_Mod_may L x i0 l _ ?_)
    · simp only [h4, h2, ↓reduceIte, Option.bind_some, qs_refuse L i l mq_r2 (show 2 < 7 by omega)]
    · simp only [qs_isIn_hi L i0 l h4 h1, ↓reduceIte, Option.bind_some, qs_no L i0 l mq_r2 (show 2 < 7 by omega)]
  · obtain ⟨i1, l1, g, gC, gk, g7, g8, g9, gH, -⟩ := mq_look L i l hC hO
    have e0 : x = 0 ↔ j = 0 := by rw [hx]; exact nI_eq (b := 0) (by omega) (by omega)
    have e1 : x = 1 ↔ j = 1 := by rw [hx]; exact nI_eq (b := 1) (by omega) (by omega)
    have e2 : x = 2 ↔ j = 2 := by rw [hx]; exact nI_eq (b := 2) (by omega) (by omega)
    refine mq_P_scr (nI (if j = 0 then mq_cnt (mq_Wm D) 256 else mq_sure (mq_Wm D) (decide (j = 2)) (D 0 0))) hM hO (qe_Two_may L x i l (nI (if j = 0 then mq_cnt (mq_Wm D) 256 else mq_sure (mq_Wm D) (decide (j = 2)) (D 0 0)), i1, l1) ?_) gC gk (fun i0 h0 => ?_)
    · rw [if_neg h5, if_pos h4, g, Option.bind_some]
      by_cases j0 : j = 0
      · rw [if_pos (e0.mpr j0), if_pos j0]
        simp only [g9]
      · rw [if_neg (fun q => j0 (e0.mp q)), if_neg j0]
        by_cases j1 : j = 1
        · rw [if_pos (e1.mpr j1), decide_eq_false (by omega)]
          simp only [qs_surelyGood L i1 l1 (mq_Wm D) (mq_Wm_lt hO.1) g7 g9 hn.2 gH, Option.bind_some]
        · rw [if_neg (fun q => j1 (e1.mp q)), decide_eq_true (show j = 2 by omega)]
          simp only [qs_surelyFlat L i1 l1 (mq_Wm D) (mq_Wm_lt hO.1) g7 g9 hn.2 gH, Option.bind_some]
    · obtain ⟨i2, e, eM, ek, eG, -⟩ := mq_fm L i0 l1 h0 hO
      refine ⟨i2, l1, qe_Mod_may L x i0 l1 _ ?_, eM, ek⟩
      rw [qs_isIn_1 L i0 l1 h5 h6, Option.bind_some]
      simp only [mq_10, ↓reduceIte, e, Option.bind_some]
      have hs1 := qs_surely L true i2 l1 (mq_Wm D) eG eM.1.1 ⟨by omega, hn.2⟩
      have hs0 := qs_surely L false i2 l1 (mq_Wm D) eG eM.1.1 ⟨by omega, hn.2⟩
      rw [if_pos rfl] at hs1
      rw [if_neg (by decide)] at hs0
      by_cases j0 : j = 0
      · rw [if_pos (e0.mpr j0), if_pos j0]
        simp only [qs_mayMany L i2 l1 (mq_Wm D) eG, Option.bind_some]
      · rw [if_neg (fun q => j0 (e0.mp q)), if_neg j0]
        by_cases j2 : j = 2
        · rw [if_pos (e2.mpr j2), decide_eq_true j2]
          simp only [hs1, Option.bind_some]
        · rw [if_neg (fun q => j2 (e2.mp q)), decide_eq_false j2]
          simp only [hs0, Option.bind_some]
theorem qs_noPart_0 (L : Nat) {x : Int32} (i : mMI) (l : mML) (h : x = 0 ∨ x = 1) : qf_Two_noPart L x i l = some (0, i, l) := by
  refine qe_Two_noPart L x i l _ ?_
  by_cases h0 : x = 0
  · rw [if_pos h0]
  · rw [if_neg h0, if_pos (h.resolve_left h0)]
theorem qs_noPart_1 (L : Nat) {x : Int32} (i : mMI) (l : mML) (h : ¬ (x = 0 ∨ x = 1)) : qf_Two_noPart L x i l = some (1, i, l) := by
  refine qe_Two_noPart L x i l _ ?_
  rw [if_neg (fun q => h (Or.inl q)), if_neg (fun q => h (Or.inr q))]
theorem qs_part01 (L : Nat) {x : Int32} (i : mMI) (l : mML) : ((x = 0 ∨ x = 1) → qf_Mod_isIn L x 0 1 i l = some (1, i, l)) ∧ (¬ (x = 0 ∨ x = 1) → qf_Mod_isIn L x 0 1 i l = some (0, i, l)) := by
  rcases mq_in3 x 0 1 (n := 0) (m := 1) (by decide) (by decide) (by omega) with ⟨h1, h2⟩ | ⟨h1, h2, h3, h4⟩ | ⟨j, hj1, hj2, hx, h3, h4, h5, h6⟩
  · refine ⟨fun h => ?_, fun _ => qs_isIn_lo L i l h1⟩
    rcases h with rfl | rfl
    · exact absurd h1 (by decide)
    · exact absurd h1 (by decide)
  · refine ⟨fun h => ?_, fun _ => qs_isIn_hi L i l h4 h1⟩
    rcases h with rfl | rfl
    · exact absurd h1 (by decide)
    · exact absurd h1 (by decide)
  · refine ⟨fun _ => qs_isIn_1 L i l h5 h6, fun h => absurd ?_ h⟩
    rcases (show j = 0 ∨ j = 1 by omega) with e | e
    · exact Or.inl (by rw [hx, e]; rfl)
    · exact Or.inr (by rw [hx, e]; rfl)
/-- what the two parts of a chance are of -/
theorem mq_odds (L : Nat) {s : Nat} (x : Int32) (hC : mq_RC i D P M R) (hM : mq_RM i D P M R) (hO : mq_OkS D P M) (hs : s < 2 ^ D 0 0) {f g : mMI → mML → Option (Int64 × mMI × mML)} (hf : ∀ r, ((qf_Worlds_look_2 L i l).bind fun q4 => ((qf_Worlds_holdingAll L (nI s) q4.1 q4.2).bind fun q5 => ((qf_Worlds_total L q5.2.1 q5.2.2).bind fun q6 => ((qf_Two_partOf L q5.1 q6.1 x q6.2.1 q6.2.2).bind fun q7 => (some (q7.1, q7.2.1, q7.2.2)))))) = some r → f i l = some r) (hg : ∀ i0 l0 r, mq_RM i0 D P M R → qf_Mod_oddsOf L (nI s) x i0 l0 = some r → g i0 l0 = some r) : mq_P f g i l := by
  have hp := mq_pow hO.1.1.2
  obtain ⟨i1, l1, e, gC, gk, g7, g8, g9, gH, -⟩ := mq_look L i l hC hO
  have b0 := mq_sw_lt (mq_Wm D) 0 (mq_Wm_lt hO.1) 256
  have bs := mq_sw_lt (mq_Wm D) s (mq_Wm_lt hO.1) 256
  refine mq_P_scr (mq_part (mq_sw (mq_Wm D) s 256) (mq_sw (mq_Wm D) 0 256) x) hM hO (hf (mq_part (mq_sw (mq_Wm D) s 256) (mq_sw (mq_Wm D) 0 256) x, i1, l1) ?_) gC gk (fun i0 h0 => ?_)
  · have e0 : l1 26 0 = lN (mq_sw (mq_Wm D) 0 256) := gH 0 (Nat.pow_pos (by omega))
    simp only [e, Option.bind_some, qs_holdingAll L i1 l1 (show s < 256 by omega), qs_total L i1 l1, e0, gH s hs]
    simp only [qs_Two_partOf L x i1 l1 (show mq_sw (mq_Wm D) s 256 < 2 ^ 62 by omega) (show mq_sw (mq_Wm D) 0 256 < 2 ^ 62 by omega), Option.bind_some]
  · obtain ⟨i2, e2, eM, ek, eG, -⟩ := mq_fm L i0 l1 h0 hO
    refine ⟨i2, l1, hg i0 l1 _ h0 (qe_Mod_oddsOf L _ x i0 l1 _ ?_), eM, ek⟩
    have w0 := qs_weightWith L (s := 0) i2 l1 (mq_Wm D) eG (by omega)
    simp only [e2, Option.bind_some, qs_weightWith L i2 l1 (mq_Wm D) eG (show s < 256 by omega)]
    rw [show (0 : Int32) = nI 0 from rfl, w0, Option.bind_some]
    simp only [qs_Mod_partOf L x i2 l1 (show mq_sw (mq_Wm D) s 256 < 2 ^ 62 by omega) (show mq_sw (mq_Wm D) 0 256 < 2 ^ 62 by omega), Option.bind_some]
theorem qp_likely (L : Nat) (x y : Int32) (hC : mq_RC i D P M R) (hM : mq_RM i D P M R) (hO : mq_OkS D P M) : mq_P (fun i l => qf_Two_likely L x y i l) (fun i l => qf_Mod_likely L x y i l) i l := by
  by_cases hb : 0 ≤ x ∧ x < nI (D 0 0)
  · have hhas := qs_Drawer_has_2 L x i l hC.1 hO.1
    have hisb : ∀ i0 l0, mq_RM i0 D P M R → qf_Mod_isBattery L x i0 l0 = some (mq_tf (0 ≤ x ∧ x < nI (D 0 0)), i0, l0) := fun i0 l0 h0 => qs_Mod_isBattery L x i0 l0 h0.1
    simp only [mq_tf_is hb] at hhas hisb
    by_cases hy : y = 0 ∨ y = 1
    · have hn := hO.1.1.2
      obtain ⟨b, hb2, hx⟩ := mq_batt hb (by omega)
      subst hx
      refine mq_odds L (s := 2 ^ b) y hC hM hO (mq_pow_lt hb2) (fun r hr => qe_Two_likely L _ y i l _ ?_) (fun i0 l0 r h0 hr => qe_Mod_likely L _ y i0 l0 _ ?_)
      · simp only [hhas, Option.bind_some, mq_10, ↓reduceIte, qs_noPart_0 L i l hy, mq_shl (show b < 31 by omega)]
        exact hr
      · simp only [hisb i0 l0 h0, Option.bind_some, mq_10, ↓reduceIte, (qs_part01 L i0 l0).1 hy, mq_shl (show b < 31 by omega), hr]
    · refine mq_P_ref (r := (4000000000000000000 : Int64) - (-2 : Int32).toInt64) hC hM hO 2 (qe_Two_likely L x y i l _ ?_) (fun i0 h => qe_Mod_likely L x y i0 l _ ?_)
      · simp only [hhas, Option.bind_some, mq_10, ↓reduceIte, qs_noPart_1 L i l hy, qs_refuseLong L i l mq_r2 (show 2 < 7 by omega)]
      · simp only [hisb i0 l h, Option.bind_some, mq_10, ↓reduceIte, (qs_part01 L i0 l).2 hy, qs_lowest L i0 l mq_r2 (show 2 < 7 by omega)]
  · refine mq_P_ref (r := (4000000000000000000 : Int64) - (-1 : Int32).toInt64) hC hM hO 1 (qe_Two_likely L x y i l _ ?_) (fun i0 h => qe_Mod_likely L x y i0 l _ ?_)
    · simp only [qs_Drawer_has_2 L x i l hC.1 hO.1, mq_tf_no hb, Option.bind_some, ↓reduceIte, qs_refuseLong L i l mq_r1 (show 1 < 7 by omega)]
    · simp only [qs_Mod_isBattery L x i0 l h.1, mq_tf_no hb, Option.bind_some, ↓reduceIte, qs_lowest L i0 l mq_r1 (show 1 < 7 by omega)]
theorem qp_lit (L : Nat) (x y : Int32) (hC : mq_RC i D P M R) (hM : mq_RM i D P M R) (hO : mq_OkS D P M) : mq_P (fun i l => qf_Two_lit L x y i l) (fun i l => qf_Mod_lit L x y i l) i l := by
  rcases mq_isTry2 L x hO.1 with ⟨s, hs, hx, ht, g1, g2⟩ | ⟨g1, g2⟩
  · subst hx
    by_cases hy : y = 0 ∨ y = 1
    · refine mq_odds L y hC hM hO hs (fun r hr => qe_Two_lit L _ y i l _ ?_) (fun i0 l0 r h0 hr => qe_Mod_lit L _ y i0 l0 _ ?_)
      · simp only [g1 i l hC.1, Option.bind_some, mq_10, ↓reduceIte, qs_noPart_0 L i l hy]
        exact hr
      · simp only [g2 i0 l0 h0.1, Option.bind_some, mq_10, ↓reduceIte, (qs_part01 L i0 l0).1 hy, hr]
    · refine mq_P_ref (r := (4000000000000000000 : Int64) - (-2 : Int32).toInt64) hC hM hO 2 (qe_Two_lit L _ y i l _ ?_) (fun i0 h => qe_Mod_lit L _ y i0 l _ ?_)
      · simp only [g1 i l hC.1, Option.bind_some, mq_10, ↓reduceIte, qs_noPart_1 L i l hy, qs_refuseLong L i l mq_r2 (show 2 < 7 by omega)]
      · simp only [g2 i0 l h.1, Option.bind_some, mq_10, ↓reduceIte, (qs_part01 L i0 l).2 hy, qs_lowest L i0 l mq_r2 (show 2 < 7 by omega)]
  · refine mq_P_ref (r := (4000000000000000000 : Int64) - (-1 : Int32).toInt64) hC hM hO 1 (qe_Two_lit L x y i l _ ?_) (fun i0 h => qe_Mod_lit L x y i0 l _ ?_)
    · simp only [g1 i l hC.1, Option.bind_some, ↓reduceIte, qs_refuseLong L i l mq_r1 (show 1 < 7 by omega)]
    · simp only [g2 i0 l h.1, Option.bind_some, ↓reduceIte, qs_lowest L i0 l mq_r1 (show 1 < 7 by omega)]
end
