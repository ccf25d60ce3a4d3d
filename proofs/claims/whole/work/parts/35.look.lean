/-! Both sides look through all worlds. -/
/-- a row filled up to n -/
def mq_fl (i : mMI) (c n : Nat) (f : Nat → Int32) : mMI := fun k j => if k = c ∧ j < n then f j else i k j
theorem mq_fl_0 (i : mMI) (c : Nat) (f : Nat → Int32) : mq_fl i c 0 f = i := by
  funext k j
  simp [mq_fl]
theorem mq_fl_s (i : mMI) (c m : Nat) (f : Nat → Int32) : mj_up (mq_fl i c m f) c m (f m) = mq_fl i c (m + 1) f := by
  funext k j
  simp only [mj_up, mq_fl]
  by_cases hk : k = c
  · subst hk
    simp only [true_and]
    by_cases hj : j = m
    · subst hj
      simp
    · by_cases hl : j < m
      · rw [if_neg hj, if_pos hl, if_pos (by omega)]
      · rw [if_neg hj, if_neg hl, if_neg (by omega)]
  · simp [hk]
theorem mq_fl_ne {i : mMI} {c n k : Nat} {f : Nat → Int32} (h : k ≠ c) : mq_fl i c n f k = i k := by
  funext j
  simp [mq_fl, h]
theorem mq_MD.congr {i i' : mMI} {D : mq_D} (h : mq_MD i D) (h42 : ∀ j, 6 ≤ j → j ≤ 12 → i' 42 j = i 42 j) (h4 : ∀ k, 44 ≤ k → k ≤ 48 → i' k = i k) : mq_MD i' D := by
  obtain ⟨a0, a1, a2, a3, a4, a5, a6, b1, b2, b3, b4, b5⟩ := h
  refine ⟨?_, ?_, ?_, ?_, ?_, ?_, ?_, ?_, ?_, ?_, ?_, ?_⟩
  · rw [h42 6 (by omega) (by omega)]; exact a0
  · rw [h42 7 (by omega) (by omega)]; exact a1
  · rw [h42 8 (by omega) (by omega)]; exact a2
  · rw [h42 9 (by omega) (by omega)]; exact a3
  · rw [h42 10 (by omega) (by omega)]; exact a4
  · rw [h42 11 (by omega) (by omega)]; exact a5
  · rw [h42 12 (by omega) (by omega)]; exact a6
  · intro j hj; rw [h4 44 (by omega) (by omega)]; exact b1 j hj
  · intro j hj; rw [h4 45 (by omega) (by omega)]; exact b2 j hj
  · intro j hj; rw [h4 46 (by omega) (by omega)]; exact b3 j hj
  · intro j hj; rw [h4 47 (by omega) (by omega)]; exact b4 j hj
  · intro j hj; rw [h4 48 (by omega) (by omega)]; exact b5 j hj
theorem mq_CD.congr {i i' : mMI} {D : mq_D} (h : mq_CD 2 3 4 5 6 7 i D) (h2 : ∀ k, 2 ≤ k → k ≤ 7 → i' k = i k) : mq_CD 2 3 4 5 6 7 i' D := by
  unfold mq_CD
  rw [h2 2 (by omega) (by omega), h2 3 (by omega) (by omega), h2 4 (by omega) (by omega), h2 5 (by omega) (by omega), h2 6 (by omega) (by omega), h2 7 (by omega) (by omega)]
  exact h
/-- what a world weighs in the model's row: nothing, if it may not be -/
def mq_Wm (D : mq_D) (w : Nat) : Nat := if w < 2 ^ D 0 0 ∧ mq_may D w = true then mq_wt D w else 0
theorem mq_tf_is {c : Prop} [Decidable c] (h : c) : mq_tf c = 1 := if_pos h
theorem mq_tf_no {c : Prop} [Decidable c] (h : ¬ c) : mq_tf c = 0 := if_neg h
theorem mq_set_nI {n s : Nat} (hn : n ≤ 8) (hs : s < 1024) : (nI s >>> (nI n &&& 31) = 0) ↔ s < 2 ^ n := by
  constructor
  · intro h
    obtain ⟨t, ht, e⟩ := (mq_set hn).mp h
    have hp := mq_pow hn
    rw [(nI_eq (by omega) (by omega)).mp e]
    exact ht
  · intro h
    exact (mq_set hn).mpr ⟨s, h, rfl⟩
theorem qs_findMay (L : Nat) (i : mMI) (l : mML) {D : mq_D} (hM : mq_MD i D) (hO : mq_Ok D) : qf_Mod_findMay L i l = some (mq_fl i 56 256 (fun w => nI (mq_Wm D w)), l) := by
  have hg := hO.2.2.2.2.2.1
  have hn := hO.1.2
  have h6 := hO.2.2.2.2.2.2.1
  have e6 : nI (D 6 0) = (1 : Int32) ↔ D 6 0 = 1 := nI_eq (b := 1) (by omega) (by omega)
  have loop : ∀ (m w : Nat), w + m = 256 → qf_Mod_findMay_p2 L (nI w) (mq_fl i 56 w (fun w => nI (mq_Wm D w))) l = some (mq_fl i 56 256 (fun w => nI (mq_Wm D w)), l) := by
    intro m
    induction m with
    | zero =>
      intro w hw
      have hw : w = 256 := hw
      subst hw
      refine qe_Mod_findMay_p2 L _ _ l _ ?_
      rw [if_pos (show (256 : Int32) ≤ nI 256 from nI_le (Nat.le_refl _) (by omega))]
    | succ m ih =>
      intro w hw
      have hMw : mq_MD (mq_fl i 56 w (fun w => nI (mq_Wm D w))) D := hM.congr (fun j _ _ => by rw [mq_fl_ne (by omega)]) (fun k _ _ => mq_fl_ne (by omega))
      have hp := mq_pop_le w
      have elt : nI (mq_pop w) < nI (D 5 0) ↔ mq_pop w < D 5 0 := nI_ltI (by omega) (by omega)
      have eeq : nI (mq_pop w) = nI (D 5 0) ↔ mq_pop w = D 5 0 := nI_eq (by omega) (by omega)
      have next := ih (w + 1) (by omega)
      rw [← mq_fl_s] at next
      have h61 : mq_Wm D w = 0 → qf_Mod_findMay_p61 L (nI w) (mq_fl i 56 w (fun w => nI (mq_Wm D w))) l = some (mq_fl i 56 256 (fun w => nI (mq_Wm D w)), l) := by
        intro h0
        refine qe_Mod_findMay_p61 L _ _ l _ ?_
        rw [if_pos rfl, if_neg (nI_in (show w < 256 by omega) (by omega)), nI_clamp (by omega), nI_1]
        rw [h0] at next
        exact next
      have h49 : (mq_Wm D w = if mq_agreeb D w (D 9 0) = true then mq_wt D w else 0) → qf_Mod_findMay_p49 L (nI w) (mq_fl i 56 w (fun w => nI (mq_Wm D w))) l = some (mq_fl i 56 256 (fun w => nI (mq_Wm D w)), l) := by
        intro h0
        refine qe_Mod_findMay_p49 L _ _ l _ ?_
        obtain ⟨b1, b0⟩ := qs_isBooked L (w := w) (mq_fl i 56 w (fun w => nI (mq_Wm D w))) l hMw hO
        by_cases ha : mq_agree D w (D 9 0)
        · rw [b1 ha, Option.bind_some]
          rw [if_neg (show ¬ (1 : Int32) = 0 by decide), if_neg (show ¬ (1 : Int32) = 0 by decide), qs_Mod_weightOf L _ l hMw hO (by omega), Option.bind_some]
          rw [if_neg (nI_in (show w < 256 by omega) (by omega)), nI_clamp (by omega), nI_1]
          rw [if_pos (mq_agreeb_iff.mpr ha)] at h0
          rw [h0] at next
          exact next
        · rw [b0 ha, Option.bind_some]
          rw [if_pos rfl]
          exact h61 (by rw [h0, if_neg (fun q => ha (mq_agreeb_iff.mp q))])
      refine qe_Mod_findMay_p2 L _ _ l _ ?_
      rw [if_neg (show ¬ (256 : Int32) ≤ nI w from nI_ge (a := w) (b := 256) (by omega) (by omega)), qs_bits L _ l (by omega), Option.bind_some, qs_Mod_areBatteries L _ _ l hMw hO, Option.bind_some]
      by_cases hin : w < 2 ^ D 0 0
      · rw [if_neg (fun q => mq_tf0.mp q ((mq_set_nI hn (by omega)).mpr hin))]
        simp only [hMw.2.2.2.1, hMw.2.2.1]
        by_cases h1 : D 6 0 = 1
        · rw [if_pos (e6.mpr h1)]
          by_cases h2 : mq_pop w < D 5 0
          · rw [if_pos (elt.mpr h2)]
            refine h61 ?_
            unfold mq_Wm mq_may mq_many
            rw [if_pos h1, decide_eq_false (by omega), Bool.false_and, if_neg (fun q => by cases q.2)]
          · rw [if_neg (fun q => h2 (elt.mp q))]
            refine h49 ?_
            unfold mq_Wm mq_may mq_many
            rw [if_pos h1, decide_eq_true (show D 5 0 ≤ mq_pop w by omega), Bool.true_and]
            by_cases hb : mq_agreeb D w (D 9 0) = true
            · rw [if_pos ⟨hin, hb⟩, if_pos hb]
            · rw [if_neg (fun q => hb q.2), if_neg hb]
        · rw [if_neg (fun q => h1 (e6.mp q))]
          by_cases h2 : mq_pop w = D 5 0
          · rw [if_pos (eeq.mpr h2)]
            refine h49 ?_
            unfold mq_Wm mq_may mq_many
            rw [if_neg h1, decide_eq_true h2, Bool.true_and]
            by_cases hb : mq_agreeb D w (D 9 0) = true
            · rw [if_pos ⟨hin, hb⟩, if_pos hb]
            · rw [if_neg (fun q => hb q.2), if_neg hb]
          · rw [if_neg (fun q => h2 (eeq.mp q))]
            refine h61 ?_
            unfold mq_Wm mq_may mq_many
            rw [if_neg h1, decide_eq_false h2, Bool.false_and, if_neg (fun q => by cases q.2)]
      · rw [if_pos (mq_tf0.mpr (fun q => hin ((mq_set_nI hn (by omega)).mp q)))]
        refine h61 ?_
        unfold mq_Wm
        rw [if_neg (fun q => hin q.1)]
  refine qe_Mod_findMay L i l _ ?_
  have h0 := loop 256 0 (by omega)
  rw [mq_fl_0] at h0
  exact h0
