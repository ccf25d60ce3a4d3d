/-! Worlds that may be, and what they weigh. -/
def mq_agreeb (D : mq_D) (w : Nat) (t : Nat) : Bool := (List.range t).all (fun j => decide (mq_tells (D 7 0) (D 10 j) w = D 11 j))
theorem mq_agreeb_iff {D : mq_D} {w t : Nat} : mq_agreeb D w t = true ↔ mq_agree D w t := by
  unfold mq_agreeb mq_agree
  rw [List.all_eq_true]
  constructor
  · intro h j hj
    exact of_decide_eq_true (h j (List.mem_range.mpr hj))
  · intro h j hj
    exact decide_eq_true (h j (List.mem_range.mp hj))
def mq_many (D : mq_D) (w : Nat) : Bool := if D 6 0 = 1 then decide (D 5 0 ≤ mq_pop w) else decide (mq_pop w = D 5 0)
def mq_may (D : mq_D) (w : Nat) : Bool := mq_many D w && mq_agreeb D w (D 9 0)
def mq_wp (D : mq_D) (w : Nat) : Nat → Nat
  | 0 => 1
  | b + 1 => mq_wp D w b * (if w / 2 ^ b % 2 = 1 then mq_ten (D 1 b) (D 2 b) else 10 - mq_ten (D 1 b) (D 2 b))
def mq_wt (D : mq_D) (w : Nat) : Nat := mq_wp D w (D 0 0)
theorem mq_wp_in {D : mq_D} (hO : mq_Ok D) (w : Nat) : ∀ b, b ≤ 8 → 1 ≤ mq_wp D w b ∧ mq_wp D w b ≤ 9 ^ b := by
  intro b
  induction b with
  | zero => intro _; exact ⟨Nat.le_refl _, Nat.le_refl _⟩
  | succ b ih =>
    intro hb
    obtain ⟨h1, h2⟩ := ih (by omega)
    obtain ⟨t1, t2⟩ := mq_ten_in (k := D 1 b) (hO.2.2.1 b (by omega))
    have hf : 1 ≤ (if w / 2 ^ b % 2 = 1 then mq_ten (D 1 b) (D 2 b) else 10 - mq_ten (D 1 b) (D 2 b)) ∧ (if w / 2 ^ b % 2 = 1 then mq_ten (D 1 b) (D 2 b) else 10 - mq_ten (D 1 b) (D 2 b)) ≤ 9 := by
      split <;> omega
    generalize (if w / 2 ^ b % 2 = 1 then mq_ten (D 1 b) (D 2 b) else 10 - mq_ten (D 1 b) (D 2 b)) = f at hf
    simp only [mq_wp]
    rw [show (if w / 2 ^ b % 2 = 1 then mq_ten (D 1 b) (D 2 b) else 10 - mq_ten (D 1 b) (D 2 b)) = (if w / 2 ^ b % 2 = 1 then mq_ten (D 1 b) (D 2 b) else 10 - mq_ten (D 1 b) (D 2 b)) from rfl]
    constructor
    · refine Nat.le_trans h1 (Nat.le_mul_of_pos_right _ ?_)
      split <;> omega
    · rw [Nat.pow_succ]
      refine Nat.mul_le_mul h2 ?_
      split <;> omega
theorem mq_p9 {b : Nat} (hb : b ≤ 8) : 9 ^ b ≤ 43046721 := Nat.pow_le_pow_right (n := 9) (by omega) hb
theorem mq_wt_in {D : mq_D} (hO : mq_Ok D) (w : Nat) : 1 ≤ mq_wt D w ∧ mq_wt D w ≤ 43046721 := by
  obtain ⟨h1, h2⟩ := mq_wp_in hO w (D 0 0) hO.1.2
  exact ⟨h1, Nat.le_trans h2 (mq_p9 hO.1.2)⟩
theorem mq_bit1 {w b : Nat} (hw : w < 1024) (hb : b < 8) : ((nI w >>> (nI b &&& 31)) &&& 1 = (1 : Int32)) ↔ w / 2 ^ b % 2 = 1 := by
  rw [mq_bit (by omega) (by omega)]
  exact nI_eq (b := 1) (by omega) (by omega)
theorem qs_Drawer_weightOf_2 (L : Nat) {w : Nat} (i : mMI) (l : mML) {D : mq_D} (hC : mq_CD 2 3 4 5 6 7 i D) (hO : mq_Ok D) (hw : w < 256) : qf_Drawer_weightOf_2 L (nI w) i l = some (lN (mq_wt D w), i, l) := by
  have hn := hO.1.2
  have loop : ∀ (m b : Nat), b + m = D 0 0 → qf_Drawer_weightOf_2_p5 L (nI w) (lN (mq_wp D w b)) (nI b) i l = some (lN (mq_wt D w), i, l) := by
    intro m
    induction m with
    | zero =>
      intro b hb
      have hb : b = D 0 0 := hb
      subst hb
      refine qe_Drawer_weightOf_2_p5 L _ _ _ i l _ ?_
      rw [hC.1, if_pos (nI_le (Nat.le_refl _) (by omega))]
      rfl
    | succ m ih =>
      intro b hb
      obtain ⟨t1, t2⟩ := mq_ten_in (k := D 1 b) (hO.2.2.1 b (by omega))
      refine qe_Drawer_weightOf_2_p5 L _ _ _ i l _ ?_
      rw [hC.1, if_neg (nI_ge (by omega) (by omega)), qs_Drawer_tenths_2 L i l hC hO (by omega), Option.bind_some]
      have e10 : (10 : Int32) - nI (mq_ten (D 1 b) (D 2 b)) = nI (10 - mq_ten (D 1 b) (D 2 b)) := pk_sub (a := 10) (by omega)
      have := ih (b + 1) (by omega)
      simp only [mq_wp] at this
      by_cases hbit : w / 2 ^ b % 2 = 1
      · rw [if_pos ((mq_bit1 (by omega) (by omega)).mpr hbit), nI_l (by omega), lN_mul, nI_1]
        rw [if_pos hbit] at this
        exact this
      · rw [if_neg (fun q => hbit ((mq_bit1 (by omega) (by omega)).mp q)), e10, nI_l (by omega), lN_mul, nI_1]
        rw [if_neg hbit] at this
        exact this
  refine qe_Drawer_weightOf_2 L _ i l _ ?_
  exact loop (D 0 0) 0 (by omega)
theorem qs_Mod_weightOf (L : Nat) {w : Nat} (i : mMI) (l : mML) {D : mq_D} (hM : mq_MD i D) (hO : mq_Ok D) (hw : w < 256) : qf_Mod_weightOf L (nI w) i l = some (nI (mq_wt D w), i, l) := by
  have hn := hO.1.2
  have loop : ∀ (m b : Nat), b + m = D 0 0 → qf_Mod_weightOf_p4 L (nI w) (nI (mq_wp D w b)) (nI b) i l = some (nI (mq_wt D w), i, l) := by
    intro m
    induction m with
    | zero =>
      intro b hb
      have hb : b = D 0 0 := hb
      subst hb
      refine qe_Mod_weightOf_p4 L _ _ _ i l _ ?_
      rw [hM.1, if_pos (nI_le (Nat.le_refl _) (by omega))]
      rfl
    | succ m ih =>
      intro b hb
      obtain ⟨t1, t2⟩ := mq_ten_in (k := D 1 b) (hO.2.2.1 b (by omega))
      have e10 : (10 : Int32) - nI (mq_ten (D 1 b) (D 2 b)) = nI (10 - mq_ten (D 1 b) (D 2 b)) := pk_sub (a := 10) (by omega)
      have := ih (b + 1) (by omega)
      simp only [mq_wp] at this
      refine qe_Mod_weightOf_p4 L _ _ _ i l _ ?_
      rw [hM.1, if_neg (nI_ge (by omega) (by omega))]
      by_cases hbit : w / 2 ^ b % 2 = 1
      · have hh : qf_Mod_has L (nI w) (nI b) i l = some (1, i, l) := by
          refine qe_Mod_has L _ _ i l _ ?_
          rw [if_pos ((mq_bit1 (by omega) (by omega)).mpr hbit)]
        rw [hh, Option.bind_some]
        rw [if_neg (show ¬ (1 : Int32) = 0 by decide), qs_Mod_tenthsOf L i l hM hO (by omega), Option.bind_some, pk_mul, nI_1]
        rw [if_pos hbit] at this
        exact this
      · have hh : qf_Mod_has L (nI w) (nI b) i l = some (0, i, l) := by
          refine qe_Mod_has L _ _ i l _ ?_
          rw [if_neg (fun q => hbit ((mq_bit1 (by omega) (by omega)).mp q))]
        rw [hh, Option.bind_some]
        rw [if_pos (show (0 : Int32) = 0 from rfl), qs_Mod_tenthsOf L i l hM hO (by omega), Option.bind_some, e10, pk_mul, nI_1]
        rw [if_neg hbit] at this
        exact this
  refine qe_Mod_weightOf L _ i l _ ?_
  exact loop (D 0 0) 0 (by omega)
theorem qs_Drawer_mayBe_2 (L : Nat) {w : Nat} (i : mMI) (l : mML) {D : mq_D} (hC : mq_CD 2 3 4 5 6 7 i D) (hO : mq_Ok D) (hw : w < 256) : qf_Drawer_mayBe_2 L (nI w) i l = some (if mq_may D w = true then 1 else 0, i, l) := by
  have hp := mq_pop_le w
  have hg := hO.2.2.2.2.2.1
  have hn := hO.1.2
  have h6 := hO.2.2.2.2.2.2.1
  have e6 : nI (D 6 0) = (1 : Int32) ↔ D 6 0 = 1 := nI_eq (b := 1) (by omega) (by omega)
  have elt : nI (mq_pop w) < nI (D 5 0) ↔ mq_pop w < D 5 0 := nI_ltI (by omega) (by omega)
  have eeq : nI (mq_pop w) = nI (D 5 0) ↔ mq_pop w = D 5 0 := nI_eq (by omega) (by omega)
  obtain ⟨b1, b0⟩ := qs_bookAgrees L (w := w) i l hC hO
  have hb : ∀ T : Int32 × mMI × mML → Option (Int32 × mMI × mML), (qf_Drawer_bookAgrees_2 L (nI w) i l).bind (fun q => if q.1 = 0 then some (0, q.2.1, q.2.2) else some (1, q.2.1, q.2.2)) = some (if mq_agreeb D w (D 9 0) = true then (1 : Int32) else 0, i, l) := by
    intro _
    by_cases h : mq_agree D w (D 9 0)
    · rw [b1 h, Option.bind_some, if_pos (mq_agreeb_iff.mpr h)]
      rfl
    · rw [b0 h, Option.bind_some, if_neg (fun q => h (mq_agreeb_iff.mp q))]
      rfl
  have hb := hb (fun _ => none)
  refine qe_Drawer_mayBe_2 L _ i l _ ?_
  rw [qs_bitCount L i l (by omega), Option.bind_some]
  simp only [hC.2.2.2.1, hC.2.2.1]
  unfold mq_may mq_many
  by_cases h1 : D 6 0 = 1
  · rw [if_pos (e6.mpr h1), if_pos h1]
    by_cases h2 : mq_pop w < D 5 0
    · rw [if_pos (elt.mpr h2), if_pos trivial, decide_eq_false (by omega)]
      rfl
    · rw [if_neg (fun q => h2 (elt.mp q)), if_neg (by decide), decide_eq_true (show D 5 0 ≤ mq_pop w by omega), Bool.true_and]
      exact hb
  · rw [if_neg (fun q => h1 (e6.mp q)), if_neg h1]
    by_cases h2 : mq_pop w = D 5 0
    · rw [if_pos (eeq.mpr h2), if_neg (by decide), decide_eq_true h2, Bool.true_and]
      exact hb
    · rw [if_neg (fun q => h2 (eeq.mp q)), if_pos trivial, decide_eq_false h2]
      rfl
