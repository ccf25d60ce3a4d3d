/-! The model's sums. -/
theorem mq_bvn (x y : BitVec 32) : x &&& (y ^^^ BitVec.allOnes 32) = 0#32 ↔ x &&& y = x := by
  constructor
  · intro h
    apply BitVec.eq_of_getLsbD_eq
    intro j hj
    have := congrArg (fun z => z.getLsbD j) h
    simp only [BitVec.getLsbD_and, BitVec.getLsbD_xor, BitVec.getLsbD_allOnes, BitVec.getLsbD_zero, hj, decide_true] at this ⊢
    cases hx : x.getLsbD j <;> cases hy : y.getLsbD j <;> simp_all
  · intro h
    apply BitVec.eq_of_getLsbD_eq
    intro j hj
    have := congrArg (fun z => z.getLsbD j) h
    simp only [BitVec.getLsbD_and, BitVec.getLsbD_xor, BitVec.getLsbD_allOnes, BitVec.getLsbD_zero, hj, decide_true] at this ⊢
    cases hx : x.getLsbD j <;> cases hy : y.getLsbD j <;> simp_all
theorem mq_andn {s w : Nat} (hs : s < 1024) (hw : w < 1024) : (nI s &&& (nI w ^^^ (-1 : Int32))) = (0 : Int32) ↔ s &&& w = s := by
  have hsw : s &&& w < 1024 := Nat.lt_of_le_of_lt Nat.and_le_left hs
  have e : (nI s &&& (nI w ^^^ (-1 : Int32))) = (0 : Int32) ↔ nI s &&& nI w = nI s := by
    rw [← Int32.toBitVec_inj, ← Int32.toBitVec_inj, Int32.toBitVec_and, Int32.toBitVec_and, Int32.toBitVec_xor]
    exact mq_bvn _ _
  rw [e, mq_and]
  exact nI_eq (by omega) (by omega)
theorem qs_weightWith (L : Nat) {s : Nat} (i : mMI) (l : mML) (G : Nat → Nat) (hG : ∀ w, w < 256 → G w < 2 ^ 31 ∧ i 56 w = nI (G w)) (hs : s < 256) : qf_Mod_weightWith L (nI s) i l = some (lN (mq_sw G s 256), i, l) := by
  have loop : ∀ (m w : Nat), w + m = 256 → qf_Mod_weightWith_p5 L (nI s) (lN (mq_sw G s w)) (nI w) i l = some (lN (mq_sw G s 256), i, l) := by
    intro m
    induction m with
    | zero =>
      intro w hw
      have hw : w = 256 := hw
      subst hw
      refine qe_Mod_weightWith_p5 L _ _ _ i l _ ?_
      rw [if_pos (show (256 : Int32) ≤ nI 256 from nI_le (Nat.le_refl _) (by omega))]
    | succ m ih =>
      intro w hw
      have next := ih (w + 1) (by omega)
      have es : mq_sw G s (w + 1) = mq_sw G s w + (if s &&& w = s then G w else 0) := rfl
      refine qe_Mod_weightWith_p5 L _ _ _ i l _ ?_
      rw [if_neg (show ¬ (256 : Int32) ≤ nI w from nI_ge (a := w) (b := 256) (by omega) (by omega))]
      by_cases h : s &&& w = s
      · rw [if_pos ((mq_andn (by omega) (by omega)).mpr h), if_neg (nI_in (show w < 256 by omega) (by omega)), nI_clamp (by omega), (hG w (by omega)).2, nI_1]
        have e2 : (nI (G w)).toInt64 = lN (G w) := nI_l (hG w (by omega)).1
        rw [e2, lN_add]
        rw [es, if_pos h] at next
        exact next
      · rw [if_neg (fun q => h ((mq_andn (by omega) (by omega)).mp q)), nI_1]
        rw [es, if_neg h, Nat.add_zero] at next
        have e0 : lN (mq_sw G s w) + (0 : Int64) = lN (mq_sw G s w) := by
          show lN (mq_sw G s w) + lN 0 = _
          rw [lN_add, Nat.add_zero]
        rw [e0]
        exact next
  refine qe_Mod_weightWith L _ i l _ ?_
  exact loop 256 0 rfl
def mq_cnt (G : Nat → Nat) (m : Nat) : Nat := mq_sum (fun w => if G w = 0 then 0 else 1) m
theorem mq_cnt_le (G : Nat → Nat) (m : Nat) : mq_cnt G m ≤ m := by
  unfold mq_cnt
  induction m with
  | zero => exact Nat.le_refl _
  | succ m ih =>
    simp only [mq_sum]
    split <;> omega
theorem qs_mayMany (L : Nat) (i : mMI) (l : mML) (G : Nat → Nat) (hG : ∀ w, w < 256 → G w < 2 ^ 31 ∧ i 56 w = nI (G w)) : qf_Mod_mayMany L i l = some (nI (mq_cnt G 256), i, l) := by
  have loop : ∀ (m w : Nat), w + m = 256 → qf_Mod_mayMany_p4 L (nI (mq_cnt G w)) (nI w) i l = some (nI (mq_cnt G 256), i, l) := by
    intro m
    induction m with
    | zero =>
      intro w hw
      have hw : w = 256 := hw
      subst hw
      refine qe_Mod_mayMany_p4 L _ _ i l _ ?_
      rw [if_pos (show (256 : Int32) ≤ nI 256 from nI_le (Nat.le_refl _) (by omega))]
    | succ m ih =>
      intro w hw
      have next := ih (w + 1) (by omega)
      have es : mq_cnt G (w + 1) = mq_cnt G w + (if G w = 0 then 0 else 1) := rfl
      obtain ⟨g1, g2⟩ := hG w (by omega)
      refine qe_Mod_mayMany_p4 L _ _ i l _ ?_
      rw [if_neg (show ¬ (256 : Int32) ≤ nI w from nI_ge (a := w) (b := 256) (by omega) (by omega)), if_neg (nI_in (show w < 256 by omega) (by omega)), nI_clamp (by omega), g2]
      have ez : nI (G w) ≤ (0 : Int32) ↔ G w = 0 := by
        rw [show (0 : Int32) = nI 0 from rfl, nI_leI g1 (by omega)]
        omega
      by_cases h : G w = 0
      · rw [if_pos (ez.mpr h), nI_1]
        rw [es, if_pos h] at next
        have e0 : nI (mq_cnt G w) + (0 : Int32) = nI (mq_cnt G w + 0) := nI_add _ 0
        rw [e0]
        exact next
      · rw [if_neg (fun q => h (ez.mp q)), nI_1, nI_1]
        rw [es, if_neg h] at next
        exact next
  refine qe_Mod_mayMany L i l _ ?_
  exact loop 256 0 rfl
theorem mq_Wm_lt {D : mq_D} (hO : mq_Ok D) (w : Nat) : mq_Wm D w ≤ 43046721 := by
  unfold mq_Wm
  split
  · exact (mq_wt_in hO w).2
  · omega
/-- the model's sum is the class's -/
theorem mq_both (D : mq_D) (hO : mq_Ok D) {s : Nat} (hs : s < 2 ^ D 0 0) : mq_hs (mq_W D) (D 0 0) s = mq_sw (mq_Wm D) s 256 := by
  have hn := hO.1.2
  have hp := mq_pow hn
  rw [mq_holds (mq_W D) hn hs]
  unfold mq_sw
  rw [show 256 = 2 ^ D 0 0 + (256 - 2 ^ D 0 0) by omega, mq_sum_tail (256 - 2 ^ D 0 0) (fun w h1 h2 => by
    have : mq_Wm D w = 0 := if_neg (fun q => by omega)
    simp only [this]
    split <;> rfl)]
  refine mq_sum_congr _ fun w hw => ?_
  have e : mq_Wm D w = mq_W D w := by
    unfold mq_Wm mq_W
    by_cases h : mq_may D w = true
    · rw [if_pos ⟨hw, h⟩, if_pos h]
    · rw [if_neg (fun q => h q.2), if_neg h]
  simp only [e]
theorem mq_cnt_mc (D : mq_D) (hO : mq_Ok D) : mq_cnt (mq_Wm D) 256 = mq_mc D (2 ^ D 0 0) := by
  have hn := hO.1.2
  have hp := mq_pow hn
  unfold mq_cnt
  rw [show 256 = 2 ^ D 0 0 + (256 - 2 ^ D 0 0) by omega, mq_sum_tail (256 - 2 ^ D 0 0) (fun w h1 h2 => by
    have : mq_Wm D w = 0 := if_neg (fun q => by omega)
    simp only [this, if_true])]
  have key : ∀ m, m ≤ 2 ^ D 0 0 → mq_sum (fun w => if mq_Wm D w = 0 then 0 else 1) m = mq_mc D m := by
    intro m
    induction m with
    | zero => intro _; rfl
    | succ m ih =>
      intro hm
      simp only [mq_sum, mq_mc]
      rw [ih (by omega)]
      by_cases h : mq_may D m = true
      · have : mq_Wm D m = mq_wt D m := if_pos ⟨by omega, h⟩
        have h1 := (mq_wt_in hO m).1
        rw [if_pos h, if_neg (by omega)]
      · have : mq_Wm D m = 0 := if_neg (fun q => h q.2)
        rw [if_neg h, if_pos this]
  exact key _ (Nat.le_refl _)
