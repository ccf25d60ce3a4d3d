/-! order, mean, suspect. -/
theorem mq_nn {x : Int32} (h : (0 : Int32) ≤ x) : ∃ j, j < 2 ^ 31 ∧ x = nI j := nI_of (fun q => by
  rw [Int32.le_iff_toInt_le] at h
  rw [Int32.lt_iff_toInt_lt] at q
  omega)
def mq_oq (Q : List (Nat × Nat)) (j : Nat) : Int32 := match Q[j]? with
  | none => -9
  | some p => nI p.1
def mq_om (Q : List (Nat × Nat)) (k : Nat) : Nat := mq_sum (fun t => (t + 1) * (Q.getD t (0, 0)).2) k
def mq_on (Q : List (Nat × Nat)) (k : Nat) : Nat := mq_sum (fun t => (Q.getD t (0, 0)).2) k
theorem mq_om_s (Q : List (Nat × Nat)) (k : Nat) : mq_om Q (k + 1) = mq_om Q k + (k + 1) * (Q.getD k (0, 0)).2 := rfl
theorem mq_on_s (Q : List (Nat × Nat)) (k : Nat) : mq_on Q (k + 1) = mq_on Q k + (Q.getD k (0, 0)).2 := rfl
theorem mq_getD_le {Q : List (Nat × Nat)} {B : Nat} (h : ∀ p ∈ Q, p.2 ≤ B) (k : Nat) : (Q.getD k (0, 0)).2 ≤ B := by
  rw [List.getD_eq_getElem?_getD]
  cases hq : Q[k]? with
  | none => exact Nat.zero_le _
  | some p => exact h p (List.mem_of_getElem? hq)
theorem mq_on_le {Q : List (Nat × Nat)} {B : Nat} (h : ∀ p ∈ Q, p.2 ≤ B) : ∀ k, mq_on Q k ≤ k * B
  | 0 => Nat.zero_le _
  | k + 1 => by
    rw [mq_on_s, Nat.succ_mul k B]
    exact Nat.add_le_add (mq_on_le h k) (mq_getD_le h k)
theorem mq_om_le {Q : List (Nat × Nat)} {B : Nat} (h : ∀ p ∈ Q, p.2 ≤ B) : ∀ k, k ≤ 20 → mq_om Q k ≤ k * (20 * B)
  | 0, _ => Nat.zero_le _
  | k + 1, hk => by
    rw [mq_om_s, Nat.succ_mul k (20 * B)]
    exact Nat.add_le_add (mq_om_le h k (by omega)) (Nat.mul_le_mul (by omega) (mq_getD_le h k))
theorem mq_get {Q : List (Nat × Nat)} {k : Nat} (h : k < Q.length) : Q[k]? = some (Q.getD k (0, 0)) := by
  rw [List.getD_eq_getElem?_getD, List.getElem?_eq_getElem h]
  rfl
section
variable {i : mMI} {l : mML} {D P M : mq_D} {R : Nat → Int32}
theorem mq_Wm_out (hO : mq_Ok D) : ∀ w, 2 ^ D 0 0 ≤ w → mq_Wm D w = 0 := fun w hw => if_neg (fun q => by omega)
theorem mq_P_order {α : Type} (L : Nat) (hC : mq_RC i D P M R) (hM : mq_RM i D P M R) (hO : mq_OkS D P M) (r : α) {f g : mMI → mML → Option (α × mMI × mML)}
    (hf : ∀ i' l', i' 24 6 = nI (mq_ol D 20 (mq_Wm D)).length → mq_hl (i' 29) (l' 30) (mq_ol D 20 (mq_Wm D)) → ((qf_Worlds_look_2 L i l).bind fun q2 => qf_Worlds_putInOrder L (q2.1 2 8) q2.1 q2.2) = some (i', l') → f i l = some (r, i', l'))
    (hg : ∀ i0 l0 i' l', mq_RM i0 D P M R → i' 42 37 = nI (mq_ol D 20 (mq_Wm D)).length → mq_hl (i' 62) (l' 63) (mq_ol D 20 (mq_Wm D)) → qf_Mod_findOrder L i0 l0 = some (i', l') → g i0 l0 = some (r, i', l')) : mq_P f g i l := by
  obtain ⟨i1, l1, e, gC, gk, g7, g8, g9, gH, g27, g25, -⟩ := mq_look L i l hC hO
  obtain ⟨i1', l1', e1, a1, a2, a3⟩ := qs_putInOrder L i1 l1 hO.1 (mq_Wm D) (mq_Wm_lt hO.1) (mq_Wm_out hO.1) g7 g8 g25 gH
  have e8 : i1 2 8 = nI (D 8 0) := gC.1.2.2.2.2.2.1
  refine mq_P_scr r hM hO (hf i1' l1' a1 a2 ?_) (gC.congr (fun k h => ?_)) (fun k h => (a3 k (by omega) (by omega)).trans (gk k h)) (fun i0 h0 => ?_)
  · rw [e, Option.bind_some]
    simp only [e8]
    exact e1
  · exact a3 k (by omega) (by omega)
  · obtain ⟨i2, e2, eM, ek, eG, -⟩ := mq_fm L i0 l1' h0 hO
    obtain ⟨i2', l2', e3, b1, b2, b3, b4⟩ := qs_findOrder L i2 l1' eM.1 hO.1 (mq_Wm D) (mq_Wm_lt hO.1) (fun w hw => (eG w hw).2)
    refine ⟨i2', l2', hg i0 l1' i2' l2' h0 b1 b2 (qe_Mod_findOrder L i0 l1' _ ?_), eM.congr (fun j hj => b3 j (by omega)) (fun k h => b4 k (by omega) (by omega) (by omega)), fun k h => (b4 k (by omega) (by omega) (by omega)).trans (ek k h)⟩
    rw [e2, Option.bind_some]
    exact e3
theorem qp_order (L : Nat) (x : Int32) (hC : mq_RC i D P M R) (hM : mq_RM i D P M R) (hO : mq_OkS D P M) : mq_P (fun i l => qf_Two_order L x i l) (fun i l => qf_Mod_order L x i l) i l := by
  by_cases hx : (0 : Int32) ≤ x
  · obtain ⟨j, hj, rfl⟩ := mq_nn hx
    have hlen := mq_ol_len D 20 (mq_Wm D)
    refine mq_P_order L hC hM hO (mq_oq (mq_ol D 20 (mq_Wm D)) j) (fun i' l' h1 h2 h3 => qe_Two_order L _ i l _ ?_) (fun i0 l0 i' l' h0 h1 h2 h3 => qe_Mod_order L _ i0 l0 _ ?_)
    · rw [if_pos hx]
      cases hlk : qf_Worlds_look_2 L i l with
      | none => rw [hlk] at h3; cases h3
      | some q =>
        rw [hlk, Option.bind_some] at h3
        rw [Option.bind_some, h3, Option.bind_some]
        simp only [h1]
        unfold mq_oq
        by_cases hl : j < (mq_ol D 20 (mq_Wm D)).length
        · rw [if_neg (nI_ge hl (by omega)), qs_Two_at_29 L i' l' (by omega), Option.bind_some, mq_get hl]
          have := h2 j _ _ (mq_get hl)
          rw [this.1]
          rfl
        · rw [if_pos (nI_le (by omega) hj), List.getElem?_eq_none (by omega)]
    · rw [if_pos hx, h3, Option.bind_some]
      simp only [h1]
      unfold mq_oq
      by_cases hl : j < (mq_ol D 20 (mq_Wm D)).length
      · rw [if_neg (nI_ge hl (by omega)), if_neg (nI_in (show j < 20 by omega) (by omega)), nI_clamp hj, mq_get hl]
        have := h2 j _ _ (mq_get hl)
        rw [this.1]
        rfl
      · rw [if_pos (nI_le (by omega) hj), List.getElem?_eq_none (by omega)]
  · refine mq_P_ref (r := -4) hC hM hO 4 (qe_Two_order L x i l _ ?_) (fun i0 h => qe_Mod_order L x i0 l _ ?_)
    · rw [if_neg hx, qs_refuse L i l mq_r4 (by omega), Option.bind_some]
    · rw [if_neg hx, qs_no L i0 l mq_r4 (by omega), Option.bind_some]
theorem qs_orderMade (L : Nat) {Q : List (Nat × Nat)} (i : mMI) (l : mML) (h6 : i 24 6 = nI Q.length) (hQ : Q.length ≤ 20) (h : mq_hl (i 29) (l 30) Q) : qf_Worlds_orderMade L i l = some (lN (mq_om Q Q.length), i, l) := by
  have loop : ∀ (m k : Nat), k + m = Q.length → qf_Worlds_orderMade_p4 L (lN (mq_om Q k)) (nI k) i l = some (lN (mq_om Q Q.length), i, l) := by
    intro m
    induction m with
    | zero =>
      intro k hk
      have hk : k = Q.length := hk
      refine qe_Worlds_orderMade_p4 L _ _ i l _ ?_
      rw [h6, hk, if_pos (nI_le (Nat.le_refl _) (by omega))]
    | succ m ih =>
      intro k hk
      have hlt : k < Q.length := by omega
      have next := ih (k + 1) (by omega)
      refine qe_Worlds_orderMade_p4 L _ _ i l _ ?_
      rw [h6, if_neg (nI_ge hlt (by omega)), qs_Two_atL_30 L i l (by omega), Option.bind_some]
      simp only [(h k _ _ (mq_get hlt)).2, nI_1, nI_l (show k + 1 < 2 ^ 31 by omega), lN_mul, lN_add]
      rw [mq_om_s] at next
      exact next
  refine qe_Worlds_orderMade L i l _ ?_
  exact loop Q.length 0 (by omega)
theorem qs_orderLit (L : Nat) {Q : List (Nat × Nat)} (i : mMI) (l : mML) (h6 : i 24 6 = nI Q.length) (hQ : Q.length ≤ 20) (h : mq_hl (i 29) (l 30) Q) : qf_Worlds_orderLit L i l = some (lN (mq_on Q Q.length), i, l) := by
  have loop : ∀ (m k : Nat), k + m = Q.length → qf_Worlds_orderLit_p4 L (lN (mq_on Q k)) (nI k) i l = some (lN (mq_on Q Q.length), i, l) := by
    intro m
    induction m with
    | zero =>
      intro k hk
      have hk : k = Q.length := hk
      refine qe_Worlds_orderLit_p4 L _ _ i l _ ?_
      rw [h6, hk, if_pos (nI_le (Nat.le_refl _) (by omega))]
    | succ m ih =>
      intro k hk
      have hlt : k < Q.length := by omega
      have next := ih (k + 1) (by omega)
      refine qe_Worlds_orderLit_p4 L _ _ i l _ ?_
      rw [h6, if_neg (nI_ge hlt (by omega)), qs_Two_atL_30 L i l (by omega), Option.bind_some]
      simp only [(h k _ _ (mq_get hlt)).2, nI_1, lN_add]
      rw [mq_on_s] at next
      exact next
  refine qe_Worlds_orderLit L i l _ ?_
  exact loop Q.length 0 (by omega)
theorem qp_mean (L : Nat) (x : Int32) (hC : mq_RC i D P M R) (hM : mq_RM i D P M R) (hO : mq_OkS D P M) : mq_P (fun i l => qf_Two_mean L x i l) (fun i l => qf_Mod_mean L x i l) i l := by
  have hlen := mq_ol_len D 20 (mq_Wm D)
  have hle := mq_ol_le D 20 (mq_Wm D) (mq_Wm_lt hO.1)
  generalize hQ : mq_ol D 20 (mq_Wm D) = Q at hlen hle
  have hom := mq_om_le hle Q.length hlen
  have hon := mq_on_le hle Q.length
  have hom2 : Q.length * (20 * (43046721 * 256)) ≤ 20 * (20 * (43046721 * 256)) := Nat.mul_le_mul_right _ hlen
  have hon2 : Q.length * (43046721 * 256) ≤ 20 * (43046721 * 256) := Nat.mul_le_mul_right _ hlen
  by_cases hx : x = 0 ∨ x = 1
  · refine mq_P_order L hC hM hO (mq_part (mq_om Q Q.length) (mq_on Q Q.length) x) (fun i' l' h1 h2 h3 => qe_Two_mean L _ i l _ ?_) (fun i0 l0 i' l' h0 h1 h2 h3 => qe_Mod_mean L _ i0 l0 _ ?_)
    · rw [hQ] at h1 h2
      simp only [qs_noPart_0 L i l hx, Option.bind_some, ↓reduceIte]
      cases hlk : qf_Worlds_look_2 L i l with
      | none => rw [hlk] at h3; cases h3
      | some q =>
        rw [hlk, Option.bind_some] at h3
        rw [Option.bind_some, h3, Option.bind_some]
        simp only [qs_orderMade L i' l' h1 hlen h2, qs_orderLit L i' l' h1 hlen h2, Option.bind_some]
        rw [qs_Two_partOf L x i' l' (by omega) (by omega), Option.bind_some]
    · rw [hQ] at h1 h2
      simp only [(qs_part01 L i0 l0).1 hx, Option.bind_some, mq_10, ↓reduceIte, h3]
      have loop : ∀ (m k : Nat), k + m = Q.length → qf_Mod_mean_p28 L x (lN (mq_om Q k)) (lN (mq_on Q k)) (nI k) i' l' = some (mq_part (mq_om Q Q.length) (mq_on Q Q.length) x, i', l') := by
        intro m
        induction m with
        | zero =>
          intro k hk
          have hk : k = Q.length := hk
          refine qe_Mod_mean_p28 L _ _ _ _ i' l' _ ?_
          rw [h1, hk, if_pos (nI_le (Nat.le_refl _) (by omega)), qs_Mod_partOf L x i' l' (by omega) (by omega), Option.bind_some]
        | succ m ih =>
          intro k hk
          have hlt : k < Q.length := by omega
          have next := ih (k + 1) (by omega)
          refine qe_Mod_mean_p28 L _ _ _ _ i' l' _ ?_
          rw [h1, if_neg (nI_ge hlt (by omega)), if_neg (nI_in (show k < 20 by omega) (by omega)), if_neg (nI_in (show k < 20 by omega) (by omega)), nI_clamp (by omega)]
          simp only [(h2 k _ _ (mq_get hlt)).2, nI_1, nI_l (show k + 1 < 2 ^ 31 by omega), lN_mul, lN_add]
          rw [mq_om_s, mq_on_s] at next
          exact next
      exact loop Q.length 0 (by omega)
  · refine mq_P_ref (r := (4000000000000000000 : Int64) - (-2 : Int32).toInt64) hC hM hO 2 (qe_Two_mean L x i l _ ?_) (fun i0 h => qe_Mod_mean L x i0 l _ ?_)
    · simp only [qs_noPart_1 L i l hx, Option.bind_some, mq_10, ↓reduceIte, qs_refuseLong L i l mq_r2 (show 2 < 7 by omega)]
    · simp only [(qs_part01 L i0 l).2 hx, Option.bind_some, ↓reduceIte, qs_lowest L i0 l mq_r2 (show 2 < 7 by omega)]
theorem qp_suspect (L : Nat) (hC : mq_RC i D P M R) (hM : mq_RM i D P M R) (hO : mq_OkS D P M) : mq_P (fun i l => qf_Two_suspect L i l) (fun i l => qf_Mod_suspect L i l) i l := by
  have hn := hO.1.1
  have c4 := hC.1.2.1
  have hag : ∀ w, (mq_agreeb D w (D 9 0) = true → ∀ i l, mq_CD 2 3 4 5 6 7 i D → qf_Drawer_bookAgrees_2 L (nI w) i l = some (1, i, l)) ∧ (mq_agreeb D w (D 9 0) = false → ∀ i l, mq_CD 2 3 4 5 6 7 i D → qf_Drawer_bookAgrees_2 L (nI w) i l = some (0, i, l)) := fun w => ⟨fun h i l hc => (qs_bookAgrees L i l hc hO.1).1 (mq_agreeb_iff.mp h), fun h i l hc => (qs_bookAgrees L i l hc hO.1).2 (fun q => by rw [mq_agreeb_iff.mpr q] at h; cases h)⟩
  have hbk : ∀ w, (mq_agreeb D w (D 9 0) = true → ∀ i l, mq_MD i D → qf_Mod_isBooked L (nI w) i l = some (1, i, l)) ∧ (mq_agreeb D w (D 9 0) = false → ∀ i l, mq_MD i D → qf_Mod_isBooked L (nI w) i l = some (0, i, l)) := fun w => ⟨fun h i l hc => (qs_isBooked L i l hc hO.1).1 (mq_agreeb_iff.mp h), fun h i l hc => (qs_isBooked L i l hc hO.1).2 (fun q => by rw [mq_agreeb_iff.mpr q] at h; cases h)⟩
  have loopC : ∀ (m b : Nat), b + m = D 0 0 → qf_Two_suspect_p23 L (nI (mq_sg (fun b => mq_agreeb D (D 4 0 ^^^ 2 ^ b) (D 9 0)) b)) (nI b) i l = some (nI (mq_sg (fun b => mq_agreeb D (D 4 0 ^^^ 2 ^ b) (D 9 0)) (D 0 0)), i, l) := by
    intro m
    induction m with
    | zero =>
      intro b hb
      have hb : b = D 0 0 := hb
      subst hb
      refine qe_Two_suspect_p23 L _ _ i l _ ?_
      rw [hC.1.1, if_pos (nI_le (Nat.le_refl _) (by omega))]
    | succ m ih =>
      intro b hb
      have next := ih (b + 1) (by omega)
      simp only [mq_sg] at next
      refine qe_Two_suspect_p23 L _ _ i l _ ?_
      rw [hC.1.1, if_neg (nI_ge (show b < D 0 0 by omega) (by omega)), c4, mq_shl (by omega), mq_xor]
      cases h : mq_agreeb D (D 4 0 ^^^ 2 ^ b) (D 9 0) with
      | true =>
        simp only [h, ↓reduceIte] at next
        simp only [(hag _).1 h i l hC.1, Option.bind_some, mq_10, ↓reduceIte, mq_or, nI_1]
        exact next
      | false =>
        simp only [h, ↓reduceIte, Bool.false_eq_true] at next
        simp only [(hag _).2 h i l hC.1, Option.bind_some, ↓reduceIte, nI_1]
        exact next
  have loopM : ∀ i0 : mMI, mq_MD i0 D → ∀ (m b : Nat), b + m = D 0 0 → qf_Mod_suspect_p17 L (nI (mq_sg (fun b => mq_agreeb D (D 4 0 ^^^ 2 ^ b) (D 9 0)) b)) (nI b) i0 l = some (nI (mq_sg (fun b => mq_agreeb D (D 4 0 ^^^ 2 ^ b) (D 9 0)) (D 0 0)), i0, l) := by
    intro i0 h0 m
    induction m with
    | zero =>
      intro b hb
      have hb : b = D 0 0 := hb
      subst hb
      refine qe_Mod_suspect_p17 L _ _ i0 l _ ?_
      rw [h0.1, if_pos (nI_le (Nat.le_refl _) (by omega))]
    | succ m ih =>
      intro b hb
      have next := ih (b + 1) (by omega)
      simp only [mq_sg] at next
      refine qe_Mod_suspect_p17 L _ _ i0 l _ ?_
      rw [h0.1, if_neg (nI_ge (show b < D 0 0 by omega) (by omega)), h0.2.1, mq_shl (by omega), mq_xor]
      cases h : mq_agreeb D (D 4 0 ^^^ 2 ^ b) (D 9 0) with
      | true =>
        simp only [h, ↓reduceIte] at next
        simp only [(hbk _).1 h i0 l h0, Option.bind_some, mq_10, ↓reduceIte, mq_or, nI_1]
        exact next
      | false =>
        simp only [h, ↓reduceIte, Bool.false_eq_true] at next
        simp only [(hbk _).2 h i0 l h0, Option.bind_some, ↓reduceIte, nI_1]
        rw [show nI (mq_sg (fun b => mq_agreeb D (D 4 0 ^^^ 2 ^ b) (D 9 0)) b) ||| (0 : Int32) = nI (mq_sg (fun b => mq_agreeb D (D 4 0 ^^^ 2 ^ b) (D 9 0)) b) from by
          rw [show (0 : Int32) = nI 0 from rfl, mq_or, Nat.or_zero]]
        exact next
  cases h : mq_agreeb D (D 4 0) (D 9 0) with
  | true =>
    refine mq_P_same (r := 0) hC hM hO (qe_Two_suspect L i l _ ?_) (fun i0 h0 => qe_Mod_suspect L i0 l _ ?_)
    · rw [c4]
      simp only [(hag _).1 h i l hC.1, Option.bind_some, mq_10, ↓reduceIte]
    · rw [h0.1.2.1]
      simp only [(hbk _).1 h i0 l h0.1, Option.bind_some, mq_10, ↓reduceIte]
  | false =>
    refine mq_P_same (r := nI (mq_sg (fun b => mq_agreeb D (D 4 0 ^^^ 2 ^ b) (D 9 0)) (D 0 0))) hC hM hO (qe_Two_suspect L i l _ ?_) (fun i0 h0 => qe_Mod_suspect L i0 l _ ?_)
    · rw [c4]
      simp only [(hag _).2 h i l hC.1, Option.bind_some, ↓reduceIte]
      exact loopC (D 0 0) 0 (by omega)
    · rw [h0.1.2.1]
      simp only [(hbk _).2 h i0 l h0.1, Option.bind_some, ↓reduceIte]
      exact loopM i0 h0.1 (D 0 0) 0 (by omega)
end
