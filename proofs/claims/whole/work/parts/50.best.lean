/-! The first best of some sets: lucky and split. -/
def mq_arg (c : Nat → Bool) (b : Nat → Nat → Bool) : Nat → Option Nat
  | 0 => none
  | m + 1 => if c m = true then (match mq_arg c b m with
    | none => some m
    | some p => if b m p = true then some m else some p) else mq_arg c b m
def mq_o : Option Nat → Int32
  | none => -9
  | some s => nI s
theorem mq_arg_in (c : Nat → Bool) (b : Nat → Nat → Bool) : ∀ m p, mq_arg c b m = some p → p < m ∧ c p = true
  | 0, p, h => by cases h
  | m + 1, p, h => by
    have ih := mq_arg_in c b m
    simp only [mq_arg] at h
    by_cases hc : c m = true
    · rw [if_pos hc] at h
      cases ha : mq_arg c b m with
      | none =>
        rw [ha] at h
        cases h
        exact ⟨by omega, hc⟩
      | some q =>
        rw [ha] at h
        simp only at h
        by_cases hb : b m q = true
        · rw [if_pos hb] at h
          cases h
          exact ⟨by omega, hc⟩
        · rw [if_neg hb] at h
          cases h
          have := ih p ha
          exact ⟨by omega, this.2⟩
    · rw [if_neg hc] at h
      have := ih p h
      exact ⟨by omega, this.2⟩
theorem mq_arg_tail (c : Nat → Bool) (b : Nat → Nat → Bool) {a : Nat} (h : ∀ w, a ≤ w → c w = false) : ∀ k, mq_arg c b (a + k) = mq_arg c b a
  | 0 => rfl
  | k + 1 => by
    show (if c (a + k) = true then _ else mq_arg c b (a + k)) = _
    rw [if_neg (by rw [h (a + k) (by omega)]; decide), mq_arg_tail c b h k]
theorem mq_arg_none (c : Nat → Bool) (b : Nat → Nat → Bool) {m : Nat} (hc : c m = true) (h : mq_arg c b m = none) : mq_arg c b (m + 1) = some m := by
  simp only [mq_arg]
  rw [if_pos hc, h]
theorem mq_arg_some (c : Nat → Bool) (b : Nat → Nat → Bool) {m p : Nat} (hc : c m = true) (h : mq_arg c b m = some p) : mq_arg c b (m + 1) = if b m p = true then some m else some p := by
  simp only [mq_arg]
  rw [if_pos hc, h]
theorem mq_arg_no (c : Nat → Bool) (b : Nat → Nat → Bool) {m : Nat} (hc : c m = false) : mq_arg c b (m + 1) = mq_arg c b m := by
  simp only [mq_arg]
  rw [if_neg (by rw [hc]; decide)]
/-- the sets of as many as the lamp needs -/
def mq_need (D : mq_D) (s : Nat) : Bool := decide (s < 2 ^ D 0 0) && decide (mq_pop s = D 8 0)
theorem mq_need_in {D : mq_D} {s : Nat} (hs : s < 2 ^ D 0 0) : mq_need D s = true ↔ mq_pop s = D 8 0 := by
  unfold mq_need
  rw [decide_eq_true hs, Bool.true_and, decide_eq_true_eq]
theorem mq_need_out {D : mq_D} {s : Nat} (hs : 2 ^ D 0 0 ≤ s) : mq_need D s = false := by
  unfold mq_need
  rw [decide_eq_false (by omega), Bool.false_and]
theorem mq_need256 {D : mq_D} (hO : mq_Ok D) (b : Nat → Nat → Bool) : mq_arg (mq_need D) b 256 = mq_arg (mq_need D) b (2 ^ D 0 0) := by
  have hp := mq_pow hO.1.2
  have := mq_arg_tail (mq_need D) b (a := 2 ^ D 0 0) (fun w h => mq_need_out h) (256 - 2 ^ D 0 0)
  rw [show 2 ^ D 0 0 + (256 - 2 ^ D 0 0) = 256 by omega] at this
  exact this
def mq_luck (D : mq_D) (V : Nat → Nat) : Option Nat := mq_arg (mq_need D) (fun m p => decide (V p < V m)) (2 ^ D 0 0)
def mq_spl (D : mq_D) (V : Nat → Nat) : Option Nat := mq_arg (mq_need D) (fun m p => decide (V m < V p)) (2 ^ D 0 0)
def mq_ml (V : Nat → Nat) : Option Nat → Int64
  | none => -1
  | some p => lN (V p)
theorem qs_isOfNeeds (L : Nat) {s : Nat} (i : mMI) (l : mML) {D : mq_D} (hM : mq_MD i D) (hO : mq_Ok D) (hs : s < 256) : (mq_need D s = true → qf_Mod_isOfNeeds L (nI s) i l = some (1, i, l)) ∧ (mq_need D s = false → qf_Mod_isOfNeeds L (nI s) i l = some (0, i, l)) := by
  have hp := mq_pow hO.1.2
  have h8 := hO.2.2.2.2.2.2.2.2.1
  have hpop := mq_pop_le s
  have e8 : nI (mq_pop s) = nI (D 8 0) ↔ mq_pop s = D 8 0 := nI_eq (by omega) (by omega)
  by_cases hin : s < 2 ^ D 0 0
  · have hset : nI s >>> (nI (D 0 0) &&& 31) = 0 := (mq_set_nI hO.1.2 (by omega)).mpr hin
    have go : ∀ r, (if nI (mq_pop s) = nI (D 8 0) then some ((1 : Int32), i, l) else some (0, i, l)) = some r → qf_Mod_isOfNeeds L (nI s) i l = some r := by
      intro r hr
      refine qe_Mod_isOfNeeds L _ i l _ ?_
      simp only [qs_Mod_areBatteries L _ i l hM hO, mq_tf_is hset, Option.bind_some, mq_10, ↓reduceIte, qs_bits L i l (show s < 2 ^ 31 by omega), hM.2.2.2.2.2.1]
      exact hr
    rw [mq_need_in hin]
    constructor
    · intro h
      exact go _ (if_pos (e8.mpr h))
    · intro h
      refine go _ (if_neg (fun q => ?_))
      have := (mq_need_in hin).mpr (e8.mp q)
      rw [h] at this
      cases this
  · have hset : ¬ nI s >>> (nI (D 0 0) &&& 31) = 0 := fun q => hin ((mq_set_nI hO.1.2 (by omega)).mp q)
    rw [mq_need_out (by omega)]
    refine ⟨fun h => (by cases h), fun _ => ?_⟩
    refine qe_Mod_isOfNeeds L _ i l _ ?_
    simp only [qs_Mod_areBatteries L _ i l hM hO, mq_tf_no hset, Option.bind_some, ↓reduceIte]
theorem mq_o_neg {p : Nat} (hp : p < 2 ^ 31) : ¬ mq_o (some p) < 0 := nI_pos hp
theorem qs_lucky (L : Nat) (i : mMI) (l : mML) {D : mq_D} (hO : mq_Ok D) (V : Nat → Nat) (h8 : i 24 8 = nI (2 ^ D 0 0)) (hV : ∀ s, s < 2 ^ D 0 0 → V s < 2 ^ 62 ∧ l 26 s = lN (V s)) : qf_Worlds_lucky L (nI (D 8 0)) i l = some (mq_o (mq_luck D V), i, l) := by
  have hp := mq_pow hO.1.2
  have hn8 := hO.2.2.2.2.2.2.2.2.1
  have loop : ∀ (m k : Nat), k + m = 2 ^ D 0 0 → qf_Worlds_lucky_p10 L (nI (D 8 0)) (mq_o (mq_arg (mq_need D) (fun m p => decide (V p < V m)) k)) (mq_ml V (mq_arg (mq_need D) (fun m p => decide (V p < V m)) k)) (nI k) i l = some (mq_o (mq_luck D V), i, l) := by
    intro m
    induction m with
    | zero =>
      intro k hk
      have hk : k = 2 ^ D 0 0 := hk
      refine qe_Worlds_lucky_p10 L _ _ _ _ i l _ ?_
      rw [h8, hk, if_pos (nI_le (Nat.le_refl _) (by omega))]
      rfl
    | succ m ih =>
      intro k hk
      have hlt : k < 2 ^ D 0 0 := by omega
      have next := ih (k + 1) (by omega)
      have hpop := mq_pop_le k
      obtain ⟨v1, v2⟩ := hV k hlt
      have e8 : nI (mq_pop k) = nI (D 8 0) ↔ mq_pop k = D 8 0 := nI_eq (by omega) (by omega)
      refine qe_Worlds_lucky_p10 L _ _ _ _ i l _ ?_
      rw [h8, if_neg (nI_ge hlt (by omega)), qs_bitCount L i l (by omega), Option.bind_some]
      by_cases hc : mq_pop k = D 8 0
      · have hc2 := (mq_need_in hlt).mpr hc
        rw [if_pos (e8.mpr hc)]
        simp only [qs_holdingAll L i l (show k < 256 by omega), Option.bind_some, v2, nI_1]
        cases ha : mq_arg (mq_need D) (fun m p => decide (V p < V m)) k with
        | none =>
          rw [mq_arg_none _ _ hc2 ha] at next
          rw [if_neg (fun q => by
            have h1 := (lg_cmp_le _ _).mp q
            rw [Int64.le_iff_toInt_le, pk_lT (by omega)] at h1
            have h2 : (mq_ml V none).toInt = -1 := (by decide : (-1 : Int64).toInt = -1)
            omega)]
          exact next
        | some p =>
          obtain ⟨p1, p2⟩ := mq_arg_in _ _ _ _ ha
          have vp := (hV p (by omega)).1
          rw [mq_arg_some _ _ hc2 ha] at next
          have ele : lg_cmp (lN (V k)) (mq_ml V (some p)) ≤ 0 ↔ V k ≤ V p := (lg_cmp_le _ _).trans (pk_lLE (by omega) (by omega))
          by_cases hv : V p < V k
          · rw [if_neg (fun q => by have := ele.mp q; omega)]
            rw [if_pos (decide_eq_true hv)] at next
            exact next
          · rw [if_pos (ele.mpr (by omega))]
            rw [if_neg (fun q => hv (of_decide_eq_true q))] at next
            exact next
      · have hc2 : mq_need D k = false := by
          cases h : mq_need D k with
          | false => rfl
          | true => exact absurd ((mq_need_in hlt).mp h) hc
        rw [if_neg (fun q => hc (e8.mp q)), nI_1]
        rw [mq_arg_no _ _ hc2] at next
        exact next
  refine qe_Worlds_lucky L _ i l _ ?_
  exact loop (2 ^ D 0 0) 0 (by omega)
theorem qs_luckyNow (L : Nat) (i : mMI) (l : mML) {D : mq_D} (hM : mq_MD i D) (hO : mq_Ok D) (G : Nat → Nat) (hG : ∀ w, w < 256 → G w < 2 ^ 31 ∧ i 56 w = nI (G w)) (hV : ∀ s, s < 256 → mq_sw G s 256 < 2 ^ 62) : qf_Mod_luckyNow L i l = some (mq_o (mq_luck D (fun s => mq_sw G s 256)), i, l) := by
  have hp := mq_pow hO.1.2
  have loop : ∀ (m k : Nat), k + m = 256 → qf_Mod_luckyNow_p5 L (mq_o (mq_arg (mq_need D) (fun m p => decide (mq_sw G p 256 < mq_sw G m 256)) k)) (nI k) i l = some (mq_o (mq_luck D (fun s => mq_sw G s 256)), i, l) := by
    intro m
    induction m with
    | zero =>
      intro k hk
      have hk : k = 256 := hk
      subst hk
      refine qe_Mod_luckyNow_p5 L _ _ i l _ ?_
      rw [if_pos (show (256 : Int32) ≤ nI 256 from nI_le (Nat.le_refl _) (by omega)), mq_need256 hO]
      rfl
    | succ m ih =>
      intro k hk
      have next := ih (k + 1) (by omega)
      obtain ⟨n1, n0⟩ := qs_isOfNeeds L (s := k) i l hM hO (by omega)
      refine qe_Mod_luckyNow_p5 L _ _ i l _ ?_
      rw [if_neg (show ¬ (256 : Int32) ≤ nI k from nI_ge (a := k) (b := 256) (by omega) (by omega))]
      cases hc : mq_need D k with
      | false =>
        simp only [n0 hc, Option.bind_some, ↓reduceIte, nI_1]
        rw [mq_arg_no _ _ hc] at next
        exact next
      | true =>
        simp only [n1 hc, Option.bind_some, mq_10, ↓reduceIte, nI_1]
        cases ha : mq_arg (mq_need D) (fun m p => decide (mq_sw G p 256 < mq_sw G m 256)) k with
        | none =>
          rw [mq_arg_none _ _ hc ha] at next
          rw [if_pos (by decide)]
          exact next
        | some p =>
          obtain ⟨p1, p2⟩ := mq_arg_in _ _ _ _ ha
          have vp := hV p (by omega)
          have vk := hV k (by omega)
          rw [mq_arg_some _ _ hc ha] at next
          rw [if_neg (mq_o_neg (by omega)), qs_weightWith L i l G hG (by omega), Option.bind_some]
          simp only [mq_o, qs_weightWith L i l G hG (show p < 256 by omega), Option.bind_some]
          have ele : lg_cmp (lN (mq_sw G k 256)) (lN (mq_sw G p 256)) ≤ 0 ↔ mq_sw G k 256 ≤ mq_sw G p 256 := (lg_cmp_le _ _).trans (pk_lLE (by omega) (by omega))
          by_cases hv : mq_sw G p 256 < mq_sw G k 256
          · rw [if_neg (fun q => by have := ele.mp q; omega)]
            rw [if_pos (decide_eq_true hv)] at next
            exact next
          · rw [if_pos (ele.mpr (by omega))]
            rw [if_neg (fun q => hv (of_decide_eq_true q))] at next
            exact next
  refine qe_Mod_luckyNow L i l _ ?_
  exact loop 256 0 rfl
section
variable {D : mq_D}
theorem mq_need5 (hO : mq_Ok D) {s : Nat} (h : mq_need D s = true) (w : Nat) : mq_tells (D 7 0) s w < 5 := by
  have h8 := hO.2.2.2.2.2.2.2.2.1
  refine mq_tells5 hO (Or.inl ?_) (mq_pop_and s) w
  unfold mq_need at h
  rw [Bool.and_eq_true, decide_eq_true_eq, decide_eq_true_eq] at h
  omega
theorem mq_worst_le (D : mq_D) (s : Nat) : mq_worst D s ≤ 256 := mq_mx_le2 _ _ _ _
def mq_mi (V : Nat → Nat) : Option Nat → Int32
  | none => 2147483647
  | some p => nI (V p)
theorem qs_split (L : Nat) (i : mMI) (l : mML) (hC : mq_CD 2 3 4 5 6 7 i D) (hO : mq_Ok D) (h8 : i 24 8 = nI (2 ^ D 0 0)) (h9 : i 24 9 = nI (mq_cnt (mq_Wm D) 256)) (h27 : ∀ w, w < 2 ^ D 0 0 → mq_may D w = true → i 27 (mq_mc D w) = nI w) : ∃ i', qf_Worlds_split_2 L i l = some (mq_o (mq_spl D (mq_worst D)), i', l) ∧ ∀ k, k ≠ 28 → i' k = i k := by
  have hp := mq_pow hO.1.2
  have hn8 := hO.2.2.2.2.2.2.2.2.1
  have loop : ∀ (m k : Nat), k + m = 2 ^ D 0 0 → ∀ i1 : mMI, (∀ k, k ≠ 28 → i1 k = i k) → ∃ i', qf_Worlds_split_2_p9 L (mq_o (mq_arg (mq_need D) (fun m p => decide (mq_worst D m < mq_worst D p)) k)) (mq_mi (mq_worst D) (mq_arg (mq_need D) (fun m p => decide (mq_worst D m < mq_worst D p)) k)) (nI k) i1 l = some (mq_o (mq_spl D (mq_worst D)), i', l) ∧ ∀ k, k ≠ 28 → i' k = i k := by
    intro m
    induction m with
    | zero =>
      intro k hk i1 f1
      have hk : k = 2 ^ D 0 0 := hk
      refine ⟨i1, qe_Worlds_split_2_p9 L _ _ _ i1 l _ ?_, f1⟩
      rw [f1 24 (by omega), h8, hk, if_pos (nI_le (Nat.le_refl _) (by omega))]
      rfl
    | succ m ih =>
      intro k hk i1 f1
      have hlt : k < 2 ^ D 0 0 := by omega
      have hpop := mq_pop_le k
      have e8 : nI (mq_pop k) = nI (D 8 0) ↔ mq_pop k = D 8 0 := nI_eq (by omega) (by omega)
      have hC1 : mq_CD 2 3 4 5 6 7 i1 D := hC.congr (fun k h1 h2 => f1 k (by omega))
      by_cases hc : mq_pop k = D 8 0
      · have hc2 := (mq_need_in hlt).mpr hc
        obtain ⟨i2, e2, k2⟩ := qs_leftAtWorst L (s := k) i1 l hC1 hO (by omega) (mq_need5 hO hc2) (by rw [f1 24 (by omega)]; exact h9) (by rw [f1 27 (by omega)]; exact h27)
        have hwk := mq_worst_le D k
        obtain ⟨i', g1, g2⟩ := ih (k + 1) (by omega) i2 (fun a ha => (k2 a ha).trans (f1 a ha))
        refine ⟨i', qe_Worlds_split_2_p9 L _ _ _ i1 l _ ?_, g2⟩
        rw [f1 24 (by omega), h8, if_neg (nI_ge hlt (by omega)), qs_bitCount L i1 l (by omega), Option.bind_some]
        simp only [hC1.2.2.2.2.2.1]
        rw [if_pos (e8.mpr hc), e2, Option.bind_some]
        dsimp only
        rw [nI_1]
        cases ha : mq_arg (mq_need D) (fun m p => decide (mq_worst D m < mq_worst D p)) k with
        | none =>
          rw [mq_arg_none _ _ hc2 ha] at g1
          rw [if_neg (show ¬ mq_mi (mq_worst D) none ≤ nI (mq_worst D k) from nI_ge (a := mq_worst D k) (b := 2147483647) (by omega) (by omega))]
          exact g1
        | some p =>
          obtain ⟨p1, p2⟩ := mq_arg_in _ _ _ _ ha
          have hwp := mq_worst_le D p
          rw [mq_arg_some _ _ hc2 ha] at g1
          have ele : mq_mi (mq_worst D) (some p) ≤ nI (mq_worst D k) ↔ mq_worst D p ≤ mq_worst D k := nI_leI (by omega) (by omega)
          by_cases hv : mq_worst D k < mq_worst D p
          · rw [if_neg (fun q => by have := ele.mp q; omega)]
            rw [if_pos (decide_eq_true hv)] at g1
            exact g1
          · rw [if_pos (ele.mpr (by omega))]
            rw [if_neg (fun q => hv (of_decide_eq_true q))] at g1
            exact g1
      · have hc2 : mq_need D k = false := by
          cases h : mq_need D k with
          | false => rfl
          | true => exact absurd ((mq_need_in hlt).mp h) hc
        obtain ⟨i', g1, g2⟩ := ih (k + 1) (by omega) i1 f1
        refine ⟨i', qe_Worlds_split_2_p9 L _ _ _ i1 l _ ?_, g2⟩
        rw [f1 24 (by omega), h8, if_neg (nI_ge hlt (by omega)), qs_bitCount L i1 l (by omega), Option.bind_some]
        simp only [hC1.2.2.2.2.2.1]
        rw [if_neg (fun q => hc (e8.mp q)), nI_1]
        rw [mq_arg_no _ _ hc2] at g1
        exact g1
  obtain ⟨i', g1, g2⟩ := loop (2 ^ D 0 0) 0 (by omega) i (fun _ _ => rfl)
  exact ⟨i', qe_Worlds_split_2 L i l _ g1, g2⟩
theorem qs_splitNow (L : Nat) (i : mMI) (l : mML) (hM : mq_MD i D) (hO : mq_Ok D) (hG : ∀ w, w < 256 → mq_Wm D w < 2 ^ 31 ∧ i 56 w = nI (mq_Wm D w)) : ∃ i', qf_Mod_splitNow L i l = some (mq_o (mq_spl D (mq_worst D)), i', l) ∧ ∀ k, k ≠ 57 → i' k = i k := by
  have hp := mq_pow hO.1.2
  have loop : ∀ (m k : Nat), k + m = 256 → ∀ i1 : mMI, (∀ k, k ≠ 57 → i1 k = i k) → ∃ i', qf_Mod_splitNow_p5 L (mq_o (mq_arg (mq_need D) (fun m p => decide (mq_worst D m < mq_worst D p)) k)) (nI k) i1 l = some (mq_o (mq_spl D (mq_worst D)), i', l) ∧ ∀ k, k ≠ 57 → i' k = i k := by
    intro m
    induction m with
    | zero =>
      intro k hk i1 f1
      have hk : k = 256 := hk
      subst hk
      refine ⟨i1, qe_Mod_splitNow_p5 L _ _ i1 l _ ?_, f1⟩
      rw [if_pos (show (256 : Int32) ≤ nI 256 from nI_le (Nat.le_refl _) (by omega)), mq_need256 hO]
      rfl
    | succ m ih =>
      intro k hk i1 f1
      have hM1 : mq_MD i1 D := hM.congr (fun j _ _ => by rw [f1 42 (by omega)]) (fun k h1 h2 => f1 k (by omega))
      have hG1 : ∀ w, w < 256 → mq_Wm D w < 2 ^ 31 ∧ i1 56 w = nI (mq_Wm D w) := by rw [f1 56 (by omega)]; exact hG
      obtain ⟨n1, n0⟩ := qs_isOfNeeds L (s := k) i1 l hM1 hO (by omega)
      cases hc : mq_need D k with
      | false =>
        obtain ⟨i', g1, g2⟩ := ih (k + 1) (by omega) i1 f1
        refine ⟨i', qe_Mod_splitNow_p5 L _ _ i1 l _ ?_, g2⟩
        rw [if_neg (show ¬ (256 : Int32) ≤ nI k from nI_ge (a := k) (b := 256) (by omega) (by omega))]
        simp only [n0 hc, Option.bind_some, ↓reduceIte, nI_1]
        rw [mq_arg_no _ _ hc] at g1
        exact g1
      | true =>
        cases ha : mq_arg (mq_need D) (fun m p => decide (mq_worst D m < mq_worst D p)) k with
        | none =>
          obtain ⟨i', g1, g2⟩ := ih (k + 1) (by omega) i1 f1
          refine ⟨i', qe_Mod_splitNow_p5 L _ _ i1 l _ ?_, g2⟩
          rw [if_neg (show ¬ (256 : Int32) ≤ nI k from nI_ge (a := k) (b := 256) (by omega) (by omega))]
          simp only [n1 hc, Option.bind_some, mq_10, ↓reduceIte, nI_1]
          rw [mq_arg_none _ _ hc ha] at g1
          rw [if_pos (by decide)]
          exact g1
        | some p =>
          obtain ⟨p1, p2⟩ := mq_arg_in _ _ _ _ ha
          have hwp := mq_worst_le D p
          have hwk := mq_worst_le D k
          obtain ⟨i2, e2, k2⟩ := qs_leavesBy L (s := k) i1 l hM1 hO (by omega) (mq_need5 hO hc) hG1
          have hM2 : mq_MD i2 D := hM1.congr (fun j _ _ => by rw [k2 42 (by omega)]) (fun k h1 h2 => k2 k (by omega))
          obtain ⟨i3, e3, k3⟩ := qs_leavesBy L (s := p) i2 l hM2 hO (by omega) (mq_need5 hO p2) (by rw [k2 56 (by omega)]; exact hG1)
          obtain ⟨i', g1, g2⟩ := ih (k + 1) (by omega) i3 (fun a ha => (k3 a ha).trans ((k2 a ha).trans (f1 a ha)))
          refine ⟨i', qe_Mod_splitNow_p5 L _ _ i1 l _ ?_, g2⟩
          rw [if_neg (show ¬ (256 : Int32) ≤ nI k from nI_ge (a := k) (b := 256) (by omega) (by omega))]
          simp only [n1 hc, Option.bind_some, mq_10, ↓reduceIte, nI_1]
          rw [mq_arg_some _ _ hc ha] at g1
          rw [if_neg (mq_o_neg (by omega)), e2, Option.bind_some]
          simp only [mq_o, e3, Option.bind_some]
          have ele : nI (mq_worst D p) ≤ nI (mq_worst D k) ↔ mq_worst D p ≤ mq_worst D k := nI_leI (by omega) (by omega)
          by_cases hv : mq_worst D k < mq_worst D p
          · rw [if_neg (fun q => by have := ele.mp q; omega)]
            rw [if_pos (decide_eq_true hv)] at g1
            exact g1
          · rw [if_pos (ele.mpr (by omega))]
            rw [if_neg (fun q => hv (of_decide_eq_true q))] at g1
            exact g1
  obtain ⟨i', g1, g2⟩ := loop 256 0 rfl i (fun _ _ => rfl)
  exact ⟨i', qe_Mod_splitNow L i l _ g1, g2⟩
end
