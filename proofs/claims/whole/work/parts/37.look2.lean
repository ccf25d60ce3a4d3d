/-! The class looks through the worlds. -/
/-- how many worlds below m may be -/
def mq_mc (D : mq_D) : Nat → Nat
  | 0 => 0
  | m + 1 => mq_mc D m + (if mq_may D m = true then 1 else 0)
theorem mq_mc_le (D : mq_D) (m : Nat) : mq_mc D m ≤ m := by
  induction m with
  | zero => exact Nat.le_refl _
  | succ m ih =>
    simp only [mq_mc]
    split <;> omega
theorem mq_mc_mono (D : mq_D) {a b : Nat} (h : a ≤ b) : mq_mc D a ≤ mq_mc D b := by
  induction h with
  | refl => exact Nat.le_refl _
  | step _ ih =>
    simp only [mq_mc]
    omega
def mq_W (D : mq_D) (w : Nat) : Nat := if mq_may D w = true then mq_wt D w else 0
theorem mq_upi_at (i : mMI) (a k j : Nat) (v : Int32) : mj_up i a k v a j = if j = k then v else i a j := by simp [mj_up]
theorem qs_look (L : Nat) (i : mMI) (l : mML) {D : mq_D} (hC : mq_CD 2 3 4 5 6 7 i D) (hO : mq_Ok D) : ∃ i' l', qf_Worlds_look_2 L i l = some (i', l') ∧ (∀ k, k ≠ 24 → k ≠ 27 → i' k = i k) ∧ (∀ j, j < 7 → i' 24 j = i 24 j) ∧ i' 24 7 = nI (D 0 0) ∧ i' 24 8 = nI (2 ^ D 0 0) ∧ i' 24 9 = nI (mq_mc D (2 ^ D 0 0)) ∧
    (∀ w, w < 2 ^ D 0 0 → mq_may D w = true → i' 27 (mq_mc D w) = nI w) ∧ (∀ k, k ≠ 25 → k ≠ 26 → l' k = l k) ∧ (∀ w, w < 2 ^ D 0 0 → l' 25 w = lN (mq_W D w)) ∧ ∀ s, s < 2 ^ D 0 0 → l' 26 s = lN (mq_hs (mq_W D) (D 0 0) s) := by
  have hn := hO.1.2
  have hp := mq_pow hn
  have loop : ∀ (m w : Nat), w + m = 2 ^ D 0 0 → ∀ (i1 : mMI) (l1 : mML), (∀ k, k ≠ 24 → k ≠ 27 → i1 k = i k) → (∀ j, j < 7 → i1 24 j = i 24 j) → i1 24 7 = nI (D 0 0) → i1 24 8 = nI (2 ^ D 0 0) → i1 24 9 = nI (mq_mc D w) → (∀ v, v < w → mq_may D v = true → i1 27 (mq_mc D v) = nI v) → (∀ k, k ≠ 25 → k ≠ 26 → l1 k = l k) → (∀ v, v < w → l1 25 v = lN (mq_W D v)) →
      ∃ i' l', qf_Worlds_look_2_p25 L (nI w) i1 l1 = some (i', l') ∧ (∀ k, k ≠ 24 → k ≠ 27 → i' k = i k) ∧ (∀ j, j < 7 → i' 24 j = i 24 j) ∧ i' 24 7 = nI (D 0 0) ∧ i' 24 8 = nI (2 ^ D 0 0) ∧ i' 24 9 = nI (mq_mc D (2 ^ D 0 0)) ∧
    (∀ w, w < 2 ^ D 0 0 → mq_may D w = true → i' 27 (mq_mc D w) = nI w) ∧ (∀ k, k ≠ 25 → k ≠ 26 → l' k = l k) ∧ (∀ w, w < 2 ^ D 0 0 → l' 25 w = lN (mq_W D w)) ∧ ∀ s, s < 2 ^ D 0 0 → l' 26 s = lN (mq_hs (mq_W D) (D 0 0) s) := by
    intro m
    induction m with
    | zero =>
      intro w hw i1 l1 a1 a2 a3 a4 a5 a6 a7 a8
      have hw : w = 2 ^ D 0 0 := hw
      subst hw
      obtain ⟨l', g1, g2, g3⟩ := qs_weighHolding L i1 l1 (mq_W D) hn a3 a4 a8
      refine ⟨i1, l', ?_, a1, a2, a3, a4, a5, a6, fun k h1 h2 => (g2 k h2).trans (a7 k h1 h2), fun v hv => ?_, g3⟩
      · refine qe_Worlds_look_2_p25 L _ i1 l1 _ ?_
        rw [a4, if_pos (nI_le (Nat.le_refl _) (by omega)), g1, Option.bind_some]
      · rw [g2 25 (by omega)]
        exact a8 v hv
    | succ m ih =>
      intro w hw i1 l1 a1 a2 a3 a4 a5 a6 a7 a8
      have hlt : w < 2 ^ D 0 0 := by omega
      have hC1 : mq_CD 2 3 4 5 6 7 i1 D := hC.congr (fun k h1 h2 => a1 k (by omega) (by omega))
      have hmc := mq_mc_le D w
      by_cases hm : mq_may D w = true
      · have hW : mq_W D w = mq_wt D w := if_pos hm
        have hmc1 : mq_mc D (w + 1) = mq_mc D w + 1 := by simp only [mq_mc]; rw [if_pos hm]
        obtain ⟨i', l', g0, g⟩ := ih (w + 1) (by omega) (mj_up (mj_up i1 27 (mq_mc D w) (nI w)) 24 9 (nI (mq_mc D w + 1))) (mj_up l1 25 w (lN (mq_wt D w)))
          (fun k h1 h2 => by rw [mj_up_ne h1, mj_up_ne h2]; exact a1 k h1 h2)
          (fun j hj => by rw [mq_upi_at, if_neg (by omega), mj_up_ne (show 24 ≠ 27 by omega)]; exact a2 j hj)
          (by rw [mq_upi_at, if_neg (by omega), mj_up_ne (show 24 ≠ 27 by omega)]; exact a3)
          (by rw [mq_upi_at, if_neg (by omega), mj_up_ne (show 24 ≠ 27 by omega)]; exact a4)
          (by rw [mq_upi_at, if_pos rfl, hmc1])
          (fun v hv hmv => by
            rw [mj_up_ne (show 27 ≠ 24 by omega), mq_upi_at]
            by_cases e : v = w
            · subst e; rw [if_pos rfl]
            · have h1 : mq_mc D v + 1 ≤ mq_mc D w := by
                have := mq_mc_mono D (show v + 1 ≤ w by omega)
                simp only [mq_mc] at this
                rw [if_pos hmv] at this
                exact this
              rw [if_neg (by omega)]
              exact a6 v (by omega) hmv)
          (fun k h1 h2 => by rw [mj_up_ne h1]; exact a7 k h1 h2)
          (fun v hv => by
            rw [mq_upl_at]
            by_cases e : v = w
            · rw [if_pos e, e, hW]
            · rw [if_neg e]; exact a8 v (by omega))
        refine ⟨i', l', ?_, g⟩
        refine qe_Worlds_look_2_p25 L _ i1 l1 _ ?_
        rw [a4, if_neg (nI_ge hlt (by omega)), qs_Drawer_mayBe_2 L i1 l1 hC1 hO (by omega), if_pos hm, Option.bind_some]
        rw [if_neg (show ¬ (1 : Int32) = 0 by decide), qs_Drawer_weightOf_2 L i1 l1 hC1 hO (by omega), Option.bind_some, qs_Two_storeL_25 L _ i1 l1 (by omega), Option.bind_some]
        rw [if_neg (show ¬ (1 : Int32) = 0 by decide)]
        simp only [a5]
        rw [qs_Two_store_27 L _ i1 _ (by omega), Option.bind_some]
        simp only [mj_up_ne (f := i1) (a := 27) (show 24 ≠ 27 by omega), a5]
        rw [nI_1, nI_1]
        exact g0
      · have hW : mq_W D w = 0 := if_neg hm
        have hmc1 : mq_mc D (w + 1) = mq_mc D w := by simp only [mq_mc]; rw [if_neg hm]; rfl
        obtain ⟨i', l', g0, g⟩ := ih (w + 1) (by omega) i1 (mj_up l1 25 w (lN 0)) a1 a2 a3 a4 (by rw [hmc1]; exact a5)
          (fun v hv hmv => by
            by_cases e : v = w
            · subst e; exact absurd hmv hm
            · exact a6 v (by omega) hmv)
          (fun k h1 h2 => by rw [mj_up_ne h1]; exact a7 k h1 h2)
          (fun v hv => by
            rw [mq_upl_at]
            by_cases e : v = w
            · rw [if_pos e, e, hW]
            · rw [if_neg e]; exact a8 v (by omega))
        refine ⟨i', l', ?_, g⟩
        refine qe_Worlds_look_2_p25 L _ i1 l1 _ ?_
        rw [a4, if_neg (nI_ge hlt (by omega)), qs_Drawer_mayBe_2 L i1 l1 hC1 hO (by omega), if_neg hm, Option.bind_some]
        rw [if_pos (show (0 : Int32) = 0 from rfl), qs_Two_storeL_25 L _ i1 l1 (by omega), Option.bind_some]
        rw [if_pos (show (0 : Int32) = 0 from rfl), nI_1]
        exact g0
  obtain ⟨i', l', g0, g⟩ := loop (2 ^ D 0 0) 0 (by omega) (mj_up (mj_up (mj_up i 24 7 (i 2 0)) 24 8 ((1 : Int32) <<< ((i 2 0) &&& 31))) 24 9 (0 : Int32)) l
    (fun k h1 h2 => by rw [mj_up_ne h1, mj_up_ne h1, mj_up_ne h1])
    (fun j hj => by rw [mq_upi_at, if_neg (by omega), mq_upi_at, if_neg (by omega), mq_upi_at, if_neg (by omega)])
    (by rw [mq_upi_at, if_neg (by omega), mq_upi_at, if_neg (by omega), mq_upi_at, if_pos rfl, hC.1])
    (by rw [mq_upi_at, if_neg (by omega), mq_upi_at, if_pos rfl, hC.1, mq_shl (by omega)])
    (by rw [mq_upi_at, if_pos rfl]; rfl)
    (fun v hv => absurd hv (by omega)) (fun _ _ _ => rfl) (fun v hv => absurd hv (by omega))
  exact ⟨i', l', qe_Worlds_look_2 L i l _ g0, g⟩
