/-! How many worlds a try leaves at worst. -/
/-- the greatest of the first n -/
def mq_mx (f : Nat → Nat) : Nat → Nat
  | 0 => 0
  | n + 1 => if mq_mx f n < f n then f n else mq_mx f n
theorem mq_mx_le (f : Nat → Nat) (x : Nat) : ∀ n, mq_mx f n ≤ x ↔ ∀ v, v < n → f v ≤ x
  | 0 => ⟨fun _ _ h => absurd h (by omega), fun _ => Nat.zero_le _⟩
  | n + 1 => by
    have ih := mq_mx_le f x n
    simp only [mq_mx]
    constructor
    · intro h v hv
      by_cases e : v = n
      · subst e
        split at h <;> omega
      · refine ih.mp ?_ v (by omega)
        split at h <;> omega
    · intro h
      have h1 := h n (by omega)
      have h2 := ih.mpr (fun v hv => h v (by omega))
      split <;> omega
/-- how many worlds below m that may be are told v -/
def mq_cv (G t : Nat → Nat) (m v : Nat) : Nat := mq_sum (fun w => if G w = 0 then 0 else if t w = v then 1 else 0) m
theorem mq_cv_s (G t : Nat → Nat) (m v : Nat) : mq_cv G t (m + 1) v = mq_cv G t m v + (if G m = 0 then 0 else if t m = v then 1 else 0) := rfl
theorem mq_cv_le (G t : Nat → Nat) (v : Nat) : ∀ m, mq_cv G t m v ≤ m
  | 0 => Nat.le_refl _
  | m + 1 => by
    have e : mq_cv G t (m + 1) v = mq_cv G t m v + (if G m = 0 then 0 else if t m = v then 1 else 0) := rfl
    have := mq_cv_le G t v m
    rw [e]
    split
    · omega
    · split <;> omega
theorem mq_cv_0 {G t : Nat → Nat} {v : Nat} (h : ∀ w, t w ≠ v) (m : Nat) : mq_cv G t m v = 0 := mq_sum_0 m fun w _ => by
  rw [if_neg (h w)]
  split <;> rfl
theorem mq_mx_up (G t : Nat → Nat) (m n : Nat) (h0 : G m ≠ 0) (ht : t m < n) : mq_mx (mq_cv G t (m + 1)) n = if mq_mx (mq_cv G t m) n < mq_cv G t m (t m) + 1 then mq_cv G t m (t m) + 1 else mq_mx (mq_cv G t m) n := by
  have e : ∀ v, mq_cv G t (m + 1) v = mq_cv G t m v + (if t m = v then 1 else 0) := by
    intro v
    show mq_cv G t m v + (if G m = 0 then 0 else if t m = v then 1 else 0) = _
    rw [if_neg h0]
  have et : mq_cv G t (m + 1) (t m) = mq_cv G t m (t m) + 1 := by rw [e, if_pos rfl]
  apply Nat.le_antisymm
  · rw [mq_mx_le]
    intro v hv
    have h1 := (mq_mx_le (mq_cv G t m) _ n).mp (Nat.le_refl _) v hv
    rw [e]
    by_cases hv2 : t m = v
    · subst hv2
      rw [if_pos rfl]
      split <;> omega
    · rw [if_neg hv2]
      split <;> omega
  · have h1 := (mq_mx_le (mq_cv G t (m + 1)) _ n).mp (Nat.le_refl _) (t m) ht
    have h2 : mq_mx (mq_cv G t m) n ≤ mq_mx (mq_cv G t (m + 1)) n := by
      rw [mq_mx_le]
      intro v hv
      have h3 := (mq_mx_le (mq_cv G t (m + 1)) _ n).mp (Nat.le_refl _) v hv
      rw [e] at h3
      omega
    rw [et] at h1
    split <;> omega
theorem mq_mx_same (G t : Nat → Nat) (m n : Nat) (h0 : G m = 0) : mq_mx (mq_cv G t (m + 1)) n = mq_mx (mq_cv G t m) n := by
  have e : mq_cv G t (m + 1) = mq_cv G t m := by
    funext v
    show mq_cv G t m v + (if G m = 0 then 0 else if t m = v then 1 else 0) = _
    rw [if_pos h0, Nat.add_zero]
  rw [e]
theorem mq_mx_tail (G t : Nat → Nat) (m : Nat) (h : ∀ w, t w < 5) : mq_mx (mq_cv G t m) 9 = mq_mx (mq_cv G t m) 5 := by
  apply Nat.le_antisymm
  · rw [mq_mx_le]
    intro v hv
    by_cases h5 : v < 5
    · exact (mq_mx_le (mq_cv G t m) _ 5).mp (Nat.le_refl _) v h5
    · rw [mq_cv_0 (fun w q => by have := h w; omega)]
      omega
  · rw [mq_mx_le]
    intro v hv
    exact (mq_mx_le (mq_cv G t m) _ 9).mp (Nat.le_refl _) v (by omega)
theorem mq_mx_le2 (G t : Nat → Nat) (m n : Nat) : mq_mx (mq_cv G t m) n ≤ m := by
  rw [mq_mx_le]
  intro v _
  exact mq_cv_le G t v m
section
variable {D : mq_D}
/-- the worst that a try leaves -/
def mq_worst (D : mq_D) (s : Nat) : Nat := mq_mx (mq_cv (mq_Wm D) (mq_tells (D 7 0) s) 256) 5
theorem mq_cv_tail (hO : mq_Ok D) (t : Nat → Nat) : mq_cv (mq_Wm D) t 256 = mq_cv (mq_Wm D) t (2 ^ D 0 0) := by
  have hp := mq_pow hO.1.2
  funext v
  unfold mq_cv
  rw [show 256 = 2 ^ D 0 0 + (256 - 2 ^ D 0 0) by omega, mq_sum_tail (256 - 2 ^ D 0 0) (fun w h1 h2 => by
    have : mq_Wm D w = 0 := if_neg (fun q => by omega)
    simp only [this, if_true])]
theorem mq_Wm_0 (hO : mq_Ok D) {w : Nat} (hw : w < 2 ^ D 0 0) : mq_Wm D w = 0 ↔ ¬ mq_may D w = true := by
  unfold mq_Wm
  by_cases h : mq_may D w = true
  · rw [if_pos ⟨hw, h⟩]
    have := (mq_wt_in hO w).1
    exact ⟨fun q => by omega, fun q => absurd h q⟩
  · rw [if_neg (fun q => h q.2)]
    exact ⟨fun _ => h, fun _ => rfl⟩
theorem qs_leftAtWorst (L : Nat) {s : Nat} (i : mMI) (l : mML) (hC : mq_CD 2 3 4 5 6 7 i D) (hO : mq_Ok D) (hs : s < 256) (ht : ∀ w, mq_tells (D 7 0) s w < 5) (h9 : i 24 9 = nI (mq_cnt (mq_Wm D) 256)) (h27 : ∀ w, w < 2 ^ D 0 0 → mq_may D w = true → i 27 (mq_mc D w) = nI w) : ∃ i', qf_Worlds_leftAtWorst_2 L (nI s) i l = some (nI (mq_worst D s), i', l) ∧ ∀ k, k ≠ 28 → i' k = i k := by
  have hp := mq_pow hO.1.2
  have hk5 := hO.2.2.2.2.2.2.2.1
  have main : ∀ (m w : Nat), w + m = 2 ^ D 0 0 → ∀ i1 : mMI, (∀ k, k ≠ 28 → i1 k = i k) → (∀ v, v < 5 → i1 28 v = nI (mq_cv (mq_Wm D) (mq_tells (D 7 0) s) w v)) → ∃ i', qf_Worlds_leftAtWorst_2_p31 L (nI s) (nI (mq_mx (mq_cv (mq_Wm D) (mq_tells (D 7 0) s) w) 5)) (nI (mq_mc D w)) i1 l = some (nI (mq_worst D s), i', l) ∧ ∀ k, k ≠ 28 → i' k = i k := by
    intro m
    induction m with
    | zero =>
      intro w hw i1 f1 f2
      have hw : w = 2 ^ D 0 0 := hw
      refine ⟨i1, qe_Worlds_leftAtWorst_2_p31 L _ _ _ i1 l _ ?_, f1⟩
      rw [f1 24 (by omega), h9, mq_cnt_mc D hO, hw, if_pos (nI_le (Nat.le_refl _) (by have := mq_mc_le D (2 ^ D 0 0); omega))]
      unfold mq_worst
      rw [mq_cv_tail hO]
    | succ m ih =>
      intro w hw i1 f1 f2
      have hlt : w < 2 ^ D 0 0 := by omega
      by_cases hm : mq_may D w = true
      · have h0 : mq_Wm D w ≠ 0 := fun q => (mq_Wm_0 hO hlt).mp q hm
        have emc : mq_mc D (w + 1) = mq_mc D w + 1 := by simp only [mq_mc]; rw [if_pos hm]
        have hmono := mq_mc_mono D (show w + 1 ≤ 2 ^ D 0 0 by omega)
        have hle := mq_mc_le D (2 ^ D 0 0)
        have htw := ht w
        have hcv := mq_cv_le (mq_Wm D) (mq_tells (D 7 0) s) (mq_tells (D 7 0) s w) w
        have hmx := mq_mx_le2 (mq_Wm D) (mq_tells (D 7 0) s) w 5
        obtain ⟨i', g1, g2⟩ := ih (w + 1) (by omega) (mj_up i1 28 (mq_tells (D 7 0) s w) (nI (mq_cv (mq_Wm D) (mq_tells (D 7 0) s) w (mq_tells (D 7 0) s w) + 1))) (fun k hk => (mq_upn hk).trans (f1 k hk)) (fun v hv => by
          have e : mq_cv (mq_Wm D) (mq_tells (D 7 0) s) (w + 1) v = mq_cv (mq_Wm D) (mq_tells (D 7 0) s) w v + (if mq_tells (D 7 0) s w = v then 1 else 0) := by
            rw [mq_cv_s, if_neg h0]
          rw [mq_upi_at, e]
          by_cases ev : v = mq_tells (D 7 0) s w
          · rw [if_pos ev, ev, if_pos rfl]
          · rw [if_neg ev, if_neg (fun q => ev q.symm), Nat.add_zero]
            exact f2 v hv)
        refine ⟨i', ?_, g2⟩
        refine qe_Worlds_leftAtWorst_2_p31 L _ _ _ i1 l _ ?_
        have e27 : i1 27 (mq_mc D w) = nI w := by rw [f1 27 (by omega)]; exact h27 w hlt hm
        have e27' : i1 2 7 = nI (D 7 0) := by rw [f1 2 (by omega)]; exact hC.2.2.2.2.1
        rw [f1 24 (by omega), h9, mq_cnt_mc D hO, if_neg (nI_ge (by omega) (by omega))]
        simp only [qs_Two_at_27 L i1 l (show mq_mc D w < 256 by omega), Option.bind_some, e27, qs_Drawer_tells_2 L i1 l e27' hk5 (show s < 1024 by omega), qs_Two_at_28 L i1 l htw, f2 _ htw, nI_1, qs_Two_store_28 L _ i1 l htw]
        rw [emc, mq_mx_up _ _ _ _ h0 htw] at g1
        by_cases hc : mq_mx (mq_cv (mq_Wm D) (mq_tells (D 7 0) s) w) 5 < mq_cv (mq_Wm D) (mq_tells (D 7 0) s) w (mq_tells (D 7 0) s w) + 1
        · rw [if_pos (nI_lt hc (by omega))]
          rw [if_pos hc] at g1
          exact g1
        · rw [if_neg (nI_nlt (by omega) (by omega))]
          rw [if_neg hc] at g1
          exact g1
      · have h0 : mq_Wm D w = 0 := (mq_Wm_0 hO hlt).mpr hm
        have emc : mq_mc D (w + 1) = mq_mc D w := by simp only [mq_mc]; rw [if_neg hm, Nat.add_zero]
        have ecv : mq_cv (mq_Wm D) (mq_tells (D 7 0) s) (w + 1) = mq_cv (mq_Wm D) (mq_tells (D 7 0) s) w := by
          funext v
          rw [mq_cv_s, if_pos h0, Nat.add_zero]
        have g := ih (w + 1) (by omega) i1 f1 (fun v hv => by rw [ecv]; exact f2 v hv)
        rw [emc, ecv] at g
        exact g
  have init : ∀ (m v : Nat), v + m = 5 → ∀ i1 : mMI, (∀ k, k ≠ 28 → i1 k = i k) → (∀ u, u < v → i1 28 u = nI 0) → ∃ i', qf_Worlds_leftAtWorst_2_p2 L (nI s) (nI v) i1 l = some (nI (mq_worst D s), i', l) ∧ ∀ k, k ≠ 28 → i' k = i k := by
    intro m
    induction m with
    | zero =>
      intro v hv i1 f1 f2
      have hv : v = 5 := hv
      subst hv
      obtain ⟨i', g1, g2⟩ := main (2 ^ D 0 0) 0 (by omega) i1 f1 (fun u hu => f2 u hu)
      refine ⟨i', qe_Worlds_leftAtWorst_2_p2 L _ _ i1 l _ ?_, g2⟩
      rw [if_pos (show Int32.ofNat 5 ≤ nI 5 from nI_le (Nat.le_refl _) (by omega))]
      exact g1
    | succ m ih =>
      intro v hv i1 f1 f2
      obtain ⟨i', g1, g2⟩ := ih (v + 1) (by omega) (mj_up i1 28 v (nI 0)) (fun k hk => (mq_upn hk).trans (f1 k hk)) (fun u hu => by
        rw [mq_upi_at]
        by_cases e : u = v
        · rw [if_pos e]
        · rw [if_neg e]; exact f2 u (by omega))
      refine ⟨i', qe_Worlds_leftAtWorst_2_p2 L _ _ i1 l _ ?_, g2⟩
      rw [if_neg (show ¬ Int32.ofNat 5 ≤ nI v from nI_ge (by omega) (by omega))]
      simp only [qs_Two_store_28 L _ i1 l (show v < 5 by omega), Option.bind_some, nI_1]
      exact g1
  obtain ⟨i', g1, g2⟩ := init 5 0 rfl i (fun _ _ => rfl) (fun u hu => absurd hu (by omega))
  exact ⟨i', qe_Worlds_leftAtWorst_2 L _ i l _ g1, g2⟩
theorem qs_leavesBy (L : Nat) {s : Nat} (i : mMI) (l : mML) (hM : mq_MD i D) (hO : mq_Ok D) (hs : s < 256) (ht : ∀ w, mq_tells (D 7 0) s w < 5) (hG : ∀ w, w < 256 → mq_Wm D w < 2 ^ 31 ∧ i 56 w = nI (mq_Wm D w)) : ∃ i', qf_Mod_leavesBy L (nI s) i l = some (nI (mq_worst D s), i', l) ∧ ∀ k, k ≠ 57 → i' k = i k := by
  have hk5 := hO.2.2.2.2.2.2.2.1
  have fin : ∀ i1 : mMI, (∀ v, v < 9 → i1 57 v = nI (mq_cv (mq_Wm D) (mq_tells (D 7 0) s) 256 v)) → ∀ (m v : Nat), v + m = 9 → qf_Mod_leavesBy_p68 L (nI (mq_mx (mq_cv (mq_Wm D) (mq_tells (D 7 0) s) 256) v)) (nI v) i1 l = some (nI (mq_worst D s), i1, l) := by
    intro i1 f2 m
    induction m with
    | zero =>
      intro v hv
      have hv : v = 9 := hv
      subst hv
      refine qe_Mod_leavesBy_p68 L _ _ i1 l _ ?_
      rw [if_pos (show (9 : Int32) ≤ nI 9 from nI_le (Nat.le_refl _) (by omega)), mq_mx_tail _ _ _ ht]
      rfl
    | succ m ih =>
      intro v hv
      have next := ih (v + 1) (by omega)
      have hmx := mq_mx_le2 (mq_Wm D) (mq_tells (D 7 0) s) 256 v
      have hcv := mq_cv_le (mq_Wm D) (mq_tells (D 7 0) s) v 256
      refine qe_Mod_leavesBy_p68 L _ _ i1 l _ ?_
      rw [if_neg (show ¬ (9 : Int32) ≤ nI v from nI_ge (a := v) (b := 9) (by omega) (by omega)), if_neg (nI_in (show v < 9 by omega) (by omega)), nI_clamp (by omega), f2 v (by omega), nI_1, if_neg (mq_in (show v < 9 by omega) (by omega))]
      simp only [mq_mx] at next
      by_cases hc : mq_mx (mq_cv (mq_Wm D) (mq_tells (D 7 0) s) 256) v < mq_cv (mq_Wm D) (mq_tells (D 7 0) s) 256 v
      · rw [if_neg (nI_ge hc (by omega))]
        rw [if_pos hc] at next
        exact next
      · rw [if_pos (nI_le (by omega) (by omega))]
        rw [if_neg hc] at next
        exact next
  have main : ∀ (m w : Nat), w + m = 256 → ∀ i1 : mMI, (∀ k, k ≠ 57 → i1 k = i k) → (∀ v, v < 9 → i1 57 v = nI (mq_cv (mq_Wm D) (mq_tells (D 7 0) s) w v)) → ∃ i', qf_Mod_leavesBy_p23 L (nI s) (nI w) i1 l = some (nI (mq_worst D s), i', l) ∧ ∀ k, k ≠ 57 → i' k = i k := by
    intro m
    induction m with
    | zero =>
      intro w hw i1 f1 f2
      have hw : w = 256 := hw
      subst hw
      refine ⟨i1, qe_Mod_leavesBy_p23 L _ _ i1 l _ ?_, f1⟩
      rw [if_pos (show (256 : Int32) ≤ nI 256 from nI_le (Nat.le_refl _) (by omega))]
      exact fin i1 f2 9 0 rfl
    | succ m ih =>
      intro w hw i1 f1 f2
      have htw := ht w
      have e56 : i1 56 w = nI (mq_Wm D w) := by rw [f1 56 (by omega)]; exact (hG w (by omega)).2
      have g31 := (hG w (by omega)).1
      have e42 : i1 42 10 = nI (D 7 0) := by rw [f1 42 (by omega)]; exact hM.2.2.2.2.1
      have ez : nI (mq_Wm D w) ≤ (0 : Int32) ↔ mq_Wm D w = 0 := by
        rw [show (0 : Int32) = nI 0 from rfl, nI_leI g31 (by omega)]
        omega
      have e : ∀ v, mq_cv (mq_Wm D) (mq_tells (D 7 0) s) (w + 1) v = mq_cv (mq_Wm D) (mq_tells (D 7 0) s) w v + (if mq_Wm D w = 0 then 0 else if mq_tells (D 7 0) s w = v then 1 else 0) := fun v => rfl
      obtain ⟨i', g1, g2⟩ := ih (w + 1) (by omega) (mj_up i1 57 (mq_tells (D 7 0) s w) (nI (mq_cv (mq_Wm D) (mq_tells (D 7 0) s) (w + 1) (mq_tells (D 7 0) s w)))) (fun k hk => (mq_upn hk).trans (f1 k hk)) (fun v hv => by
        rw [mq_upi_at]
        by_cases ev : v = mq_tells (D 7 0) s w
        · rw [if_pos ev, ev]
        · rw [if_neg ev, e, show (if mq_tells (D 7 0) s w = v then 1 else 0) = 0 from if_neg (fun q => ev q.symm)]
          rw [show (if mq_Wm D w = 0 then 0 else 0) = 0 by split <;> rfl, Nat.add_zero]
          exact f2 v hv)
      refine ⟨i', qe_Mod_leavesBy_p23 L _ _ i1 l _ ?_, g2⟩
      rw [if_neg (show ¬ (256 : Int32) ≤ nI w from nI_ge (a := w) (b := 256) (by omega) (by omega)), qs_Mod_tells L i1 l e42 hk5 (by omega), Option.bind_some]
      simp only [if_neg (nI_in (show mq_tells (D 7 0) s w < 9 by omega) (show 9 < 2 ^ 31 by omega)), if_neg (nI_in (show w < 256 by omega) (show 256 < 2 ^ 31 by omega))]
      simp only [nI_clamp (show w < 2 ^ 31 by omega), nI_clamp (show mq_tells (D 7 0) s w < 2 ^ 31 by omega), e56, f2 _ (show mq_tells (D 7 0) s w < 9 by omega), nI_1]
      rw [e] at g1
      by_cases h0 : mq_Wm D w = 0
      · rw [if_pos (ez.mpr h0), show (0 : Int32) = nI 0 from rfl, nI_add]
        rw [if_pos h0] at g1
        exact g1
      · rw [if_neg (fun q => h0 (ez.mp q))]
        rw [if_neg h0, if_pos rfl] at g1
        exact g1
  have init : ∀ (m v : Nat), v + m = 9 → ∀ i1 : mMI, (∀ k, k ≠ 57 → i1 k = i k) → (∀ u, u < v → i1 57 u = nI 0) → ∃ i', qf_Mod_leavesBy_p2 L (nI s) (nI v) i1 l = some (nI (mq_worst D s), i', l) ∧ ∀ k, k ≠ 57 → i' k = i k := by
    intro m
    induction m with
    | zero =>
      intro v hv i1 f1 f2
      have hv : v = 9 := hv
      subst hv
      obtain ⟨i', g1, g2⟩ := main 256 0 rfl i1 f1 (fun u hu => f2 u hu)
      refine ⟨i', qe_Mod_leavesBy_p2 L _ _ i1 l _ ?_, g2⟩
      rw [if_pos (show (9 : Int32) ≤ nI 9 from nI_le (Nat.le_refl _) (by omega))]
      exact g1
    | succ m ih =>
      intro v hv i1 f1 f2
      obtain ⟨i', g1, g2⟩ := ih (v + 1) (by omega) (mj_up i1 57 v (nI 0)) (fun k hk => (mq_upn hk).trans (f1 k hk)) (fun u hu => by
        rw [mq_upi_at]
        by_cases e : u = v
        · rw [if_pos e]
        · rw [if_neg e]; exact f2 u (by omega))
      refine ⟨i', qe_Mod_leavesBy_p2 L _ _ i1 l _ ?_, g2⟩
      rw [if_neg (show ¬ (9 : Int32) ≤ nI v from nI_ge (a := v) (b := 9) (by omega) (by omega)), if_neg (nI_in (show v < 9 by omega) (by omega)), nI_clamp (by omega), nI_1]
      exact g1
  obtain ⟨i', g1, g2⟩ := init 9 0 rfl i (fun _ _ => rfl) (fun u hu => absurd hu (by omega))
  exact ⟨i', qe_Mod_leavesBy L _ i l _ g1, g2⟩
end
section
variable {i : mMI} {l : mML} {D P M : mq_D} {R : Nat → Int32}
/-- what a try tells is below 5 -/
theorem mq_tells5 (hO : mq_Ok D) {s : Nat} (hp : mq_pop s ≤ 4 ∨ D 7 0 = 5) (hand : ∀ w, mq_pop (s &&& w) ≤ mq_pop s) (w : Nat) : mq_tells (D 7 0) s w < 5 := by
  have h5 := hO.2.2.2.2.2.2.2.1
  have h := hand w
  unfold mq_tells
  rcases hp with hp | hp
  · repeat' split
    all_goals omega
  · rw [hp]
    simp only [show ¬ 5 = 1 by omega, show ¬ 5 = 2 by omega, show ¬ 5 = 3 by omega, show ¬ 5 = 4 by omega, if_false]
    split <;> omega
theorem mq_pop_and (s w : Nat) : mq_pop (s &&& w) ≤ mq_pop s := by
  have key : ∀ k, mq_ps (s &&& w) k ≤ mq_ps s k := by
    intro k
    induction k with
    | zero => exact Nat.le_refl _
    | succ k ih =>
      simp only [mq_ps]
      have hb : (s &&& w) / 2 ^ k % 2 ≤ s / 2 ^ k % 2 := by
        have h1 : (s &&& w).testBit k = (s.testBit k && w.testBit k) := Nat.testBit_and ..
        rw [Nat.testBit_eq_decide_div_mod_eq, Nat.testBit_eq_decide_div_mod_eq, Nat.testBit_eq_decide_div_mod_eq] at h1
        by_cases hs : s / 2 ^ k % 2 = 1
        · omega
        · rw [decide_eq_false hs, Bool.false_and, decide_eq_false_iff_not] at h1
          omega
      omega
  exact key 31
theorem mq_try5 (hO : mq_Ok D) {s : Nat} (ht : mq_try D s) (w : Nat) : mq_tells (D 7 0) s w < 5 := by
  refine mq_tells5 hO ?_ (mq_pop_and s) w
  unfold mq_try at ht
  by_cases h5 : D 7 0 = 5
  · exact Or.inr h5
  · rw [if_neg h5] at ht
    have := hO.2.2.2.2.2.2.2.2.1
    exact Or.inl (by omega)
theorem qp_leaves (L : Nat) (x : Int32) (hC : mq_RC i D P M R) (hM : mq_RM i D P M R) (hO : mq_OkS D P M) : mq_P (fun i l => qf_Two_leaves L x i l) (fun i l => qf_Mod_leaves L x i l) i l := by
  have hp := mq_pow hO.1.1.2
  rcases mq_isTry2 L x hO.1 with ⟨s, hs, hx, ht, g1, g2⟩ | ⟨g1, g2⟩
  · subst hx
    obtain ⟨i1, l1, g, gC, gk, g7, g8, g9, gH, g27, -⟩ := mq_look L i l hC hO
    obtain ⟨i1', e1, k1⟩ := qs_leftAtWorst L (s := s) i1 l1 gC.1 hO.1 (by omega) (mq_try5 hO.1 ht) g9 g27
    refine mq_P_scr (nI (mq_worst D s)) hM hO (qe_Two_leaves L _ i l (nI (mq_worst D s), i1', l1) ?_) (gC.congr (fun k h => k1 k (by omega))) (fun k h => (k1 k (by omega)).trans (gk k h)) (fun i0 h0 => ?_)
    · simp only [g1 i l hC.1, Option.bind_some, mq_10, ↓reduceIte, g, e1]
    · obtain ⟨i2, e, eM, ek, eG, -⟩ := mq_fm L i0 l1 h0 hO
      obtain ⟨i2', e2, k2⟩ := qs_leavesBy L (s := s) i2 l1 eM.1 hO.1 (by omega) (mq_try5 hO.1 ht) eG
      refine ⟨i2', l1, qe_Mod_leaves L _ i0 l1 _ ?_, eM.congr (fun j _ => by rw [k2 42 (by omega)]) (fun k h => k2 k (by omega)), fun k h => (k2 k (by omega)).trans (ek k h)⟩
      simp only [g2 i0 l1 h0.1, Option.bind_some, mq_10, ↓reduceIte, e, e2]
  · refine mq_P_ref (r := -1) hC hM hO 1 (qe_Two_leaves L x i l _ ?_) (fun i0 h => qe_Mod_leaves L x i0 l _ ?_)
    · simp only [g1 i l hC.1, Option.bind_some, ↓reduceIte, qs_refuse L i l mq_r1 (show 1 < 7 by omega)]
    · simp only [g2 i0 l h.1, Option.bind_some, ↓reduceIte, qs_no L i0 l mq_r1 (show 1 < 7 by omega)]
end
