/-! chain, tester, forgets. -/
def mq_hw : Nat → Nat → Nat
  | 0, _ => 0
  | f + 1, n => if n ≤ 1 then 0 else 1 + mq_hw f (n - n / 2)
def mq_ht : Nat → Nat → Nat
  | 0, _ => 0
  | f + 1, n => if n ≤ 1 then 0 else n + mq_ht f (n / 2) + mq_ht f (n - n / 2)
theorem mq_hw_s (f n : Nat) : mq_hw (f + 1) n = if n ≤ 1 then 0 else 1 + mq_hw f (n - n / 2) := rfl
theorem mq_ht_s (f n : Nat) : mq_ht (f + 1) n = if n ≤ 1 then 0 else n + mq_ht f (n / 2) + mq_ht f (n - n / 2) := rfl
theorem mq_hw_st : ∀ f n, n ≤ 2 ^ f → mq_hw (f + 1) n = mq_hw f n := by
  intro f
  induction f with
  | zero =>
    intro n h
    have h : n ≤ 1 := h
    rw [mq_hw_s, if_pos h]
    rfl
  | succ f ih =>
    intro n h
    have h : n ≤ 2 ^ f * 2 := h
    rw [mq_hw_s (f + 1) n, ih (n - n / 2) (by omega), mq_hw_s f n]
theorem mq_ht_st : ∀ f n, n ≤ 2 ^ f → mq_ht (f + 1) n = mq_ht f n := by
  intro f
  induction f with
  | zero =>
    intro n h
    have h : n ≤ 1 := h
    rw [mq_ht_s, if_pos h]
    rfl
  | succ f ih =>
    intro n h
    have h : n ≤ 2 ^ f * 2 := h
    rw [mq_ht_s (f + 1) n, ih (n - n / 2) (by omega), ih (n / 2) (by omega), mq_ht_s f n]
theorem mq_hw_rec {n : Nat} (h1 : ¬ n ≤ 1) (h : n ≤ 1024) : mq_hw 10 n = 1 + mq_hw 10 (n - n / 2) := by
  rw [mq_hw_s 9 n, if_neg h1, mq_hw_st 9 (n - n / 2) (by omega)]
theorem mq_ht_rec {n : Nat} (h1 : ¬ n ≤ 1) (h : n ≤ 1024) : mq_ht 10 n = n + mq_ht 10 (n / 2) + mq_ht 10 (n - n / 2) := by
  rw [mq_ht_s 9 n, if_neg h1, mq_ht_st 9 (n - n / 2) (by omega), mq_ht_st 9 (n / 2) (by omega)]
theorem mq_half {n : Nat} (h : n < 2 ^ 31) : nI n / (2 : Int32) = nI (n / 2) := pk_div (d := 2) h (by omega) (by omega)
theorem qs_halvingsAtWorst (L : Nat) (i : mMI) (l : mML) : ∀ (f n c : Nat), c + f = 10 → n < 2 ^ 31 → qf_Two_halvingsAtWorst_p6 L (nI n) (nI c) (nI c) i l = some (nI (c + mq_hw f n), i, l) := by
  intro f
  induction f with
  | zero =>
    intro n c hc hn
    have hc : c = 10 := hc
    subst hc
    refine qe_Two_halvingsAtWorst_p6 L _ _ _ i l _ ?_
    rw [if_pos (show (10 : Int32) ≤ nI 10 from nI_le (Nat.le_refl _) (by omega))]
    rfl
  | succ f ih =>
    intro n c hc hn
    have e1 : nI n ≤ (1 : Int32) ↔ n ≤ 1 := nI_leI (b := 1) hn (by omega)
    refine qe_Two_halvingsAtWorst_p6 L _ _ _ i l _ ?_
    rw [if_neg (show ¬ (10 : Int32) ≤ nI c from nI_ge (a := c) (b := 10) (by omega) (by omega)), mq_hw_s]
    by_cases h : n ≤ 1
    · rw [if_pos (e1.mpr h), if_pos h]
      rfl
    · rw [if_neg (fun q => h (e1.mp q)), if_neg (by decide), mq_half hn, pk_sub (by omega), nI_1, if_neg h, ih (n - n / 2) (c + 1) (by omega) (by omega), Nat.add_assoc]
theorem qs_halvingsTogether (L : Nat) (i : mMI) (l : mML) : ∀ (d n : Nat), d ≤ 10 → n < 2 ^ 31 → qf_Two_halvingsTogether (2 + d) L (nI n) (nI d) i l = some (nI (mq_ht d n), i, l) := by
  intro d
  induction d with
  | zero =>
    intro n hd hn
    refine qe_Two_halvingsTogether _ L _ _ i l _ ?_
    by_cases h : nI n ≤ (1 : Int32)
    · rw [if_pos h]; rfl
    · rw [if_neg h, if_neg (by decide)]; rfl
  | succ d ih =>
    intro n hd hn
    have e1 : nI n ≤ (1 : Int32) ↔ n ≤ 1 := nI_leI (b := 1) hn (by omega)
    refine qe_Two_halvingsTogether _ L _ _ i l _ ?_
    rw [mq_ht_s]
    by_cases h : n ≤ 1
    · rw [if_pos (e1.mpr h), if_pos h]; rfl
    · rw [if_neg (fun q => h (e1.mp q)), if_pos (show (0 : Int32) < nI (d + 1) from nI_lt (a := 0) (by omega) (by omega)), if_neg (by decide), mq_half hn, pk_sub (by omega), nI_pred, nI_clamp (by omega), if_pos (by omega), if_neg h, ih (n / 2) (by omega) (by omega), Option.bind_some]
      rw [if_pos (by omega)]
      simp only [ih (n - n / 2) (by omega) (by omega), Option.bind_some, nI_add]
section
variable {i : mMI} {l : mML} {D P M : mq_D} {R : Nat → Int32}
theorem mq_RM.tab {i i' : mMI} (h : mq_RM i D P M R) (hk : ∀ k, k ≠ 68 → k ≠ 69 → i' k = i k) (h1 : i' 68 1 = 0) (h2 : i' 69 1 = 0) : mq_RM i' D P M R := by
  obtain ⟨a0, a1, ⟨a2, -, -⟩, a3, a4, a5, a6, a7⟩ := h
  refine ⟨a0.congr (fun j _ _ => by rw [hk 42 (by omega) (by omega)]) (fun k h1 h2 => hk k (by omega) (by omega)), ?_, ⟨?_, h1, h2⟩, ?_, ?_, ?_, ?_, ?_⟩
  · rw [hk 42 (by omega) (by omega)]; exact a1
  · unfold mq_KD
    rw [hk 55 (by omega) (by omega)]
    exact a2
  · rw [hk 42 (by omega) (by omega)]; exact a3
  · rw [hk 49 (by omega) (by omega)]; exact a4
  · rw [hk 42 (by omega) (by omega)]; exact a5
  · rw [hk 72 (by omega) (by omega)]; exact a6
  · rw [hk 43 (by omega) (by omega)]; exact a7
theorem qs_Mod_chain (L : Nat) {n : Nat} (y : Int32) (i : mMI) (l : mML) (hn : 1 ≤ n ∧ n ≤ 999) (h1 : i 68 1 = 0) (h2 : i 69 1 = 0) : ∃ i', qf_Mod_chain_p38 L (nI n) y (2 : Int32) i l = some (if y = 0 then nI (mq_hw 10 n) else nI (mq_ht 10 n), i', l) ∧ (∀ k, k ≠ 68 → k ≠ 69 → i' k = i k) ∧ i' 68 1 = 0 ∧ i' 69 1 = 0 := by
  have loop : ∀ (m k : Nat), k + m = n + 1 → 2 ≤ k → ∀ i1 : mMI, (∀ j, 1 ≤ j → j < k → i1 68 j = nI (mq_hw 10 j) ∧ i1 69 j = nI (mq_ht 10 j)) → (∀ a, a ≠ 68 → a ≠ 69 → i1 a = i a) → ∃ i', qf_Mod_chain_p38 L (nI n) y (nI k) i1 l = some (if y = 0 then nI (mq_hw 10 n) else nI (mq_ht 10 n), i', l) ∧ (∀ k, k ≠ 68 → k ≠ 69 → i' k = i k) ∧ i' 68 1 = 0 ∧ i' 69 1 = 0 := by
    intro m
    induction m with
    | zero =>
      intro k hk hk2 i1 a1 a2
      have hk : k = n + 1 := hk
      refine ⟨i1, qe_Mod_chain_p38 L _ _ _ i1 l _ ?_, a2, (a1 1 (by omega) (by omega)).1, (a1 1 (by omega) (by omega)).2⟩
      rw [if_pos (nI_lt (by omega) (by omega)), if_neg (nI_in (show n < 1000 by omega) (by omega)), if_neg (nI_in (show n < 1000 by omega) (by omega)), nI_clamp (by omega), (a1 n (by omega) (by omega)).1, (a1 n (by omega) (by omega)).2]
      by_cases hy : y = 0
      · rw [if_pos hy, if_pos hy]
      · rw [if_neg hy, if_neg hy]
    | succ m ih =>
      intro k hk hk2 i1 a1 a2
      have b1 := a1 (k - k / 2) (by omega) (by omega)
      have b2 := a1 (k / 2) (by omega) (by omega)
      have r1 := mq_hw_rec (n := k) (by omega) (by omega)
      have r2 := mq_ht_rec (n := k) (by omega) (by omega)
      obtain ⟨i', g1, g2⟩ := ih (k + 1) (by omega) (by omega) (mj_up (mj_up i1 68 k (nI (mq_hw 10 k))) 69 k (nI (mq_ht 10 k))) (fun j hj1 hj2 => by
        rw [mq_upi_at, mq_upn (show 68 ≠ 69 by omega), mq_upn (show 69 ≠ 68 by omega), mq_upi_at]
        by_cases e : j = k
        · subst e
          rw [if_pos rfl, if_pos rfl]
          exact ⟨rfl, rfl⟩
        · rw [if_neg e, if_neg e]
          exact a1 j hj1 (by omega)) (fun a h1 h2 => by rw [mq_upn h2, mq_upn h1]; exact a2 a h1 h2)
      refine ⟨i', qe_Mod_chain_p38 L _ _ _ i1 l _ ?_, g2⟩
      rw [if_neg (nI_nlt (show k ≤ n by omega) (by omega)), if_neg (by decide), mq_half (by omega), pk_sub (by omega)]
      simp only [if_neg (nI_in (show k - k / 2 < 1000 by omega) (show 1000 < 2 ^ 31 by omega)), if_neg (nI_in (show k < 1000 by omega) (show 1000 < 2 ^ 31 by omega)), if_neg (nI_in (show k / 2 < 1000 by omega) (show 1000 < 2 ^ 31 by omega))]
      rw [if_neg (by decide), if_neg (by decide), nI_clamp (show k - k / 2 < 2 ^ 31 by omega), nI_clamp (show k / 2 < 2 ^ 31 by omega), nI_clamp (show k < 2 ^ 31 by omega), b1.1, b1.2, b2.2, nI_1, nI_add, nI_add]
      rw [show (1 : Int32) + nI (mq_hw 10 (k - k / 2)) = nI (1 + mq_hw 10 (k - k / 2)) from nI_add 1 _, ← r1, ← r2]
      exact g1
  exact loop (n - 1) 2 (by omega) (by omega) i (fun j hj1 hj2 => by
    have : j = 1 := by omega
    subst this
    rw [h1, h2]
    exact ⟨rfl, rfl⟩) (fun _ _ _ => rfl)
theorem qp_chain (L : Nat) (x y : Int32) (hC : mq_RC i D P M R) (hM : mq_RM i D P M R) (hO : mq_OkS D P M) : mq_P (fun i l => qf_Two_chain L x y i l) (fun i l => qf_Mod_chain L x y i l) i l := by
  have p25 : ∀ i0, ∀ k (z : Int32), -z = nI k → k < 7 → (¬ z = 0) → qf_Mod_chain_p25 L x y z i0 l = some (z, mq_ref 43 i0 k, l) := by
    intro i0 k z hz hk h0
    refine qe_Mod_chain_p25 L x y z i0 l _ ?_
    rw [if_neg h0, qs_no L i0 l hz hk, Option.bind_some]
  rcases mq_in3 x 1 999 (n := 1) (m := 999) (by decide) (by decide) (by omega) with ⟨h1, h2⟩ | ⟨h1, h2, h3, h4⟩ | ⟨n, hj1, hj2, hx, h3, h4, h5, h6⟩
  · refine mq_P_ref (r := -4) hC hM hO 4 (qe_Two_chain L x y i l _ ?_) (fun i0 h => qe_Mod_chain L x y i0 l _ ?_)
    · rw [if_neg h2, qs_refuse L i l mq_r4 (by omega), Option.bind_some]
    · simp only [qs_bound_lo L i0 l h2, Option.bind_some, mq_n4, ↓reduceIte]
      exact p25 i0 4 (-4) mq_r4 (by omega) (by decide)
  · refine mq_P_ref (r := -6) hC hM hO 6 (qe_Two_chain L x y i l _ ?_) (fun i0 h => qe_Mod_chain L x y i0 l _ ?_)
    · rw [if_pos h3, if_neg h2, qs_refuse L i l mq_r6 (by omega), Option.bind_some]
    · simp only [qs_bound_hi L i0 l h3 h2, Option.bind_some, mq_n6, ↓reduceIte]
      exact p25 i0 6 (-6) mq_r6 (by omega) (by decide)
  · by_cases hy : y = 0 ∨ y = 1
    · subst hx
      refine mq_P_mk (D' := D) (P' := P) (R' := R) (M' := M) (r := if y = 0 then nI (mq_hw 10 n) else nI (mq_ht 10 n)) (i1 := i) (l1 := l) hM (qe_Two_chain L _ y i l _ ?_) hC (fun _ _ => rfl) hO (fun i0 h => ?_)
      · have h42 : qf_Two_chain_p42 L (nI n) y i l = some (if y = 0 then nI (mq_hw 10 n) else nI (mq_ht 10 n), i, l) := by
          refine qe_Two_chain_p42 L _ y i l _ ?_
          by_cases h0 : y = 0
          · have e : qf_Two_halvingsAtWorst L (nI n) i l = some (nI (0 + mq_hw 10 n), i, l) := qe_Two_halvingsAtWorst L _ i l _ (qs_halvingsAtWorst L i l 10 n 0 (by omega) (by omega))
            rw [if_pos h0, if_pos h0, e, Option.bind_some, Nat.zero_add]
          · rw [if_neg h0, if_neg h0, show Int32.toNatClampNeg (10 : Int32) = 10 by decide, if_pos (by omega)]
            have e : qf_Two_halvingsTogether (2 + 10) L (nI n) (10 : Int32) i l = some (nI (mq_ht 10 n), i, l) := qs_halvingsTogether L i l 10 n (by omega) (by omega)
            rw [e, Option.bind_some]
        rw [if_pos h3, if_pos h4]
        by_cases h0 : y = 0
        · rw [if_pos h0]; exact h42
        · rw [if_neg h0, if_pos (hy.resolve_left h0)]; exact h42
      · obtain ⟨i', g1, g2, g3, g4⟩ := qs_Mod_chain L y i0 l ⟨hj1, hj2⟩ h.2.2.1.2.1 h.2.2.1.2.2
        refine ⟨i', l, qe_Mod_chain L _ y i0 l _ ?_, h.tab g2 g3 g4, fun k hk => g2 k (by omega) (by omega)⟩
        simp only [qs_bound_in L i0 l h3 h4, Option.bind_some, ↓reduceIte, (qs_part01 L i0 l).1 hy, mq_10]
        refine qe_Mod_chain_p25 L _ y _ i0 l _ ?_
        rw [if_pos rfl]
        exact g1
    · refine mq_P_ref (r := -2) hC hM hO 2 (qe_Two_chain L x y i l _ ?_) (fun i0 h => qe_Mod_chain L x y i0 l _ ?_)
      · rw [if_pos h3, if_pos h4, if_neg (fun q => hy (Or.inl q)), if_neg (fun q => hy (Or.inr q)), qs_refuse L i l mq_r2 (by omega), Option.bind_some]
      · simp only [qs_bound_in L i0 l h3 h4, Option.bind_some, ↓reduceIte, (qs_part01 L i0 l).2 hy]
        exact p25 i0 2 (-2) mq_r2 (by omega) (by decide)
theorem qp_tester (L : Nat) (x y z : Int32) (hC : mq_RC i D P M R) (hM : mq_RM i D P M R) (hO : mq_OkS D P M) : mq_P (fun i l => qf_Two_tester L x y z i l) (fun i l => qf_Mod_tester L x y z i l) i l := by
  have p16 : ∀ i0, qf_Mod_tester_p16 L x y z i0 l = some (-4, mq_ref 43 i0 4, l) := fun i0 => qe_Mod_tester_p16 L x y z i0 l _ (by rw [if_neg (by decide), qs_no L i0 l mq_r4 (by omega), Option.bind_some])
  have p39 : ∀ i0, qf_Mod_tester_p39 L x y z i0 l = some (-6, mq_ref 43 i0 6, l) := fun i0 => qe_Mod_tester_p39 L x y z i0 l _ (by rw [if_neg (by decide), qs_no L i0 l mq_r6 (by omega), Option.bind_some])
  have loop : ∀ (m k : Nat), k + m = 10 → ∀ y3 y5 : Int64, ∃ r, (∀ i l, qf_Two_timesToSayGood_p13 L x z y3 y5 (nI k) i l = some (r, i, l)) ∧ (∀ i l, qf_Mod_tester_p73 L x z y3 y5 (nI k) i l = some (r, i, l)) := by
    intro m
    induction m with
    | zero =>
      intro k hk y3 y5
      have hk : k = 10 := hk
      subst hk
      refine ⟨-9, fun i l => qe_Two_timesToSayGood_p13 L _ _ _ _ _ i l _ ?_, fun i l => qe_Mod_tester_p73 L _ _ _ _ _ i l _ ?_⟩
      · rw [if_pos (show (9 : Int32) < nI 10 from nI_lt (a := 9) (by omega) (by omega))]
      · rw [if_pos (show (10 : Int32) ≤ nI 10 from nI_le (Nat.le_refl _) (by omega))]
    | succ m ih =>
      intro k hk y3 y5
      have e1 : ¬ (9 : Int32) < nI k := nI_nlt (b := k) (a := 9) (by omega) (by omega)
      have e2 : ¬ (10 : Int32) ≤ nI k := nI_ge (a := k) (b := 10) (by omega) (by omega)
      by_cases hc : (lg_cmp ((10 : Int64) * y3) ((Int32.toInt64 z) * (y3 + y5))) < (0 : Int32)
      · obtain ⟨r, f1, f2⟩ := ih (k + 1) (by omega) (y3 * (Int32.toInt64 x)) (y5 * (Int32.toInt64 ((10 : Int32) - x)))
        refine ⟨r, fun i l => qe_Two_timesToSayGood_p13 L _ _ _ _ _ i l _ ?_, fun i l => qe_Mod_tester_p73 L _ _ _ _ _ i l _ ?_⟩
        · rw [if_neg e1, if_pos hc, nI_1]; exact f1 i l
        · rw [if_neg e2, if_pos hc, nI_1]; exact f2 i l
      · refine ⟨nI k, fun i l => qe_Two_timesToSayGood_p13 L _ _ _ _ _ i l _ ?_, fun i l => qe_Mod_tester_p73 L _ _ _ _ _ i l _ ?_⟩
        · rw [if_neg e1, if_neg hc]
        · rw [if_neg e2, if_neg hc]
  have ref4 : (∀ i l, qf_Two_tester L x y z i l = some (-4, mq_ref 23 i 4, l)) → (∀ i0, qf_Mod_tester L x y z i0 l = some (-4, mq_ref 43 i0 4, l)) → mq_P (fun i l => qf_Two_tester L x y z i l) (fun i l => qf_Mod_tester L x y z i l) i l := fun a b => mq_P_ref (r := -4) hC hM hO 4 (a i l) (fun i0 _ => b i0)
  have ref6 : (∀ i l, qf_Two_tester L x y z i l = some (-6, mq_ref 23 i 6, l)) → (∀ i0, qf_Mod_tester L x y z i0 l = some (-6, mq_ref 43 i0 6, l)) → mq_P (fun i l => qf_Two_tester L x y z i l) (fun i l => qf_Mod_tester L x y z i l) i l := fun a b => mq_P_ref (r := -6) hC hM hO 6 (a i l) (fun i0 _ => b i0)
  by_cases h1 : x < (6 : Int32)
  · refine ref4 (fun i l => qe_Two_tester L x y z i l _ ?_) (fun i0 => qe_Mod_tester L x y z i0 l _ ?_)
    · rw [if_pos h1, qs_refuse L i l mq_r4 (by omega), Option.bind_some]
    · rw [if_pos h1]; exact p16 i0
  by_cases h2 : y < (1 : Int32)
  · refine ref4 (fun i l => qe_Two_tester L x y z i l _ ?_) (fun i0 => qe_Mod_tester L x y z i0 l _ ?_)
    · rw [if_neg h1, if_pos h2, qs_refuse L i l mq_r4 (by omega), Option.bind_some]
    · rw [if_neg h1, if_pos h2]; exact p16 i0
  by_cases h3 : (1 : Int32) ≤ z
  · by_cases h4 : (9 : Int32) < x
    · refine ref6 (fun i l => qe_Two_tester L x y z i l _ ?_) (fun i0 => qe_Mod_tester L x y z i0 l _ ?_)
      · rw [if_neg h1, if_neg h2, if_pos h3, if_pos h4, qs_refuse L i l mq_r6 (by omega), Option.bind_some]
      · rw [if_neg h1, if_neg h2, if_pos h3, if_pos h4]; exact p39 i0
    by_cases h5 : (9 : Int32) < y
    · refine ref6 (fun i l => qe_Two_tester L x y z i l _ ?_) (fun i0 => qe_Mod_tester L x y z i0 l _ ?_)
      · rw [if_neg h1, if_neg h2, if_pos h3, if_neg h4, if_pos h5, qs_refuse L i l mq_r6 (by omega), Option.bind_some]
      · rw [if_neg h1, if_neg h2, if_pos h3, if_neg h4, if_pos h5]; exact p39 i0
    by_cases h6 : z ≤ (9 : Int32)
    · obtain ⟨r, f1, f2⟩ := loop 10 0 (by omega) (Int32.toInt64 y) (Int32.toInt64 ((10 : Int32) - y))
      refine mq_P_same (r := r) hC hM hO (qe_Two_tester L x y z i l _ ?_) (fun i0 h => qe_Mod_tester L x y z i0 l _ ?_)
      · have e : qf_Two_timesToSayGood L x y z i l = some (r, i, l) := qe_Two_timesToSayGood L x y z i l _ (f1 i l)
        rw [if_neg h1, if_neg h2, if_pos h3, if_neg h4, if_neg h5, if_pos h6, e, Option.bind_some]
      · rw [if_neg h1, if_neg h2, if_pos h3, if_neg h4, if_neg h5, if_pos h6, if_pos rfl]
        exact f2 i0 l
    · refine ref6 (fun i l => qe_Two_tester L x y z i l _ ?_) (fun i0 => qe_Mod_tester L x y z i0 l _ ?_)
      · rw [if_neg h1, if_neg h2, if_pos h3, if_neg h4, if_neg h5, if_neg h6, qs_refuse L i l mq_r6 (by omega), Option.bind_some]
      · rw [if_neg h1, if_neg h2, if_pos h3, if_neg h4, if_neg h5, if_neg h6]; exact p39 i0
  · refine ref4 (fun i l => qe_Two_tester L x y z i l _ ?_) (fun i0 => qe_Mod_tester L x y z i0 l _ ?_)
    · rw [if_neg h1, if_neg h2, if_neg h3, qs_refuse L i l mq_r4 (by omega), Option.bind_some]
    · rw [if_neg h1, if_neg h2, if_neg h3]; exact p16 i0
theorem qp_forgets (L : Nat) (x y z : Int32) (hC : mq_RC i D P M R) (hM : mq_RM i D P M R) (hO : mq_OkS D P M) : mq_P (fun i l => qf_Two_forgets L x y z i l) (fun i l => qf_Mod_forgets L x y z i l) i l := by
  have p36 : ∀ i0, ∀ k (v : Int32), -v = nI k → k < 7 → (¬ v = 0) → qf_Mod_forgets_p36 L x y z v i0 l = some ((4000000000000000000 : Int64) - v.toInt64, mq_ref 43 i0 k, l) := by
    intro i0 k v hv hk h0
    refine qe_Mod_forgets_p36 L x y z v i0 l _ ?_
    rw [if_neg h0, qs_lowest L i0 l hv hk, Option.bind_some]
  rcases mq_in3 x 1 99 (n := 1) (m := 99) (by decide) (by decide) (by omega) with ⟨h1, h2⟩ | ⟨h1, h2, h3, h4⟩ | ⟨n, hj1, hj2, hx, h3, h4, h5, h6⟩
  · refine mq_P_ref (r := (4000000000000000000 : Int64) - (-4 : Int32).toInt64) hC hM hO 4 (qe_Two_forgets L x y z i l _ ?_) (fun i0 h => qe_Mod_forgets L x y z i0 l _ ?_)
    · rw [if_neg h2, qs_refuseLong L i l mq_r4 (by omega), Option.bind_some]
    · simp only [qs_bound_lo L i0 l h2, Option.bind_some, mq_n4, ↓reduceIte]
      exact p36 i0 4 (-4) mq_r4 (by omega) (by decide)
  · refine mq_P_ref (r := (4000000000000000000 : Int64) - (-6 : Int32).toInt64) hC hM hO 6 (qe_Two_forgets L x y z i l _ ?_) (fun i0 h => qe_Mod_forgets L x y z i0 l _ ?_)
    · rw [if_pos h3, if_neg h2, qs_refuseLong L i l mq_r6 (by omega), Option.bind_some]
    · simp only [qs_bound_hi L i0 l h3 h2, Option.bind_some, mq_n6, ↓reduceIte]
      exact p36 i0 6 (-6) mq_r6 (by omega) (by decide)
  · by_cases hy : y = 0 ∨ y = 1
    · have p34 : ∀ r, qf_Two_forgets_p34 L x y z i l = some r → qf_Two_forgets L x y z i l = some r := by
        intro r hr
        refine qe_Two_forgets L x y z i l _ ?_
        rw [if_pos h3, if_pos h4]
        by_cases h0 : y = 0
        · rw [if_pos h0]; exact hr
        · rw [if_neg h0, if_pos (hy.resolve_left h0)]; exact hr
      by_cases hz : z = 0 ∨ z = 1
      · subst hx
        have c1 : ∀ i l, qf_Two_partOf L (lN n) (1 : Int64) z i l = some (mq_part n 1 z, i, l) := fun i l => qs_Two_partOf L (a := n) (b := 1) z i l (by omega) (by omega)
        have c2 : ∀ i l, qf_Two_partOf L (lN (n + 1)) (2 : Int64) z i l = some (mq_part (n + 1) 2 z, i, l) := fun i l => qs_Two_partOf L (a := n + 1) (b := 2) z i l (by omega) (by omega)
        have d1 : ∀ i l, qf_Mod_partOf L (lN n) (1 : Int64) z i l = some (mq_part n 1 z, i, l) := fun i l => qs_Mod_partOf L (a := n) (b := 1) z i l (by omega) (by omega)
        have d2 : ∀ i l, qf_Mod_partOf L (lN (n + 1)) (2 : Int64) z i l = some (mq_part (n + 1) 2 z, i, l) := fun i l => qs_Mod_partOf L (a := n + 1) (b := 2) z i l (by omega) (by omega)
        refine mq_P_same (r := if y = 0 then mq_part n 1 z else mq_part (n + 1) 2 z) hC hM hO (p34 _ (qe_Two_forgets_p34 L _ y z i l _ ?_)) (fun i0 h => qe_Mod_forgets L _ y z i0 l _ ?_)
        · simp only [qs_noPart_0 L i l hz, Option.bind_some, ↓reduceIte, nI_1, nI_l (show n < 2 ^ 31 by omega), nI_l (show n + 1 < 2 ^ 31 by omega), c1, c2]
          by_cases h0 : y = 0
          · rw [if_pos h0, if_pos h0]
          · rw [if_neg h0, if_neg h0]
        · simp only [qs_bound_in L i0 l h3 h4, Option.bind_some, ↓reduceIte, (qs_part01 L i0 l).1 hy, (qs_part01 L i0 l).1 hz, mq_10]
          refine qe_Mod_forgets_p36 L _ y z _ i0 l _ ?_
          simp only [↓reduceIte, nI_1, nI_l (show n < 2 ^ 31 by omega), nI_l (show n + 1 < 2 ^ 31 by omega), d1, d2, Option.bind_some]
          by_cases h0 : y = 0
          · rw [if_pos h0, if_pos h0]
          · rw [if_neg h0, if_neg h0]
      · refine mq_P_ref (r := (4000000000000000000 : Int64) - (-2 : Int32).toInt64) hC hM hO 2 (p34 _ (qe_Two_forgets_p34 L x y z i l _ ?_)) (fun i0 h => qe_Mod_forgets L x y z i0 l _ ?_)
        · simp only [qs_noPart_1 L i l hz, Option.bind_some, mq_10, ↓reduceIte, qs_refuseLong L i l mq_r2 (show 2 < 7 by omega)]
        · simp only [qs_bound_in L i0 l h3 h4, Option.bind_some, ↓reduceIte, (qs_part01 L i0 l).1 hy, (qs_part01 L i0 l).2 hz, mq_10]
          exact p36 i0 2 (-2) mq_r2 (by omega) (by decide)
    · refine mq_P_ref (r := (4000000000000000000 : Int64) - (-2 : Int32).toInt64) hC hM hO 2 (qe_Two_forgets L x y z i l _ ?_) (fun i0 h => qe_Mod_forgets L x y z i0 l _ ?_)
      · rw [if_pos h3, if_pos h4, if_neg (fun q => hy (Or.inl q)), if_neg (fun q => hy (Or.inr q)), qs_refuseLong L i l mq_r2 (by omega), Option.bind_some]
      · simp only [qs_bound_in L i0 l h3 h4, Option.bind_some, ↓reduceIte, (qs_part01 L i0 l).2 hy]
        exact p36 i0 2 (-2) mq_r2 (by omega) (by decide)
end
