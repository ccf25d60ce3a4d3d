/-! Printed by wip/whole/genloop.py: the law's loop out of the pairs. -/
theorem mq_loop {L : Nat} (hL : L ≤ 2560) : ∀ (m k : Nat), L ≤ k + 5 * m → k ≤ L + 5 → ∀ (i : mMI) (l : mML) (D P M : mq_D) (R : Nat → Int32), mq_RC i D P M R → mq_RM i D P M R → mq_OkS D P M → ∃ i' l', mj_id (mj_E 33 226 18 [some (.ref 0), some (.ref 1), some (.ref 42), some (.int (nI k))] [] L i l) = some (some (.int 1), mj_mk L i' l') := by
  have ex : ∀ k, k ≤ L + 5 → ((Int32.ofNat L - (5 : Int32) < nI k) ↔ L < k + 5) := by
    intro k hk
    have h1 : (Int32.ofNat L - (5 : Int32)).toInt = (L : Int) - 5 := pk_sub_toInt (a := L) (b := 5) (by omega) (by omega)
    rw [Int32.lt_iff_toInt_lt, h1, nI_toInt (by omega)]
    omega
  have stop : ∀ k, k ≤ L + 5 → L < k + 5 → ∀ (i : mMI) (l : mML), ∃ i' l', mj_id (mj_E 33 226 18 [some (.ref 0), some (.ref 1), some (.ref 42), some (.int (nI k))] [] L i l) = some (some (.int 1), mj_mk L i' l') := by
    intro k hk h i l
    refine ⟨i, l, qe_law L (nI k) i l _ ?_⟩
    rw [if_pos ((ex k hk).mpr h)]
  intro m
  induction m with
  | zero => exact fun k h1 h2 i l D P M R _ _ _ => stop k h2 (by omega) i l
  | succ m ih =>
    intro k h1 h2 i l D P M R hC hM hO
    by_cases hx : L < k + 5
    · exact stop k h2 hx i l
    have next := ih (k + 5) (by omega) (by omega)
    have e1 : nI k + (1 : Int32) = nI (k + 1) := nI_add k 1
    have e2 : nI k + (2 : Int32) = nI (k + 2) := nI_add k 2
    have e3 : nI k + (3 : Int32) = nI (k + 3) := nI_add k 3
    have e4 : nI k + (4 : Int32) = nI (k + 4) := nI_add k 4
    have e5 : nI k + (5 : Int32) = nI (k + 5) := nI_add k 5
    have c0 : Int32.toNatClampNeg (nI k) = k := nI_clamp (by omega)
    have c1 : Int32.toNatClampNeg (nI (k + 1)) = k + 1 := nI_clamp (by omega)
    have c2 : Int32.toNatClampNeg (nI (k + 2)) = k + 2 := nI_clamp (by omega)
    have c3 : Int32.toNatClampNeg (nI (k + 3)) = k + 3 := nI_clamp (by omega)
    have c4 : Int32.toNatClampNeg (nI (k + 4)) = k + 4 := nI_clamp (by omega)
    have g1 : ¬ (nI (k + 1) < 0 ∨ L ≤ k + 1) := mq_in (show k + 1 < L by omega) (by omega)
    have g2 : ¬ (nI (k + 2) < 0 ∨ L ≤ k + 2) := mq_in (show k + 2 < L by omega) (by omega)
    have g3 : ¬ (nI (k + 3) < 0 ∨ L ≤ k + 3) := mq_in (show k + 3 < L by omega) (by omega)
    have g4 : ¬ (nI (k + 4) < 0 ∨ L ≤ k + 4) := mq_in (show k + 4 < L by omega) (by omega)
    have g0 : ¬ (nI k < 0 ∨ L ≤ k) := mq_in (show k < L by omega) (by omega)
    refine Exists.imp (fun i' => Exists.imp (fun l' => qe_law L (nI k) i l (some (.int 1), mj_mk L i' l'))) ?_
    rw [if_neg (fun q => hx ((ex k h2).mp q)), c0, if_neg g0, e1, e2, e3, e4, e5]
    generalize hX : (i 0 k &&& (63 : Int32)) = X
    by_cases h0 : X = (0 : Int32)
    · rw [if_pos h0]
      obtain ⟨r, i1, l1, i2, l2, D', P', M', R', hf, hg, hC', hM', hO'⟩ := qp_feed L (i 0 (k + 1)) hC hM hO
      have hf : qf_Two_feed L (i 0 (k + 1)) i l = some (r, i1, l1) := hf
      have hg : qf_Mod_feed L (i 0 (k + 1)) i1 l1 = some (r, i2, l2) := hg
      have z : i1 0 = i 0 := mj_c0I (by rfl) hf
      obtain ⟨i', l', fin⟩ := next i2 l2 D' P' M' R' hC' hM' hO'
      refine ⟨i', l', ?_⟩
      simp only [c1, if_neg g1, hf, Option.bind_some, z, hg]
      rw [if_pos trivial]
      exact fin
    rw [if_neg h0]
    by_cases h1 : X = (1 : Int32)
    · rw [if_pos h1]
      obtain ⟨r, i1, l1, i2, l2, D', P', M', R', hf, hg, hC', hM', hO'⟩ := qp_drawer L  hC hM hO
      have hf : qf_Two_drawer L  i l = some (r, i1, l1) := hf
      have hg : qf_Mod_drawer L  i1 l1 = some (r, i2, l2) := hg
      have z : i1 0 = i 0 := mj_c0I (by rfl) hf
      obtain ⟨i', l', fin⟩ := next i2 l2 D' P' M' R' hC' hM' hO'
      refine ⟨i', l', ?_⟩
      simp only [hf, Option.bind_some, z, hg]
      rw [if_pos trivial]
      exact fin
    rw [if_neg h1]
    by_cases h2 : X = (2 : Int32)
    · rw [if_pos h2]
      obtain ⟨r, i1, l1, i2, l2, D', P', M', R', hf, hg, hC', hM', hO'⟩ := qp_battery L (i 0 (k + 1)) (i 0 (k + 2)) hC hM hO
      have hf : qf_Two_battery L (i 0 (k + 1)) (i 0 (k + 2)) i l = some (r, i1, l1) := hf
      have hg : qf_Mod_battery L (i 0 (k + 1)) (i 0 (k + 2)) i1 l1 = some (r, i2, l2) := hg
      have z : i1 0 = i 0 := mj_c0I (by rfl) hf
      obtain ⟨i', l', fin⟩ := next i2 l2 D' P' M' R' hC' hM' hO'
      refine ⟨i', l', ?_⟩
      simp only [c1, if_neg g1, c2, if_neg g2, hf, Option.bind_some, z, hg]
      rw [if_pos trivial]
      exact fin
    rw [if_neg h2]
    by_cases h3 : X = (3 : Int32)
    · rw [if_pos h3]
      obtain ⟨r, i1, l1, i2, l2, D', P', M', R', hf, hg, hC', hM', hO'⟩ := qp_kind L (i 0 (k + 1)) (i 0 (k + 2)) (i 0 (k + 3)) hC hM hO
      have hf : qf_Two_kind L (i 0 (k + 1)) (i 0 (k + 2)) (i 0 (k + 3)) i l = some (r, i1, l1) := hf
      have hg : qf_Mod_kind L (i 0 (k + 1)) (i 0 (k + 2)) (i 0 (k + 3)) i1 l1 = some (r, i2, l2) := hg
      have z : i1 0 = i 0 := mj_c0I (by rfl) hf
      obtain ⟨i', l', fin⟩ := next i2 l2 D' P' M' R' hC' hM' hO'
      refine ⟨i', l', ?_⟩
      simp only [c1, if_neg g1, c2, if_neg g2, c3, if_neg g3, hf, Option.bind_some, z, hg]
      rw [if_pos trivial]
      exact fin
    rw [if_neg h3]
    by_cases h4 : X = (4 : Int32)
    · rw [if_pos h4]
      obtain ⟨r, i1, l1, i2, l2, D', P', M', R', hf, hg, hC', hM', hO'⟩ := qp_truly L (i 0 (k + 1)) hC hM hO
      have hf : qf_Two_truly L (i 0 (k + 1)) i l = some (r, i1, l1) := hf
      have hg : qf_Mod_truly L (i 0 (k + 1)) i1 l1 = some (r, i2, l2) := hg
      have z : i1 0 = i 0 := mj_c0I (by rfl) hf
      obtain ⟨i', l', fin⟩ := next i2 l2 D' P' M' R' hC' hM' hO'
      refine ⟨i', l', ?_⟩
      simp only [c1, if_neg g1, hf, Option.bind_some, z, hg]
      rw [if_pos trivial]
      exact fin
    rw [if_neg h4]
    by_cases h5 : X = (5 : Int32)
    · rw [if_pos h5]
      obtain ⟨r, i1, l1, i2, l2, D', P', M', R', hf, hg, hC', hM', hO'⟩ := qp_good L (i 0 (k + 1)) (i 0 (k + 2)) hC hM hO
      have hf : qf_Two_good L (i 0 (k + 1)) (i 0 (k + 2)) i l = some (r, i1, l1) := hf
      have hg : qf_Mod_good L (i 0 (k + 1)) (i 0 (k + 2)) i1 l1 = some (r, i2, l2) := hg
      have z : i1 0 = i 0 := mj_c0I (by rfl) hf
      obtain ⟨i', l', fin⟩ := next i2 l2 D' P' M' R' hC' hM' hO'
      refine ⟨i', l', ?_⟩
      simp only [c1, if_neg g1, c2, if_neg g2, hf, Option.bind_some, z, hg]
      rw [if_pos trivial]
      exact fin
    rw [if_neg h5]
    by_cases h6 : X = (6 : Int32)
    · rw [if_pos h6]
      obtain ⟨r, i1, l1, i2, l2, D', P', M', R', hf, hg, hC', hM', hO'⟩ := qp_lamp L (i 0 (k + 1)) (i 0 (k + 2)) hC hM hO
      have hf : qf_Two_lamp L (i 0 (k + 1)) (i 0 (k + 2)) i l = some (r, i1, l1) := hf
      have hg : qf_Mod_lamp L (i 0 (k + 1)) (i 0 (k + 2)) i1 l1 = some (r, i2, l2) := hg
      have z : i1 0 = i 0 := mj_c0I (by rfl) hf
      obtain ⟨i', l', fin⟩ := next i2 l2 D' P' M' R' hC' hM' hO'
      refine ⟨i', l', ?_⟩
      simp only [c1, if_neg g1, c2, if_neg g2, hf, Option.bind_some, z, hg]
      rw [if_pos trivial]
      exact fin
    rw [if_neg h6]
    by_cases h7 : X = (7 : Int32)
    · rw [if_pos h7]
      obtain ⟨r, i1, l1, i2, l2, D', P', M', R', hf, hg, hC', hM', hO'⟩ := qp_would L (i 0 (k + 1)) hC hM hO
      have hf : qf_Two_would L (i 0 (k + 1)) i l = some (r, i1, l1) := hf
      have hg : qf_Mod_would L (i 0 (k + 1)) i1 l1 = some (r, i2, l2) := hg
      have z : i1 0 = i 0 := mj_c0I (by rfl) hf
      obtain ⟨i', l', fin⟩ := next i2 l2 D' P' M' R' hC' hM' hO'
      refine ⟨i', l', ?_⟩
      simp only [c1, if_neg g1, hf, Option.bind_some, z, hg]
      rw [if_pos trivial]
      exact fin
    rw [if_neg h7]
    by_cases h8 : X = (8 : Int32)
    · rw [if_pos h8]
      obtain ⟨r, i1, l1, i2, l2, D', P', M', R', hf, hg, hC', hM', hO'⟩ := qp_tries L (i 0 (k + 1)) hC hM hO
      have hf : qf_Two_tries L (i 0 (k + 1)) i l = some (r, i1, l1) := hf
      have hg : qf_Mod_tries L (i 0 (k + 1)) i1 l1 = some (r, i2, l2) := hg
      have z : i1 0 = i 0 := mj_c0I (by rfl) hf
      obtain ⟨i', l', fin⟩ := next i2 l2 D' P' M' R' hC' hM' hO'
      refine ⟨i', l', ?_⟩
      simp only [c1, if_neg g1, hf, Option.bind_some, z, hg]
      rw [if_pos trivial]
      exact fin
    rw [if_neg h8]
    by_cases h9 : X = (9 : Int32)
    · rw [if_pos h9]
      obtain ⟨r, i1, l1, i2, l2, D', P', M', R', hf, hg, hC', hM', hO'⟩ := qp_book L (i 0 (k + 1)) hC hM hO
      have hf : qf_Two_book L (i 0 (k + 1)) i l = some (r, i1, l1) := hf
      have hg : qf_Mod_book L (i 0 (k + 1)) i1 l1 = some (r, i2, l2) := hg
      have z : i1 0 = i 0 := mj_c0I (by rfl) hf
      obtain ⟨i', l', fin⟩ := next i2 l2 D' P' M' R' hC' hM' hO'
      refine ⟨i', l', ?_⟩
      simp only [c1, if_neg g1, hf, Option.bind_some, z, hg]
      rw [if_pos trivial]
      exact fin
    rw [if_neg h9]
    by_cases h10 : X = (10 : Int32)
    · rw [if_pos h10]
      obtain ⟨r, i1, l1, i2, l2, D', P', M', R', hf, hg, hC', hM', hO'⟩ := qp_strike L  hC hM hO
      have hf : qf_Two_strike L  i l = some (r, i1, l1) := hf
      have hg : qf_Mod_strike L  i1 l1 = some (r, i2, l2) := hg
      have z : i1 0 = i 0 := mj_c0I (by rfl) hf
      obtain ⟨i', l', fin⟩ := next i2 l2 D' P' M' R' hC' hM' hO'
      refine ⟨i', l', ?_⟩
      simp only [hf, Option.bind_some, z, hg]
      rw [if_pos trivial]
      exact fin
    rw [if_neg h10]
    by_cases h11 : X = (11 : Int32)
    · rw [if_pos h11]
      obtain ⟨r, i1, l1, i2, l2, D', P', M', R', hf, hg, hC', hM', hO'⟩ := qp_may L (i 0 (k + 1)) hC hM hO
      have hf : qf_Two_may L (i 0 (k + 1)) i l = some (r, i1, l1) := hf
      have hg : qf_Mod_may L (i 0 (k + 1)) i1 l1 = some (r, i2, l2) := hg
      have z : i1 0 = i 0 := mj_c0I (by rfl) hf
      obtain ⟨i', l', fin⟩ := next i2 l2 D' P' M' R' hC' hM' hO'
      refine ⟨i', l', ?_⟩
      simp only [c1, if_neg g1, hf, Option.bind_some, z, hg]
      rw [if_pos trivial]
      exact fin
    rw [if_neg h11]
    by_cases h12 : X = (12 : Int32)
    · rw [if_pos h12]
      obtain ⟨r, i1, l1, i2, l2, D', P', M', R', hf, hg, hC', hM', hO'⟩ := qp_likely L (i 0 (k + 1)) (i 0 (k + 2)) hC hM hO
      have hf : qf_Two_likely L (i 0 (k + 1)) (i 0 (k + 2)) i l = some (r, i1, l1) := hf
      have hg : qf_Mod_likely L (i 0 (k + 1)) (i 0 (k + 2)) i1 l1 = some (r, i2, l2) := hg
      have z : i1 0 = i 0 := mj_c0J (by rfl) hf
      obtain ⟨i', l', fin⟩ := next i2 l2 D' P' M' R' hC' hM' hO'
      refine ⟨i', l', ?_⟩
      simp only [c1, if_neg g1, c2, if_neg g2, hf, Option.bind_some, z, hg]
      rw [if_pos ((lg_cmp_eq _ _).mpr rfl)]
      exact fin
    rw [if_neg h12]
    by_cases h13 : X = (13 : Int32)
    · rw [if_pos h13]
      obtain ⟨r, i1, l1, i2, l2, D', P', M', R', hf, hg, hC', hM', hO'⟩ := qp_lit L (i 0 (k + 1)) (i 0 (k + 2)) hC hM hO
      have hf : qf_Two_lit L (i 0 (k + 1)) (i 0 (k + 2)) i l = some (r, i1, l1) := hf
      have hg : qf_Mod_lit L (i 0 (k + 1)) (i 0 (k + 2)) i1 l1 = some (r, i2, l2) := hg
      have z : i1 0 = i 0 := mj_c0J (by rfl) hf
      obtain ⟨i', l', fin⟩ := next i2 l2 D' P' M' R' hC' hM' hO'
      refine ⟨i', l', ?_⟩
      simp only [c1, if_neg g1, c2, if_neg g2, hf, Option.bind_some, z, hg]
      rw [if_pos ((lg_cmp_eq _ _).mpr rfl)]
      exact fin
    rw [if_neg h13]
    by_cases h14 : X = (14 : Int32)
    · rw [if_pos h14]
      obtain ⟨r, i1, l1, i2, l2, D', P', M', R', hf, hg, hC', hM', hO'⟩ := qp_leaves L (i 0 (k + 1)) hC hM hO
      have hf : qf_Two_leaves L (i 0 (k + 1)) i l = some (r, i1, l1) := hf
      have hg : qf_Mod_leaves L (i 0 (k + 1)) i1 l1 = some (r, i2, l2) := hg
      have z : i1 0 = i 0 := mj_c0I (by rfl) hf
      obtain ⟨i', l', fin⟩ := next i2 l2 D' P' M' R' hC' hM' hO'
      refine ⟨i', l', ?_⟩
      simp only [c1, if_neg g1, hf, Option.bind_some, z, hg]
      rw [if_pos trivial]
      exact fin
    rw [if_neg h14]
    by_cases h15 : X = (15 : Int32)
    · rw [if_pos h15]
      obtain ⟨r, i1, l1, i2, l2, D', P', M', R', hf, hg, hC', hM', hO'⟩ := qp_best L (i 0 (k + 1)) hC hM hO
      have hf : qf_Two_best L (i 0 (k + 1)) i l = some (r, i1, l1) := hf
      have hg : qf_Mod_best L (i 0 (k + 1)) i1 l1 = some (r, i2, l2) := hg
      have z : i1 0 = i 0 := mj_c0I (by rfl) hf
      obtain ⟨i', l', fin⟩ := next i2 l2 D' P' M' R' hC' hM' hO'
      refine ⟨i', l', ?_⟩
      simp only [c1, if_neg g1, hf, Option.bind_some, z, hg]
      rw [if_pos trivial]
      exact fin
    rw [if_neg h15]
    by_cases h16 : X = (16 : Int32)
    · rw [if_pos h16]
      obtain ⟨r, i1, l1, i2, l2, D', P', M', R', hf, hg, hC', hM', hO'⟩ := qp_worst L (i 0 (k + 1)) hC hM hO
      have hf : qf_Two_worst L (i 0 (k + 1)) i l = some (r, i1, l1) := hf
      have hg : qf_Mod_worst L (i 0 (k + 1)) i1 l1 = some (r, i2, l2) := hg
      have z : i1 0 = i 0 := mj_c0I (by rfl) hf
      obtain ⟨i', l', fin⟩ := next i2 l2 D' P' M' R' hC' hM' hO'
      refine ⟨i', l', ?_⟩
      simp only [c1, if_neg g1, hf, Option.bind_some, z, hg]
      rw [if_pos trivial]
      exact fin
    rw [if_neg h16]
    by_cases h17 : X = (17 : Int32)
    · rw [if_pos h17]
      obtain ⟨r, i1, l1, i2, l2, D', P', M', R', hf, hg, hC', hM', hO'⟩ := qp_heaps L (i 0 (k + 1)) (i 0 (k + 2)) hC hM hO
      have hf : qf_Two_heaps L (i 0 (k + 1)) (i 0 (k + 2)) i l = some (r, i1, l1) := hf
      have hg : qf_Mod_heaps L (i 0 (k + 1)) (i 0 (k + 2)) i1 l1 = some (r, i2, l2) := hg
      have z : i1 0 = i 0 := mj_c0I (by rfl) hf
      obtain ⟨i', l', fin⟩ := next i2 l2 D' P' M' R' hC' hM' hO'
      refine ⟨i', l', ?_⟩
      simp only [c1, if_neg g1, c2, if_neg g2, hf, Option.bind_some, z, hg]
      rw [if_pos trivial]
      exact fin
    rw [if_neg h17]
    by_cases h18 : X = (18 : Int32)
    · rw [if_pos h18]
      obtain ⟨r, i1, l1, i2, l2, D', P', M', R', hf, hg, hC', hM', hO'⟩ := qp_order L (i 0 (k + 1)) hC hM hO
      have hf : qf_Two_order L (i 0 (k + 1)) i l = some (r, i1, l1) := hf
      have hg : qf_Mod_order L (i 0 (k + 1)) i1 l1 = some (r, i2, l2) := hg
      have z : i1 0 = i 0 := mj_c0I (by rfl) hf
      obtain ⟨i', l', fin⟩ := next i2 l2 D' P' M' R' hC' hM' hO'
      refine ⟨i', l', ?_⟩
      simp only [c1, if_neg g1, hf, Option.bind_some, z, hg]
      rw [if_pos trivial]
      exact fin
    rw [if_neg h18]
    by_cases h19 : X = (19 : Int32)
    · rw [if_pos h19]
      obtain ⟨r, i1, l1, i2, l2, D', P', M', R', hf, hg, hC', hM', hO'⟩ := qp_mean L (i 0 (k + 1)) hC hM hO
      have hf : qf_Two_mean L (i 0 (k + 1)) i l = some (r, i1, l1) := hf
      have hg : qf_Mod_mean L (i 0 (k + 1)) i1 l1 = some (r, i2, l2) := hg
      have z : i1 0 = i 0 := mj_c0J (by rfl) hf
      obtain ⟨i', l', fin⟩ := next i2 l2 D' P' M' R' hC' hM' hO'
      refine ⟨i', l', ?_⟩
      simp only [c1, if_neg g1, hf, Option.bind_some, z, hg]
      rw [if_pos ((lg_cmp_eq _ _).mpr rfl)]
      exact fin
    rw [if_neg h19]
    by_cases h20 : X = (20 : Int32)
    · rw [if_pos h20]
      obtain ⟨r, i1, l1, i2, l2, D', P', M', R', hf, hg, hC', hM', hO'⟩ := qp_trier L (i 0 (k + 1)) hC hM hO
      have hf : qf_Two_trier L (i 0 (k + 1)) i l = some (r, i1, l1) := hf
      have hg : qf_Mod_trier L (i 0 (k + 1)) i1 l1 = some (r, i2, l2) := hg
      have z : i1 0 = i 0 := mj_c0I (by rfl) hf
      obtain ⟨i', l', fin⟩ := next i2 l2 D' P' M' R' hC' hM' hO'
      refine ⟨i', l', ?_⟩
      simp only [c1, if_neg g1, hf, Option.bind_some, z, hg]
      rw [if_pos trivial]
      exact fin
    rw [if_neg h20]
    by_cases h21 : X = (21 : Int32)
    · rw [if_pos h21]
      obtain ⟨r, i1, l1, i2, l2, D', P', M', R', hf, hg, hC', hM', hO'⟩ := qp_chain L (i 0 (k + 1)) (i 0 (k + 2)) hC hM hO
      have hf : qf_Two_chain L (i 0 (k + 1)) (i 0 (k + 2)) i l = some (r, i1, l1) := hf
      have hg : qf_Mod_chain L (i 0 (k + 1)) (i 0 (k + 2)) i1 l1 = some (r, i2, l2) := hg
      have z : i1 0 = i 0 := mj_c0I (by rfl) hf
      obtain ⟨i', l', fin⟩ := next i2 l2 D' P' M' R' hC' hM' hO'
      refine ⟨i', l', ?_⟩
      simp only [c1, if_neg g1, c2, if_neg g2, hf, Option.bind_some, z, hg]
      rw [if_pos trivial]
      exact fin
    rw [if_neg h21]
    by_cases h22 : X = (22 : Int32)
    · rw [if_pos h22]
      obtain ⟨r, i1, l1, i2, l2, D', P', M', R', hf, hg, hC', hM', hO'⟩ := qp_tester L (i 0 (k + 1)) (i 0 (k + 2)) (i 0 (k + 3)) hC hM hO
      have hf : qf_Two_tester L (i 0 (k + 1)) (i 0 (k + 2)) (i 0 (k + 3)) i l = some (r, i1, l1) := hf
      have hg : qf_Mod_tester L (i 0 (k + 1)) (i 0 (k + 2)) (i 0 (k + 3)) i1 l1 = some (r, i2, l2) := hg
      have z : i1 0 = i 0 := mj_c0I (by rfl) hf
      obtain ⟨i', l', fin⟩ := next i2 l2 D' P' M' R' hC' hM' hO'
      refine ⟨i', l', ?_⟩
      simp only [c1, if_neg g1, c2, if_neg g2, c3, if_neg g3, hf, Option.bind_some, z, hg]
      rw [if_pos trivial]
      exact fin
    rw [if_neg h22]
    by_cases h23 : X = (23 : Int32)
    · rw [if_pos h23]
      obtain ⟨r, i1, l1, i2, l2, D', P', M', R', hf, hg, hC', hM', hO'⟩ := qp_forgets L (i 0 (k + 1)) (i 0 (k + 2)) (i 0 (k + 3)) hC hM hO
      have hf : qf_Two_forgets L (i 0 (k + 1)) (i 0 (k + 2)) (i 0 (k + 3)) i l = some (r, i1, l1) := hf
      have hg : qf_Mod_forgets L (i 0 (k + 1)) (i 0 (k + 2)) (i 0 (k + 3)) i1 l1 = some (r, i2, l2) := hg
      have z : i1 0 = i 0 := mj_c0J (by rfl) hf
      obtain ⟨i', l', fin⟩ := next i2 l2 D' P' M' R' hC' hM' hO'
      refine ⟨i', l', ?_⟩
      simp only [c1, if_neg g1, c2, if_neg g2, c3, if_neg g3, hf, Option.bind_some, z, hg]
      rw [if_pos ((lg_cmp_eq _ _).mpr rfl)]
      exact fin
    rw [if_neg h23]
    by_cases h24 : X = (24 : Int32)
    · rw [if_pos h24]
      obtain ⟨r, i1, l1, i2, l2, D', P', M', R', hf, hg, hC', hM', hO'⟩ := qp_back L (i 0 (k + 1)) (i 0 (k + 2)) hC hM hO
      have hf : qf_Two_back L (i 0 (k + 1)) (i 0 (k + 2)) i l = some (r, i1, l1) := hf
      have hg : qf_Mod_back L (i 0 (k + 1)) (i 0 (k + 2)) i1 l1 = some (r, i2, l2) := hg
      have z : i1 0 = i 0 := mj_c0I (by rfl) hf
      obtain ⟨i', l', fin⟩ := next i2 l2 D' P' M' R' hC' hM' hO'
      refine ⟨i', l', ?_⟩
      simp only [c1, if_neg g1, c2, if_neg g2, hf, Option.bind_some, z, hg]
      rw [if_pos trivial]
      exact fin
    rw [if_neg h24]
    by_cases h25 : X = (25 : Int32)
    · rw [if_pos h25]
      obtain ⟨r, i1, l1, i2, l2, D', P', M', R', hf, hg, hC', hM', hO'⟩ := qp_bestRule L (i 0 (k + 1)) hC hM hO
      have hf : qf_Two_bestRule L (i 0 (k + 1)) i l = some (r, i1, l1) := hf
      have hg : qf_Mod_bestRule L (i 0 (k + 1)) i1 l1 = some (r, i2, l2) := hg
      have z : i1 0 = i 0 := mj_c0I (by rfl) hf
      obtain ⟨i', l', fin⟩ := next i2 l2 D' P' M' R' hC' hM' hO'
      refine ⟨i', l', ?_⟩
      simp only [c1, if_neg g1, hf, Option.bind_some, z, hg]
      rw [if_pos trivial]
      exact fin
    rw [if_neg h25]
    by_cases h26 : X = (26 : Int32)
    · rw [if_pos h26]
      obtain ⟨r, i1, l1, i2, l2, D', P', M', R', hf, hg, hC', hM', hO'⟩ := qp_put L (i 0 (k + 1)) (i 0 (k + 2)) hC hM hO
      have hf : qf_Two_put L (i 0 (k + 1)) (i 0 (k + 2)) i l = some (r, i1, l1) := hf
      have hg : qf_Mod_put L (i 0 (k + 1)) (i 0 (k + 2)) i1 l1 = some (r, i2, l2) := hg
      have z : i1 0 = i 0 := mj_c0I (by rfl) hf
      obtain ⟨i', l', fin⟩ := next i2 l2 D' P' M' R' hC' hM' hO'
      refine ⟨i', l', ?_⟩
      simp only [c1, if_neg g1, c2, if_neg g2, hf, Option.bind_some, z, hg]
      rw [if_pos trivial]
      exact fin
    rw [if_neg h26]
    by_cases h27 : X = (27 : Int32)
    · rw [if_pos h27]
      obtain ⟨r, i1, l1, i2, l2, D', P', M', R', hf, hg, hC', hM', hO'⟩ := qp_suspect L  hC hM hO
      have hf : qf_Two_suspect L  i l = some (r, i1, l1) := hf
      have hg : qf_Mod_suspect L  i1 l1 = some (r, i2, l2) := hg
      have z : i1 0 = i 0 := mj_c0I (by rfl) hf
      obtain ⟨i', l', fin⟩ := next i2 l2 D' P' M' R' hC' hM' hO'
      refine ⟨i', l', ?_⟩
      simp only [hf, Option.bind_some, z, hg]
      rw [if_pos trivial]
      exact fin
    rw [if_neg h27]
    by_cases h28 : X = (28 : Int32)
    · rw [if_pos h28]
      obtain ⟨r, i1, l1, i2, l2, D', P', M', R', hf, hg, hC', hM', hO'⟩ := qp_row L (i 0 (k + 1)) hC hM hO
      have hf : qf_Two_row L (i 0 (k + 1)) i l = some (r, i1, l1) := hf
      have hg : qf_Mod_row L (i 0 (k + 1)) i1 l1 = some (r, i2, l2) := hg
      have z : i1 0 = i 0 := mj_c0I (by rfl) hf
      obtain ⟨i', l', fin⟩ := next i2 l2 D' P' M' R' hC' hM' hO'
      refine ⟨i', l', ?_⟩
      simp only [c1, if_neg g1, hf, Option.bind_some, z, hg]
      rw [if_pos trivial]
      exact fin
    rw [if_neg h28]
    by_cases h29 : X = (29 : Int32)
    · rw [if_pos h29]
      obtain ⟨r, i1, l1, i2, l2, D', P', M', R', hf, hg, hC', hM', hO'⟩ := qp_judge L  hC hM hO
      have hf : qf_Two_judge L  i l = some (r, i1, l1) := hf
      have hg : qf_Mod_judge L  i1 l1 = some (r, i2, l2) := hg
      have z : i1 0 = i 0 := mj_c0I (by rfl) hf
      obtain ⟨i', l', fin⟩ := next i2 l2 D' P' M' R' hC' hM' hO'
      refine ⟨i', l', ?_⟩
      simp only [hf, Option.bind_some, z, hg]
      rw [if_pos trivial]
      exact fin
    rw [if_neg h29]
    by_cases h30 : X = (30 : Int32)
    · rw [if_pos h30]
      obtain ⟨r, i1, l1, i2, l2, D', P', M', R', hf, hg, hC', hM', hO'⟩ := qp_seeds L (i 0 (k + 1)) (i 0 (k + 2)) (i 0 (k + 3)) (i 0 (k + 4)) hC hM hO
      have hf : qf_Two_seeds L (i 0 (k + 1)) (i 0 (k + 2)) (i 0 (k + 3)) (i 0 (k + 4)) i l = some (r, i1, l1) := hf
      have hg : qf_Mod_seeds L (i 0 (k + 1)) (i 0 (k + 2)) (i 0 (k + 3)) (i 0 (k + 4)) i1 l1 = some (r, i2, l2) := hg
      have z : i1 0 = i 0 := mj_c0I (by rfl) hf
      obtain ⟨i', l', fin⟩ := next i2 l2 D' P' M' R' hC' hM' hO'
      refine ⟨i', l', ?_⟩
      simp only [c1, if_neg g1, c2, if_neg g2, c3, if_neg g3, c4, if_neg g4, hf, Option.bind_some, z, hg]
      rw [if_pos trivial]
      exact fin
    rw [if_neg h30]
    by_cases h31 : X = (31 : Int32)
    · rw [if_pos h31]
      obtain ⟨r, i1, l1, i2, l2, D', P', M', R', hf, hg, hC', hM', hO'⟩ := qp_image L  hC hM hO
      have hf : qf_Two_image L  i l = some (r, i1, l1) := hf
      have hg : qf_Mod_image L  i1 l1 = some (r, i2, l2) := hg
      have z : i1 0 = i 0 := mj_c0I (by rfl) hf
      obtain ⟨i', l', fin⟩ := next i2 l2 D' P' M' R' hC' hM' hO'
      refine ⟨i', l', ?_⟩
      simp only [hf, Option.bind_some, z, hg]
      rw [if_pos trivial]
      exact fin
    rw [if_neg h31]
    by_cases h32 : X = (32 : Int32)
    · rw [if_pos h32]
      obtain ⟨r, i1, l1, i2, l2, D', P', M', R', hf, hg, hC', hM', hO'⟩ := qp_restore L  hC hM hO
      have hf : qf_Two_restore L  i l = some (r, i1, l1) := hf
      have hg : qf_Mod_restore L  i1 l1 = some (r, i2, l2) := hg
      have z : i1 0 = i 0 := mj_c0I (by rfl) hf
      obtain ⟨i', l', fin⟩ := next i2 l2 D' P' M' R' hC' hM' hO'
      refine ⟨i', l', ?_⟩
      simp only [hf, Option.bind_some, z, hg]
      rw [if_pos trivial]
      exact fin
    rw [if_neg h32]
    by_cases h33 : X = (33 : Int32)
    · rw [if_pos h33]
      obtain ⟨r, i1, l1, i2, l2, D', P', M', R', hf, hg, hC', hM', hO'⟩ := qp_count L (i 0 (k + 1)) hC hM hO
      have hf : qf_Two_count L (i 0 (k + 1)) i l = some (r, i1, l1) := hf
      have hg : qf_Mod_count L (i 0 (k + 1)) i1 l1 = some (r, i2, l2) := hg
      have z : i1 0 = i 0 := mj_c0I (by rfl) hf
      obtain ⟨i', l', fin⟩ := next i2 l2 D' P' M' R' hC' hM' hO'
      refine ⟨i', l', ?_⟩
      simp only [c1, if_neg g1, hf, Option.bind_some, z, hg]
      rw [if_pos trivial]
      exact fin
    rw [if_neg h33]
    exact next i l D P M R hC hM hO
