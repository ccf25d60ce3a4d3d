/-! The image: become on one side, the kept row on the other. -/
theorem mq_cp_ne {i : mMI} {a b n k : Nat} (h : k ≠ b) : mq_cp i a b n k = i k := by
  funext j
  simp [mq_cp, h]
theorem mq_cp_at {i : mMI} {a b n j : Nat} (h : j < n) : mq_cp i a b n b j = i a j := by
  simp [mq_cp, h]

theorem qs_write_8 (L : Nat) {k : Nat} (x y : Int32) (i : mMI) (l : mML) (h9 : i 8 9 = nI k) (hk : k < 10) : qf_Drawer_write_8 L x y i l = some (mj_up (mj_up (mj_up i 12 k x) 13 k y) 8 9 (nI (k + 1)), l) := by
  refine qe_Drawer_write_8 L x y i l _ ?_
  rw [h9, qs_Two_store_12 L x i l hk, Option.bind_some]
  dsimp only
  rw [show mj_up i 12 k x 8 9 = nI k by rw [mq_upn (by omega)]; exact h9, qs_Two_store_13 L y _ l hk, Option.bind_some]
  dsimp only
  rw [show mj_up (mj_up i 12 k x) 13 k y 8 9 = nI k by rw [mq_upn (by omega), mq_upn (by omega)]; exact h9, nI_1]

theorem qs_become_8_2 (L : Nat) {D : mq_D} (i : mMI) (l : mML) (hC : mq_CD 2 3 4 5 6 7 i D) (h10 : D 9 0 ≤ 10) : ∃ i', qf_Drawer_become_8_2 L i l = some (i', l) ∧ mq_CD 8 9 10 11 12 13 i' D ∧ ∀ k, k ≠ 8 → k ≠ 9 → k ≠ 10 → k ≠ 11 → k ≠ 12 → k ≠ 13 → i' k = i k := by
  obtain ⟨c0, c4, c5, c6, c7, c8, c9, d1, d2, d3, d4, d5⟩ := hC
  let i1 : mMI := mq_cp (mj_up i 8 0 (i 2 0)) 3 9 8
  let i2 : mMI := mq_cp i1 4 10 8
  let i3 : mMI := mq_cp i2 5 11 8
  have f3 : ∀ k, k ≠ 8 → k ≠ 9 → k ≠ 10 → k ≠ 11 → i3 k = i k := by
    intro k h1 h2 h3 h4
    show mq_cp i2 5 11 8 k = _
    rw [mq_cp_ne h4]
    show mq_cp i1 4 10 8 k = _
    rw [mq_cp_ne h3]
    show mq_cp _ 3 9 8 k = _
    rw [mq_cp_ne h2, mq_upn h1]
  have fd : ∀ j, i3 8 j = if j = 0 then i 2 0 else i 8 j := by
    intro j
    show mq_cp i2 5 11 8 8 j = _
    rw [mq_cp_ne (by omega)]
    show mq_cp i1 4 10 8 8 j = _
    rw [mq_cp_ne (by omega)]
    show mq_cp _ 3 9 8 8 j = _
    rw [mq_cp_ne (by omega), mq_upi_at]
  have r1 : ∀ j, j < 8 → i3 9 j = nI (D 1 j) := by
    intro j hj
    show mq_cp i2 5 11 8 9 j = _
    rw [mq_cp_ne (by omega)]
    show mq_cp i1 4 10 8 9 j = _
    rw [mq_cp_ne (by omega)]
    show mq_cp _ 3 9 8 9 j = _
    rw [mq_cp_at hj, mq_upn (by omega)]
    exact d1 j hj
  have r2 : ∀ j, j < 8 → i3 10 j = nI (D 2 j) := by
    intro j hj
    show mq_cp i2 5 11 8 10 j = _
    rw [mq_cp_ne (by omega)]
    show mq_cp i1 4 10 8 10 j = _
    rw [mq_cp_at hj]
    show mq_cp _ 3 9 8 4 j = _
    rw [mq_cp_ne (by omega), mq_upn (by omega)]
    exact d2 j hj
  have r3 : ∀ j, j < 8 → i3 11 j = nI (D 3 j) := by
    intro j hj
    show mq_cp i2 5 11 8 11 j = _
    rw [mq_cp_at hj]
    show mq_cp i1 4 10 8 5 j = _
    rw [mq_cp_ne (by omega)]
    show mq_cp _ 3 9 8 5 j = _
    rw [mq_cp_ne (by omega), mq_upn (by omega)]
    exact d3 j hj
  let i4 : mMI := mj_up (mj_up (mj_up i3 8 4 (nI (D 4 0))) 8 5 (nI (D 5 0))) 8 6 (nI (D 6 0))
  let i5 : mMI := mj_up (mj_up (mj_up i4 8 7 (nI (D 7 0))) 8 8 (nI (D 8 0))) 8 9 (0 : Int32)
  have f5 : ∀ k, k ≠ 8 → i5 k = i3 k := fun k h => (mq_upn h).trans ((mq_upn h).trans ((mq_upn h).trans ((mq_upn h).trans ((mq_upn h).trans (mq_upn h)))))
  have g5 : i5 8 0 = nI (D 0 0) ∧ i5 8 4 = nI (D 4 0) ∧ i5 8 5 = nI (D 5 0) ∧ i5 8 6 = nI (D 6 0) ∧ i5 8 7 = nI (D 7 0) ∧ i5 8 8 = nI (D 8 0) ∧ i5 8 9 = nI 0 := by
    refine ⟨?_, ?_, ?_, ?_, ?_, ?_, ?_⟩
    · show i3 8 0 = _
      rw [fd, if_pos rfl, c0]
    all_goals first | rfl | skip
  have loop : ∀ (m k : Nat), k + m = D 9 0 → ∀ a : mMI, a 8 9 = nI k → (∀ j, j < k → a 12 j = nI (D 10 j)) → (∀ j, j < k → a 13 j = nI (D 11 j)) → (∀ c, c ≠ 8 → c ≠ 12 → c ≠ 13 → a c = i5 c) → (∀ j, j ≠ 9 → a 8 j = i5 8 j) → ∃ i', qf_Drawer_become_8_2_p76 L (nI k) a l = some (i', l) ∧ i' 8 9 = nI (D 9 0) ∧ (∀ j, j < D 9 0 → i' 12 j = nI (D 10 j)) ∧ (∀ j, j < D 9 0 → i' 13 j = nI (D 11 j)) ∧ (∀ c, c ≠ 8 → c ≠ 12 → c ≠ 13 → i' c = i5 c) ∧ (∀ j, j ≠ 9 → i' 8 j = i5 8 j) := by
    have es9 : i5 2 9 = nI (D 9 0) := by
      rw [f5 2 (by omega), f3 2 (by omega) (by omega) (by omega) (by omega)]
      exact c9
    intro m
    induction m with
    | zero =>
      intro k hk a a1 a2 a3 a4 a5
      have hk : k = D 9 0 := hk
      subst hk
      refine ⟨a, qe_Drawer_become_8_2_p76 L _ a l _ ?_, a1, a2, a3, a4, a5⟩
      rw [a4 2 (by omega) (by omega) (by omega), es9, if_pos (nI_le (Nat.le_refl _) (by omega))]
    | succ m ih =>
      intro k hk a a1 a2 a3 a4 a5
      have hlt : k < D 9 0 := by omega
      have e6 : a 6 k = nI (D 10 k) := by
        rw [a4 6 (by omega) (by omega) (by omega), f5 6 (by omega), f3 6 (by omega) (by omega) (by omega) (by omega)]
        exact d4 k hlt
      have e7 : a 7 k = nI (D 11 k) := by
        rw [a4 7 (by omega) (by omega) (by omega), f5 7 (by omega), f3 7 (by omega) (by omega) (by omega) (by omega)]
        exact d5 k hlt
      obtain ⟨i', g, g2⟩ := ih (k + 1) (by omega) (mj_up (mj_up (mj_up a 12 k (nI (D 10 k))) 13 k (nI (D 11 k))) 8 9 (nI (k + 1))) (by rw [mq_upi_at, if_pos rfl]) (fun j hj => by
        rw [mq_upn (by omega), mq_upn (by omega), mq_upi_at]
        by_cases e : j = k
        · rw [if_pos e, e]
        · rw [if_neg e]; exact a2 j (by omega)) (fun j hj => by
        rw [mq_upn (by omega), mq_upi_at]
        by_cases e : j = k
        · rw [if_pos e, e]
        · rw [if_neg e, mq_upn (by omega)]; exact a3 j (by omega)) (fun c h1 h2 h3 => by
        rw [mq_upn h1, mq_upn h3, mq_upn h2]; exact a4 c h1 h2 h3) (fun j hj => by
        rw [mq_upi_at, if_neg hj, mq_upn (by omega), mq_upn (by omega)]; exact a5 j hj)
      refine ⟨i', qe_Drawer_become_8_2_p76 L _ a l _ ?_, g2⟩
      rw [a4 2 (by omega) (by omega) (by omega), es9, if_neg (nI_ge hlt (by omega)), if_neg (show ¬ (10 : Int32) ≤ nI k from nI_ge (a := k) (b := 10) (by omega) (by omega)), qs_Two_at_6 L a l (by omega), Option.bind_some]
      simp only [qs_Two_at_7 L a l (show k < 10 by omega), Option.bind_some, e6, e7]
      rw [qs_write_8 L _ _ a l a1 (by omega), Option.bind_some]
      dsimp only
      rw [nI_1]
      exact g
  obtain ⟨i', e, q9, q4, q5, qf, qd⟩ := loop (D 9 0) 0 (by omega) i5 g5.2.2.2.2.2.2 (fun j h => absurd h (by omega)) (fun j h => absurd h (by omega)) (fun _ _ _ _ => rfl) (fun _ _ => rfl)
  refine ⟨i', qe_Drawer_become_8_2 L i l _ ?_, ⟨(qd 0 (by omega)).trans g5.1, (qd 4 (by omega)).trans g5.2.1, (qd 5 (by omega)).trans g5.2.2.1, (qd 6 (by omega)).trans g5.2.2.2.1, (qd 7 (by omega)).trans g5.2.2.2.2.1, (qd 8 (by omega)).trans g5.2.2.2.2.2.1, q9, fun j hj => ?_, fun j hj => ?_, fun j hj => ?_, q4, q5⟩, ?_⟩
  · rw [qs_Two_copy_3_9 L _ l, Option.bind_some]
    simp only [qs_Two_copy_4_10 L _ l, Option.bind_some]
    have el : qf_Drawer_lieAs_8_5 L i2 l = some (i3, l) := by
      refine qe_Drawer_lieAs_8_5 L i2 l _ ?_
      rw [qs_Two_copy_5_11 L _ l, Option.bind_some]
    have el2 : qf_Drawer_lieAs_8_5 L (mq_cp (mq_cp (mj_up i 8 0 (i 2 0)) 3 9 8) 4 10 8) l = some (i3, l) := el
    rw [el2, Option.bind_some]
    have hs : ∀ j, i3 2 j = i 2 j := fun j => by rw [f3 2 (by omega) (by omega) (by omega) (by omega)]
    simp only [hs, c4, c5, c6, c7, c8]
    have et : qf_Drawer_takeLamp_8 L (nI (D 7 0)) (nI (D 8 0)) i4 l = some (i5, l) := qe_Drawer_takeLamp_8 L _ _ i4 l _ rfl
    have et2 : qf_Drawer_takeLamp_8 L (nI (D 7 0)) (nI (D 8 0)) (mj_up (mj_up (mj_up i3 8 4 (nI (D 4 0))) 8 5 (nI (D 5 0))) 8 6 (nI (D 6 0))) l = some (i5, l) := et
    rw [et2, Option.bind_some]
    exact e
  · rw [qf 9 (by omega) (by omega) (by omega), f5 9 (by omega)]; exact r1 j hj
  · rw [qf 10 (by omega) (by omega) (by omega), f5 10 (by omega)]; exact r2 j hj
  · rw [qf 11 (by omega) (by omega) (by omega), f5 11 (by omega)]; exact r3 j hj
  · intro k h1 h2 h3 h4 h5 h6
    rw [qf k h1 h5 h6, f5 k h1, f3 k h1 h2 h3 h4]

theorem qs_write_2g (L : Nat) {k : Nat} (x y : Int32) (i : mMI) (l : mML) (h9 : i 2 9 = nI k) (hk : k < 10) : qf_Drawer_write_2 L x y i l = some (mj_up (mj_up (mj_up i 6 k x) 7 k y) 2 9 (nI (k + 1)), l) := by
  refine qe_Drawer_write_2 L x y i l _ ?_
  rw [h9, qs_Two_store_6 L x i l hk, Option.bind_some]
  dsimp only
  rw [show mj_up i 6 k x 2 9 = nI k by rw [mq_upn (by omega)]; exact h9, qs_Two_store_7 L y _ l hk, Option.bind_some]
  dsimp only
  rw [show mj_up (mj_up i 6 k x) 7 k y 2 9 = nI k by rw [mq_upn (by omega), mq_upn (by omega)]; exact h9, nI_1]

theorem qs_become_2_8 (L : Nat) {D : mq_D} (i : mMI) (l : mML) (hC : mq_CD 8 9 10 11 12 13 i D) (h10 : D 9 0 ≤ 10) : ∃ i', qf_Drawer_become_2_8 L i l = some (i', l) ∧ mq_CD 2 3 4 5 6 7 i' D ∧ ∀ k, k ≠ 2 → k ≠ 3 → k ≠ 4 → k ≠ 5 → k ≠ 6 → k ≠ 7 → i' k = i k := by
  obtain ⟨c0, c4, c5, c6, c7, c8, c9, d1, d2, d3, d4, d5⟩ := hC
  let i1 : mMI := mq_cp (mj_up i 2 0 (i 8 0)) 9 3 8
  let i2 : mMI := mq_cp i1 10 4 8
  let i3 : mMI := mq_cp i2 11 5 8
  have f3 : ∀ k, k ≠ 2 → k ≠ 3 → k ≠ 4 → k ≠ 5 → i3 k = i k := by
    intro k h1 h2 h3 h4
    show mq_cp i2 11 5 8 k = _
    rw [mq_cp_ne h4]
    show mq_cp i1 10 4 8 k = _
    rw [mq_cp_ne h3]
    show mq_cp _ 9 3 8 k = _
    rw [mq_cp_ne h2, mq_upn h1]
  have fd : ∀ j, i3 2 j = if j = 0 then i 8 0 else i 2 j := by
    intro j
    show mq_cp i2 11 5 8 2 j = _
    rw [mq_cp_ne (by omega)]
    show mq_cp i1 10 4 8 2 j = _
    rw [mq_cp_ne (by omega)]
    show mq_cp _ 9 3 8 2 j = _
    rw [mq_cp_ne (by omega), mq_upi_at]
  have r1 : ∀ j, j < 8 → i3 3 j = nI (D 1 j) := by
    intro j hj
    show mq_cp i2 11 5 8 3 j = _
    rw [mq_cp_ne (by omega)]
    show mq_cp i1 10 4 8 3 j = _
    rw [mq_cp_ne (by omega)]
    show mq_cp _ 9 3 8 3 j = _
    rw [mq_cp_at hj, mq_upn (by omega)]
    exact d1 j hj
  have r2 : ∀ j, j < 8 → i3 4 j = nI (D 2 j) := by
    intro j hj
    show mq_cp i2 11 5 8 4 j = _
    rw [mq_cp_ne (by omega)]
    show mq_cp i1 10 4 8 4 j = _
    rw [mq_cp_at hj]
    show mq_cp _ 9 3 8 10 j = _
    rw [mq_cp_ne (by omega), mq_upn (by omega)]
    exact d2 j hj
  have r3 : ∀ j, j < 8 → i3 5 j = nI (D 3 j) := by
    intro j hj
    show mq_cp i2 11 5 8 5 j = _
    rw [mq_cp_at hj]
    show mq_cp i1 10 4 8 11 j = _
    rw [mq_cp_ne (by omega)]
    show mq_cp _ 9 3 8 11 j = _
    rw [mq_cp_ne (by omega), mq_upn (by omega)]
    exact d3 j hj
  let i4 : mMI := mj_up (mj_up (mj_up i3 2 4 (nI (D 4 0))) 2 5 (nI (D 5 0))) 2 6 (nI (D 6 0))
  let i5 : mMI := mj_up (mj_up (mj_up i4 2 7 (nI (D 7 0))) 2 8 (nI (D 8 0))) 2 9 (0 : Int32)
  have f5 : ∀ k, k ≠ 2 → i5 k = i3 k := fun k h => (mq_upn h).trans ((mq_upn h).trans ((mq_upn h).trans ((mq_upn h).trans ((mq_upn h).trans (mq_upn h)))))
  have g5 : i5 2 0 = nI (D 0 0) ∧ i5 2 4 = nI (D 4 0) ∧ i5 2 5 = nI (D 5 0) ∧ i5 2 6 = nI (D 6 0) ∧ i5 2 7 = nI (D 7 0) ∧ i5 2 8 = nI (D 8 0) ∧ i5 2 9 = nI 0 := by
    refine ⟨?_, ?_, ?_, ?_, ?_, ?_, ?_⟩
    · show i3 2 0 = _
      rw [fd, if_pos rfl, c0]
    all_goals first | rfl | skip
  have loop : ∀ (m k : Nat), k + m = D 9 0 → ∀ a : mMI, a 2 9 = nI k → (∀ j, j < k → a 6 j = nI (D 10 j)) → (∀ j, j < k → a 7 j = nI (D 11 j)) → (∀ c, c ≠ 2 → c ≠ 6 → c ≠ 7 → a c = i5 c) → (∀ j, j ≠ 9 → a 2 j = i5 2 j) → ∃ i', qf_Drawer_become_2_8_p76 L (nI k) a l = some (i', l) ∧ i' 2 9 = nI (D 9 0) ∧ (∀ j, j < D 9 0 → i' 6 j = nI (D 10 j)) ∧ (∀ j, j < D 9 0 → i' 7 j = nI (D 11 j)) ∧ (∀ c, c ≠ 2 → c ≠ 6 → c ≠ 7 → i' c = i5 c) ∧ (∀ j, j ≠ 9 → i' 2 j = i5 2 j) := by
    have es9 : i5 8 9 = nI (D 9 0) := by
      rw [f5 8 (by omega), f3 8 (by omega) (by omega) (by omega) (by omega)]
      exact c9
    intro m
    induction m with
    | zero =>
      intro k hk a a1 a2 a3 a4 a5
      have hk : k = D 9 0 := hk
      subst hk
      refine ⟨a, qe_Drawer_become_2_8_p76 L _ a l _ ?_, a1, a2, a3, a4, a5⟩
      rw [a4 8 (by omega) (by omega) (by omega), es9, if_pos (nI_le (Nat.le_refl _) (by omega))]
    | succ m ih =>
      intro k hk a a1 a2 a3 a4 a5
      have hlt : k < D 9 0 := by omega
      have e6 : a 12 k = nI (D 10 k) := by
        rw [a4 12 (by omega) (by omega) (by omega), f5 12 (by omega), f3 12 (by omega) (by omega) (by omega) (by omega)]
        exact d4 k hlt
      have e7 : a 13 k = nI (D 11 k) := by
        rw [a4 13 (by omega) (by omega) (by omega), f5 13 (by omega), f3 13 (by omega) (by omega) (by omega) (by omega)]
        exact d5 k hlt
      obtain ⟨i', g, g2⟩ := ih (k + 1) (by omega) (mj_up (mj_up (mj_up a 6 k (nI (D 10 k))) 7 k (nI (D 11 k))) 2 9 (nI (k + 1))) (by rw [mq_upi_at, if_pos rfl]) (fun j hj => by
        rw [mq_upn (by omega), mq_upn (by omega), mq_upi_at]
        by_cases e : j = k
        · rw [if_pos e, e]
        · rw [if_neg e]; exact a2 j (by omega)) (fun j hj => by
        rw [mq_upn (by omega), mq_upi_at]
        by_cases e : j = k
        · rw [if_pos e, e]
        · rw [if_neg e, mq_upn (by omega)]; exact a3 j (by omega)) (fun c h1 h2 h3 => by
        rw [mq_upn h1, mq_upn h3, mq_upn h2]; exact a4 c h1 h2 h3) (fun j hj => by
        rw [mq_upi_at, if_neg hj, mq_upn (by omega), mq_upn (by omega)]; exact a5 j hj)
      refine ⟨i', qe_Drawer_become_2_8_p76 L _ a l _ ?_, g2⟩
      rw [a4 8 (by omega) (by omega) (by omega), es9, if_neg (nI_ge hlt (by omega)), if_neg (show ¬ (10 : Int32) ≤ nI k from nI_ge (a := k) (b := 10) (by omega) (by omega)), qs_Two_at_12 L a l (by omega), Option.bind_some]
      simp only [qs_Two_at_13 L a l (show k < 10 by omega), Option.bind_some, e6, e7]
      rw [qs_write_2g L _ _ a l a1 (by omega), Option.bind_some]
      dsimp only
      rw [nI_1]
      exact g
  obtain ⟨i', e, q9, q4, q5, qf, qd⟩ := loop (D 9 0) 0 (by omega) i5 g5.2.2.2.2.2.2 (fun j h => absurd h (by omega)) (fun j h => absurd h (by omega)) (fun _ _ _ _ => rfl) (fun _ _ => rfl)
  refine ⟨i', qe_Drawer_become_2_8 L i l _ ?_, ⟨(qd 0 (by omega)).trans g5.1, (qd 4 (by omega)).trans g5.2.1, (qd 5 (by omega)).trans g5.2.2.1, (qd 6 (by omega)).trans g5.2.2.2.1, (qd 7 (by omega)).trans g5.2.2.2.2.1, (qd 8 (by omega)).trans g5.2.2.2.2.2.1, q9, fun j hj => ?_, fun j hj => ?_, fun j hj => ?_, q4, q5⟩, ?_⟩
  · rw [qs_Two_copy_9_3 L _ l, Option.bind_some]
    simp only [qs_Two_copy_10_4 L _ l, Option.bind_some]
    have el : qf_Drawer_lieAs_2_11 L i2 l = some (i3, l) := by
      refine qe_Drawer_lieAs_2_11 L i2 l _ ?_
      rw [qs_Two_copy_11_5 L _ l, Option.bind_some]
    have el2 : qf_Drawer_lieAs_2_11 L (mq_cp (mq_cp (mj_up i 2 0 (i 8 0)) 9 3 8) 10 4 8) l = some (i3, l) := el
    rw [el2, Option.bind_some]
    have hs : ∀ j, i3 8 j = i 8 j := fun j => by rw [f3 8 (by omega) (by omega) (by omega) (by omega)]
    simp only [hs, c4, c5, c6, c7, c8]
    have et : qf_Drawer_takeLamp_2 L (nI (D 7 0)) (nI (D 8 0)) i4 l = some (i5, l) := qe_Drawer_takeLamp_2 L _ _ i4 l _ rfl
    have et2 : qf_Drawer_takeLamp_2 L (nI (D 7 0)) (nI (D 8 0)) (mj_up (mj_up (mj_up i3 2 4 (nI (D 4 0))) 2 5 (nI (D 5 0))) 2 6 (nI (D 6 0))) l = some (i5, l) := et
    rw [et2, Option.bind_some]
    exact e
  · rw [qf 3 (by omega) (by omega) (by omega), f5 3 (by omega)]; exact r1 j hj
  · rw [qf 4 (by omega) (by omega) (by omega), f5 4 (by omega)]; exact r2 j hj
  · rw [qf 5 (by omega) (by omega) (by omega), f5 5 (by omega)]; exact r3 j hj
  · intro k h1 h2 h3 h4 h5 h6
    rw [qf k h1 h5 h6, f5 k h1, f3 k h1 h2 h3 h4]

theorem qs_write_14 (L : Nat) {k : Nat} (x y : Int32) (i : mMI) (l : mML) (h9 : i 14 9 = nI k) (hk : k < 10) : qf_Drawer_write_14 L x y i l = some (mj_up (mj_up (mj_up i 18 k x) 19 k y) 14 9 (nI (k + 1)), l) := by
  refine qe_Drawer_write_14 L x y i l _ ?_
  rw [h9, qs_Two_store_18 L x i l hk, Option.bind_some]
  dsimp only
  rw [show mj_up i 18 k x 14 9 = nI k by rw [mq_upn (by omega)]; exact h9, qs_Two_store_19 L y _ l hk, Option.bind_some]
  dsimp only
  rw [show mj_up (mj_up i 18 k x) 19 k y 14 9 = nI k by rw [mq_upn (by omega), mq_upn (by omega)]; exact h9, nI_1]

theorem qs_become_14_2 (L : Nat) {D : mq_D} (i : mMI) (l : mML) (hC : mq_CD 2 3 4 5 6 7 i D) (h10 : D 9 0 ≤ 10) : ∃ i', qf_Drawer_become_14_2 L i l = some (i', l) ∧ mq_CD 14 15 16 17 18 19 i' D ∧ ∀ k, k ≠ 14 → k ≠ 15 → k ≠ 16 → k ≠ 17 → k ≠ 18 → k ≠ 19 → i' k = i k := by
  obtain ⟨c0, c4, c5, c6, c7, c8, c9, d1, d2, d3, d4, d5⟩ := hC
  let i1 : mMI := mq_cp (mj_up i 14 0 (i 2 0)) 3 15 8
  let i2 : mMI := mq_cp i1 4 16 8
  let i3 : mMI := mq_cp i2 5 17 8
  have f3 : ∀ k, k ≠ 14 → k ≠ 15 → k ≠ 16 → k ≠ 17 → i3 k = i k := by
    intro k h1 h2 h3 h4
    show mq_cp i2 5 17 8 k = _
    rw [mq_cp_ne h4]
    show mq_cp i1 4 16 8 k = _
    rw [mq_cp_ne h3]
    show mq_cp _ 3 15 8 k = _
    rw [mq_cp_ne h2, mq_upn h1]
  have fd : ∀ j, i3 14 j = if j = 0 then i 2 0 else i 14 j := by
    intro j
    show mq_cp i2 5 17 8 14 j = _
    rw [mq_cp_ne (by omega)]
    show mq_cp i1 4 16 8 14 j = _
    rw [mq_cp_ne (by omega)]
    show mq_cp _ 3 15 8 14 j = _
    rw [mq_cp_ne (by omega), mq_upi_at]
  have r1 : ∀ j, j < 8 → i3 15 j = nI (D 1 j) := by
    intro j hj
    show mq_cp i2 5 17 8 15 j = _
    rw [mq_cp_ne (by omega)]
    show mq_cp i1 4 16 8 15 j = _
    rw [mq_cp_ne (by omega)]
    show mq_cp _ 3 15 8 15 j = _
    rw [mq_cp_at hj, mq_upn (by omega)]
    exact d1 j hj
  have r2 : ∀ j, j < 8 → i3 16 j = nI (D 2 j) := by
    intro j hj
    show mq_cp i2 5 17 8 16 j = _
    rw [mq_cp_ne (by omega)]
    show mq_cp i1 4 16 8 16 j = _
    rw [mq_cp_at hj]
    show mq_cp _ 3 15 8 4 j = _
    rw [mq_cp_ne (by omega), mq_upn (by omega)]
    exact d2 j hj
  have r3 : ∀ j, j < 8 → i3 17 j = nI (D 3 j) := by
    intro j hj
    show mq_cp i2 5 17 8 17 j = _
    rw [mq_cp_at hj]
    show mq_cp i1 4 16 8 5 j = _
    rw [mq_cp_ne (by omega)]
    show mq_cp _ 3 15 8 5 j = _
    rw [mq_cp_ne (by omega), mq_upn (by omega)]
    exact d3 j hj
  let i4 : mMI := mj_up (mj_up (mj_up i3 14 4 (nI (D 4 0))) 14 5 (nI (D 5 0))) 14 6 (nI (D 6 0))
  let i5 : mMI := mj_up (mj_up (mj_up i4 14 7 (nI (D 7 0))) 14 8 (nI (D 8 0))) 14 9 (0 : Int32)
  have f5 : ∀ k, k ≠ 14 → i5 k = i3 k := fun k h => (mq_upn h).trans ((mq_upn h).trans ((mq_upn h).trans ((mq_upn h).trans ((mq_upn h).trans (mq_upn h)))))
  have g5 : i5 14 0 = nI (D 0 0) ∧ i5 14 4 = nI (D 4 0) ∧ i5 14 5 = nI (D 5 0) ∧ i5 14 6 = nI (D 6 0) ∧ i5 14 7 = nI (D 7 0) ∧ i5 14 8 = nI (D 8 0) ∧ i5 14 9 = nI 0 := by
    refine ⟨?_, ?_, ?_, ?_, ?_, ?_, ?_⟩
    · show i3 14 0 = _
      rw [fd, if_pos rfl, c0]
    all_goals first | rfl | skip
  have loop : ∀ (m k : Nat), k + m = D 9 0 → ∀ a : mMI, a 14 9 = nI k → (∀ j, j < k → a 18 j = nI (D 10 j)) → (∀ j, j < k → a 19 j = nI (D 11 j)) → (∀ c, c ≠ 14 → c ≠ 18 → c ≠ 19 → a c = i5 c) → (∀ j, j ≠ 9 → a 14 j = i5 14 j) → ∃ i', qf_Drawer_become_14_2_p76 L (nI k) a l = some (i', l) ∧ i' 14 9 = nI (D 9 0) ∧ (∀ j, j < D 9 0 → i' 18 j = nI (D 10 j)) ∧ (∀ j, j < D 9 0 → i' 19 j = nI (D 11 j)) ∧ (∀ c, c ≠ 14 → c ≠ 18 → c ≠ 19 → i' c = i5 c) ∧ (∀ j, j ≠ 9 → i' 14 j = i5 14 j) := by
    have es9 : i5 2 9 = nI (D 9 0) := by
      rw [f5 2 (by omega), f3 2 (by omega) (by omega) (by omega) (by omega)]
      exact c9
    intro m
    induction m with
    | zero =>
      intro k hk a a1 a2 a3 a4 a5
      have hk : k = D 9 0 := hk
      subst hk
      refine ⟨a, qe_Drawer_become_14_2_p76 L _ a l _ ?_, a1, a2, a3, a4, a5⟩
      rw [a4 2 (by omega) (by omega) (by omega), es9, if_pos (nI_le (Nat.le_refl _) (by omega))]
    | succ m ih =>
      intro k hk a a1 a2 a3 a4 a5
      have hlt : k < D 9 0 := by omega
      have e6 : a 6 k = nI (D 10 k) := by
        rw [a4 6 (by omega) (by omega) (by omega), f5 6 (by omega), f3 6 (by omega) (by omega) (by omega) (by omega)]
        exact d4 k hlt
      have e7 : a 7 k = nI (D 11 k) := by
        rw [a4 7 (by omega) (by omega) (by omega), f5 7 (by omega), f3 7 (by omega) (by omega) (by omega) (by omega)]
        exact d5 k hlt
      obtain ⟨i', g, g2⟩ := ih (k + 1) (by omega) (mj_up (mj_up (mj_up a 18 k (nI (D 10 k))) 19 k (nI (D 11 k))) 14 9 (nI (k + 1))) (by rw [mq_upi_at, if_pos rfl]) (fun j hj => by
        rw [mq_upn (by omega), mq_upn (by omega), mq_upi_at]
        by_cases e : j = k
        · rw [if_pos e, e]
        · rw [if_neg e]; exact a2 j (by omega)) (fun j hj => by
        rw [mq_upn (by omega), mq_upi_at]
        by_cases e : j = k
        · rw [if_pos e, e]
        · rw [if_neg e, mq_upn (by omega)]; exact a3 j (by omega)) (fun c h1 h2 h3 => by
        rw [mq_upn h1, mq_upn h3, mq_upn h2]; exact a4 c h1 h2 h3) (fun j hj => by
        rw [mq_upi_at, if_neg hj, mq_upn (by omega), mq_upn (by omega)]; exact a5 j hj)
      refine ⟨i', qe_Drawer_become_14_2_p76 L _ a l _ ?_, g2⟩
      rw [a4 2 (by omega) (by omega) (by omega), es9, if_neg (nI_ge hlt (by omega)), if_neg (show ¬ (10 : Int32) ≤ nI k from nI_ge (a := k) (b := 10) (by omega) (by omega)), qs_Two_at_6 L a l (by omega), Option.bind_some]
      simp only [qs_Two_at_7 L a l (show k < 10 by omega), Option.bind_some, e6, e7]
      rw [qs_write_14 L _ _ a l a1 (by omega), Option.bind_some]
      dsimp only
      rw [nI_1]
      exact g
  obtain ⟨i', e, q9, q4, q5, qf, qd⟩ := loop (D 9 0) 0 (by omega) i5 g5.2.2.2.2.2.2 (fun j h => absurd h (by omega)) (fun j h => absurd h (by omega)) (fun _ _ _ _ => rfl) (fun _ _ => rfl)
  refine ⟨i', qe_Drawer_become_14_2 L i l _ ?_, ⟨(qd 0 (by omega)).trans g5.1, (qd 4 (by omega)).trans g5.2.1, (qd 5 (by omega)).trans g5.2.2.1, (qd 6 (by omega)).trans g5.2.2.2.1, (qd 7 (by omega)).trans g5.2.2.2.2.1, (qd 8 (by omega)).trans g5.2.2.2.2.2.1, q9, fun j hj => ?_, fun j hj => ?_, fun j hj => ?_, q4, q5⟩, ?_⟩
  · rw [qs_Two_copy_3_15 L _ l, Option.bind_some]
    simp only [qs_Two_copy_4_16 L _ l, Option.bind_some]
    have el : qf_Drawer_lieAs_14_5 L i2 l = some (i3, l) := by
      refine qe_Drawer_lieAs_14_5 L i2 l _ ?_
      rw [qs_Two_copy_5_17 L _ l, Option.bind_some]
    have el2 : qf_Drawer_lieAs_14_5 L (mq_cp (mq_cp (mj_up i 14 0 (i 2 0)) 3 15 8) 4 16 8) l = some (i3, l) := el
    rw [el2, Option.bind_some]
    have hs : ∀ j, i3 2 j = i 2 j := fun j => by rw [f3 2 (by omega) (by omega) (by omega) (by omega)]
    simp only [hs, c4, c5, c6, c7, c8]
    have et : qf_Drawer_takeLamp_14 L (nI (D 7 0)) (nI (D 8 0)) i4 l = some (i5, l) := qe_Drawer_takeLamp_14 L _ _ i4 l _ rfl
    have et2 : qf_Drawer_takeLamp_14 L (nI (D 7 0)) (nI (D 8 0)) (mj_up (mj_up (mj_up i3 14 4 (nI (D 4 0))) 14 5 (nI (D 5 0))) 14 6 (nI (D 6 0))) l = some (i5, l) := et
    rw [et2, Option.bind_some]
    exact e
  · rw [qf 15 (by omega) (by omega) (by omega), f5 15 (by omega)]; exact r1 j hj
  · rw [qf 16 (by omega) (by omega) (by omega), f5 16 (by omega)]; exact r2 j hj
  · rw [qf 17 (by omega) (by omega) (by omega), f5 17 (by omega)]; exact r3 j hj
  · intro k h1 h2 h3 h4 h5 h6
    rw [qf k h1 h5 h6, f5 k h1, f3 k h1 h2 h3 h4]

theorem qs_become_2_14 (L : Nat) {D : mq_D} (i : mMI) (l : mML) (hC : mq_CD 14 15 16 17 18 19 i D) (h10 : D 9 0 ≤ 10) : ∃ i', qf_Drawer_become_2_14 L i l = some (i', l) ∧ mq_CD 2 3 4 5 6 7 i' D ∧ ∀ k, k ≠ 2 → k ≠ 3 → k ≠ 4 → k ≠ 5 → k ≠ 6 → k ≠ 7 → i' k = i k := by
  obtain ⟨c0, c4, c5, c6, c7, c8, c9, d1, d2, d3, d4, d5⟩ := hC
  let i1 : mMI := mq_cp (mj_up i 2 0 (i 14 0)) 15 3 8
  let i2 : mMI := mq_cp i1 16 4 8
  let i3 : mMI := mq_cp i2 17 5 8
  have f3 : ∀ k, k ≠ 2 → k ≠ 3 → k ≠ 4 → k ≠ 5 → i3 k = i k := by
    intro k h1 h2 h3 h4
    show mq_cp i2 17 5 8 k = _
    rw [mq_cp_ne h4]
    show mq_cp i1 16 4 8 k = _
    rw [mq_cp_ne h3]
    show mq_cp _ 15 3 8 k = _
    rw [mq_cp_ne h2, mq_upn h1]
  have fd : ∀ j, i3 2 j = if j = 0 then i 14 0 else i 2 j := by
    intro j
    show mq_cp i2 17 5 8 2 j = _
    rw [mq_cp_ne (by omega)]
    show mq_cp i1 16 4 8 2 j = _
    rw [mq_cp_ne (by omega)]
    show mq_cp _ 15 3 8 2 j = _
    rw [mq_cp_ne (by omega), mq_upi_at]
  have r1 : ∀ j, j < 8 → i3 3 j = nI (D 1 j) := by
    intro j hj
    show mq_cp i2 17 5 8 3 j = _
    rw [mq_cp_ne (by omega)]
    show mq_cp i1 16 4 8 3 j = _
    rw [mq_cp_ne (by omega)]
    show mq_cp _ 15 3 8 3 j = _
    rw [mq_cp_at hj, mq_upn (by omega)]
    exact d1 j hj
  have r2 : ∀ j, j < 8 → i3 4 j = nI (D 2 j) := by
    intro j hj
    show mq_cp i2 17 5 8 4 j = _
    rw [mq_cp_ne (by omega)]
    show mq_cp i1 16 4 8 4 j = _
    rw [mq_cp_at hj]
    show mq_cp _ 15 3 8 16 j = _
    rw [mq_cp_ne (by omega), mq_upn (by omega)]
    exact d2 j hj
  have r3 : ∀ j, j < 8 → i3 5 j = nI (D 3 j) := by
    intro j hj
    show mq_cp i2 17 5 8 5 j = _
    rw [mq_cp_at hj]
    show mq_cp i1 16 4 8 17 j = _
    rw [mq_cp_ne (by omega)]
    show mq_cp _ 15 3 8 17 j = _
    rw [mq_cp_ne (by omega), mq_upn (by omega)]
    exact d3 j hj
  let i4 : mMI := mj_up (mj_up (mj_up i3 2 4 (nI (D 4 0))) 2 5 (nI (D 5 0))) 2 6 (nI (D 6 0))
  let i5 : mMI := mj_up (mj_up (mj_up i4 2 7 (nI (D 7 0))) 2 8 (nI (D 8 0))) 2 9 (0 : Int32)
  have f5 : ∀ k, k ≠ 2 → i5 k = i3 k := fun k h => (mq_upn h).trans ((mq_upn h).trans ((mq_upn h).trans ((mq_upn h).trans ((mq_upn h).trans (mq_upn h)))))
  have g5 : i5 2 0 = nI (D 0 0) ∧ i5 2 4 = nI (D 4 0) ∧ i5 2 5 = nI (D 5 0) ∧ i5 2 6 = nI (D 6 0) ∧ i5 2 7 = nI (D 7 0) ∧ i5 2 8 = nI (D 8 0) ∧ i5 2 9 = nI 0 := by
    refine ⟨?_, ?_, ?_, ?_, ?_, ?_, ?_⟩
    · show i3 2 0 = _
      rw [fd, if_pos rfl, c0]
    all_goals first | rfl | skip
  have loop : ∀ (m k : Nat), k + m = D 9 0 → ∀ a : mMI, a 2 9 = nI k → (∀ j, j < k → a 6 j = nI (D 10 j)) → (∀ j, j < k → a 7 j = nI (D 11 j)) → (∀ c, c ≠ 2 → c ≠ 6 → c ≠ 7 → a c = i5 c) → (∀ j, j ≠ 9 → a 2 j = i5 2 j) → ∃ i', qf_Drawer_become_2_14_p76 L (nI k) a l = some (i', l) ∧ i' 2 9 = nI (D 9 0) ∧ (∀ j, j < D 9 0 → i' 6 j = nI (D 10 j)) ∧ (∀ j, j < D 9 0 → i' 7 j = nI (D 11 j)) ∧ (∀ c, c ≠ 2 → c ≠ 6 → c ≠ 7 → i' c = i5 c) ∧ (∀ j, j ≠ 9 → i' 2 j = i5 2 j) := by
    have es9 : i5 14 9 = nI (D 9 0) := by
      rw [f5 14 (by omega), f3 14 (by omega) (by omega) (by omega) (by omega)]
      exact c9
    intro m
    induction m with
    | zero =>
      intro k hk a a1 a2 a3 a4 a5
      have hk : k = D 9 0 := hk
      subst hk
      refine ⟨a, qe_Drawer_become_2_14_p76 L _ a l _ ?_, a1, a2, a3, a4, a5⟩
      rw [a4 14 (by omega) (by omega) (by omega), es9, if_pos (nI_le (Nat.le_refl _) (by omega))]
    | succ m ih =>
      intro k hk a a1 a2 a3 a4 a5
      have hlt : k < D 9 0 := by omega
      have e6 : a 18 k = nI (D 10 k) := by
        rw [a4 18 (by omega) (by omega) (by omega), f5 18 (by omega), f3 18 (by omega) (by omega) (by omega) (by omega)]
        exact d4 k hlt
      have e7 : a 19 k = nI (D 11 k) := by
        rw [a4 19 (by omega) (by omega) (by omega), f5 19 (by omega), f3 19 (by omega) (by omega) (by omega) (by omega)]
        exact d5 k hlt
      obtain ⟨i', g, g2⟩ := ih (k + 1) (by omega) (mj_up (mj_up (mj_up a 6 k (nI (D 10 k))) 7 k (nI (D 11 k))) 2 9 (nI (k + 1))) (by rw [mq_upi_at, if_pos rfl]) (fun j hj => by
        rw [mq_upn (by omega), mq_upn (by omega), mq_upi_at]
        by_cases e : j = k
        · rw [if_pos e, e]
        · rw [if_neg e]; exact a2 j (by omega)) (fun j hj => by
        rw [mq_upn (by omega), mq_upi_at]
        by_cases e : j = k
        · rw [if_pos e, e]
        · rw [if_neg e, mq_upn (by omega)]; exact a3 j (by omega)) (fun c h1 h2 h3 => by
        rw [mq_upn h1, mq_upn h3, mq_upn h2]; exact a4 c h1 h2 h3) (fun j hj => by
        rw [mq_upi_at, if_neg hj, mq_upn (by omega), mq_upn (by omega)]; exact a5 j hj)
      refine ⟨i', qe_Drawer_become_2_14_p76 L _ a l _ ?_, g2⟩
      rw [a4 14 (by omega) (by omega) (by omega), es9, if_neg (nI_ge hlt (by omega)), if_neg (show ¬ (10 : Int32) ≤ nI k from nI_ge (a := k) (b := 10) (by omega) (by omega)), qs_Two_at_18 L a l (by omega), Option.bind_some]
      simp only [qs_Two_at_19 L a l (show k < 10 by omega), Option.bind_some, e6, e7]
      rw [qs_write_2g L _ _ a l a1 (by omega), Option.bind_some]
      dsimp only
      rw [nI_1]
      exact g
  obtain ⟨i', e, q9, q4, q5, qf, qd⟩ := loop (D 9 0) 0 (by omega) i5 g5.2.2.2.2.2.2 (fun j h => absurd h (by omega)) (fun j h => absurd h (by omega)) (fun _ _ _ _ => rfl) (fun _ _ => rfl)
  refine ⟨i', qe_Drawer_become_2_14 L i l _ ?_, ⟨(qd 0 (by omega)).trans g5.1, (qd 4 (by omega)).trans g5.2.1, (qd 5 (by omega)).trans g5.2.2.1, (qd 6 (by omega)).trans g5.2.2.2.1, (qd 7 (by omega)).trans g5.2.2.2.2.1, (qd 8 (by omega)).trans g5.2.2.2.2.2.1, q9, fun j hj => ?_, fun j hj => ?_, fun j hj => ?_, q4, q5⟩, ?_⟩
  · rw [qs_Two_copy_15_3 L _ l, Option.bind_some]
    simp only [qs_Two_copy_16_4 L _ l, Option.bind_some]
    have el : qf_Drawer_lieAs_2_17 L i2 l = some (i3, l) := by
      refine qe_Drawer_lieAs_2_17 L i2 l _ ?_
      rw [qs_Two_copy_17_5 L _ l, Option.bind_some]
    have el2 : qf_Drawer_lieAs_2_17 L (mq_cp (mq_cp (mj_up i 2 0 (i 14 0)) 15 3 8) 16 4 8) l = some (i3, l) := el
    rw [el2, Option.bind_some]
    have hs : ∀ j, i3 14 j = i 14 j := fun j => by rw [f3 14 (by omega) (by omega) (by omega) (by omega)]
    simp only [hs, c4, c5, c6, c7, c8]
    have et : qf_Drawer_takeLamp_2 L (nI (D 7 0)) (nI (D 8 0)) i4 l = some (i5, l) := qe_Drawer_takeLamp_2 L _ _ i4 l _ rfl
    have et2 : qf_Drawer_takeLamp_2 L (nI (D 7 0)) (nI (D 8 0)) (mj_up (mj_up (mj_up i3 2 4 (nI (D 4 0))) 2 5 (nI (D 5 0))) 2 6 (nI (D 6 0))) l = some (i5, l) := et
    rw [et2, Option.bind_some]
    exact e
  · rw [qf 3 (by omega) (by omega) (by omega), f5 3 (by omega)]; exact r1 j hj
  · rw [qf 4 (by omega) (by omega) (by omega), f5 4 (by omega)]; exact r2 j hj
  · rw [qf 5 (by omega) (by omega) (by omega), f5 5 (by omega)]; exact r3 j hj
  · intro k h1 h2 h3 h4 h5 h6
    rw [qf k h1 h5 h6, f5 k h1, f3 k h1 h2 h3 h4]
