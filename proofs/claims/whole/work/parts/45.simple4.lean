/-! would, tries, book, battery, count. -/
set_option maxRecDepth 100000 in
theorem mq_pop8 : ∀ s, s < 256 → mq_pop s ≤ 8 := by decide +kernel
theorem mq_tells8 (k : Nat) {s : Nat} (w : Nat) (hs : s < 256) : mq_tells k s w ≤ 8 := by
  have h1 := mq_pop8 (s &&& w) (Nat.lt_of_le_of_lt Nat.and_le_left hs)
  unfold mq_tells
  repeat' split
  all_goals omega
theorem mq_php : ∀ (n : Nat) (f : Nat → Nat), (∀ j, j < n + 1 → f j < n) → ∃ a b, a < b ∧ b < n + 1 ∧ f a = f b
  | 0, f, h => absurd (h 0 (by omega)) (by omega)
  | n + 1, f, h => by
    by_cases hc : ∃ a, a < n + 1 ∧ f a = f (n + 1)
    · obtain ⟨a, ha, e⟩ := hc
      exact ⟨a, n + 1, ha, by omega, e⟩
    · have hne : ∀ j, j < n + 1 → f j ≠ f (n + 1) := fun j hj e => hc ⟨j, hj, e⟩
      obtain ⟨a, b, hab, hb, e⟩ := mq_php n (fun j => if f j = n then f (n + 1) else f j) (fun j hj => by
        have h1 := h j (by omega)
        have h2 := h (n + 1) (by omega)
        have h3 := hne j hj
        show (if f j = n then f (n + 1) else f j) < n
        split <;> omega)
      refine ⟨a, b, hab, by omega, ?_⟩
      have h3 := hne a (by omega)
      have h4 := hne b hb
      by_cases ea : f a = n
      · by_cases eb : f b = n
        · rw [ea, eb]
        · rw [if_pos ea, if_neg eb] at e
          exact absurd e.symm h4
      · by_cases eb : f b = n
        · rw [if_neg ea, if_pos eb] at e
          exact absurd e h3
        · rw [if_neg ea, if_neg eb] at e
          exact e
/-- in a row of n that is a rearrangement, each number stands somewhere -/
theorem mq_onto {n : Nat} {f : Nat → Nat} (h : ∀ j, j < n → f j < n) (hi : ∀ a b, a < n → b < n → f a = f b → a = b) {b : Nat} (hb : b < n) : ∃ p, p < n ∧ f p = b := by
  by_cases hc : ∃ p, p < n ∧ f p = b
  · exact hc
  · have hne : ∀ j, j < n → f j ≠ b := fun j hj e => hc ⟨j, hj, e⟩
    obtain ⟨m, rfl⟩ : ∃ m, n = m + 1 := ⟨n - 1, by omega⟩
    obtain ⟨x, y, hxy, hy, e⟩ := mq_php m (fun j => if f j = m then b else f j) (fun j hj => by
      have h1 := h j hj
      have h2 := hne j hj
      show (if f j = m then b else f j) < m
      split <;> omega)
    have h1 := hne x (by omega)
    have h2 := hne y hy
    have : f x = f y := by
      by_cases ea : f x = m
      · by_cases eb : f y = m
        · rw [ea, eb]
        · rw [if_pos ea, if_neg eb] at e
          exact absurd e.symm h2
      · by_cases eb : f y = m
        · rw [if_neg ea, if_pos eb] at e
          exact absurd e h1
        · rw [if_neg ea, if_neg eb] at e
          exact e
    have := hi x y (by omega) hy this
    omega
section
variable {i : mMI} {l : mML} {D P M : mq_D} {R : Nat → Int32}
/-- whether an int is a set that may be tried: on both sides alike -/
theorem mq_isTry2 (L : Nat) (x : Int32) {D : mq_D} (hO : mq_Ok D) : (∃ s, s < 2 ^ D 0 0 ∧ x = nI s ∧ mq_try D s ∧ (∀ i l, mq_CD 2 3 4 5 6 7 i D → qf_Drawer_isTry_2 L x i l = some (1, i, l)) ∧ ∀ i l, mq_MD i D → qf_Mod_isTry L x i l = some (1, i, l)) ∨ ((∀ i l, mq_CD 2 3 4 5 6 7 i D → qf_Drawer_isTry_2 L x i l = some (0, i, l)) ∧ ∀ i l, mq_MD i D → qf_Mod_isTry L x i l = some (0, i, l)) := by
  by_cases h : x >>> (nI (D 0 0) &&& 31) = 0
  · obtain ⟨s, hs, hx⟩ := (mq_set hO.1.2).mp h
    subst hx
    by_cases ht : mq_try D s
    · exact Or.inl ⟨s, hs, rfl, ht, fun i l hC => (qs_Drawer_isTry_2 L i l hC hO hs).1 ht, fun i l hM => (qs_Mod_isTry L i l hM hO hs).1 ht⟩
    · exact Or.inr ⟨fun i l hC => (qs_Drawer_isTry_2 L i l hC hO hs).2 ht, fun i l hM => (qs_Mod_isTry L i l hM hO hs).2 ht⟩
  · exact Or.inr ⟨fun i l hC => qs_Drawer_isTry_no L x i l hC h, fun i l hM => qs_Mod_isTry_no L x i l hM hO h⟩
theorem qp_would (L : Nat) (x : Int32) (hC : mq_RC i D P M R) (hM : mq_RM i D P M R) (hO : mq_OkS D P M) : mq_P (fun i l => qf_Two_would L x i l) (fun i l => qf_Mod_would L x i l) i l := by
  have hp := mq_pow hO.1.1.2
  have h5 := hO.1.2.2.2.2.2.2.2.1
  rcases mq_isTry2 L x hO.1 with ⟨s, hs, hx, ht, g1, g2⟩ | ⟨g1, g2⟩
  · subst hx
    refine mq_P_same (r := nI (mq_tells (D 7 0) s (D 4 0))) hC hM hO (qe_Two_would L _ i l _ ?_) (fun i0 h0 => qe_Mod_would L _ i0 l _ ?_)
    · simp only [g1 i l hC.1, Option.bind_some, mq_10, ↓reduceIte, hC.1.2.1, qs_Drawer_tells_2 L i l hC.1.2.2.2.2.1 h5 (show s < 1024 by omega)]
    · simp only [g2 i0 l h0.1, Option.bind_some, mq_10, ↓reduceIte, h0.1.2.1, qs_Mod_tells L i0 l h0.1.2.2.2.2.1 h5 (show s < 1024 by omega)]
  · refine mq_P_ref (r := -1) hC hM hO 1 (qe_Two_would L x i l _ ?_) (fun i0 h0 => qe_Mod_would L x i0 l _ ?_)
    · simp only [g1 i l hC.1, Option.bind_some, ↓reduceIte, qs_refuse L i l mq_r1 (show 1 < 7 by omega)]
    · simp only [g2 i0 l h0.1, Option.bind_some, ↓reduceIte, qs_no L i0 l mq_r1 (show 1 < 7 by omega)]
theorem qs_write_2 (L : Nat) (s t : Nat) {D : mq_D} (hC : mq_CD 2 3 4 5 6 7 i D) (h9 : D 9 0 < 10) : qf_Drawer_write_2 L (nI s) (nI t) i l = some (mj_up (mj_up (mj_up i 6 (D 9 0) (nI s)) 7 (D 9 0) (nI t)) 2 9 (nI (D 9 0 + 1)), l) := by
  have e9 := hC.2.2.2.2.2.2.1
  refine qe_Drawer_write_2 L _ _ i l _ ?_
  simp only [e9, qs_Two_store_6 L _ i l h9, Option.bind_some, mq_upn (show 2 ≠ 6 by omega), mq_upn (show 2 ≠ 7 by omega), qs_Two_store_7 L _ _ l h9, nI_1]
theorem qs_books (L : Nat) (s t : Nat) {D : mq_D} (hM : mq_MD i D) (h9 : D 9 0 < 10) : qf_Mod_books L (nI s) (nI t) i l = some (mj_up (mj_up (mj_up i 47 (D 9 0) (nI s)) 48 (D 9 0) (nI t)) 42 12 (nI (D 9 0 + 1)), l) := by
  have e9 := hM.2.2.2.2.2.2.1
  refine qe_Mod_books L _ _ i l _ ?_
  simp only [e9, if_neg (nI_in h9 (show 10 < 2 ^ 31 by omega)), nI_1]
  simp only [nI_clamp (show D 9 0 < 2 ^ 31 by omega)]
theorem qp_tries (L : Nat) (x : Int32) (hC : mq_RC i D P M R) (hM : mq_RM i D P M R) (hO : mq_OkS D P M) : mq_P (fun i l => qf_Two_tries L x i l) (fun i l => qf_Mod_tries L x i l) i l := by
  have hp := mq_pow hO.1.1.2
  have h5 := hO.1.2.2.2.2.2.2.2.1
  have h10 := hO.1.2.2.2.2.2.2.2.2.2.1
  have e9 := hC.1.2.2.2.2.2.2.1
  rcases mq_isTry2 L x hO.1 with ⟨s, hs, hx, ht, g1, g2⟩ | ⟨g1, g2⟩
  · subst hx
    by_cases hf : D 9 0 = 10
    · have c1 : ¬ nI (D 9 0) < (10 : Int32) := by rw [hf]; decide
      have c2 : nI (D 9 0) = (10 : Int32) := by rw [hf]; rfl
      refine mq_P_ref (r := -6) hC hM hO 6 (qe_Two_tries L _ i l _ ?_) (fun i0 h0 => qe_Mod_tries L _ i0 l _ ?_)
      · simp only [g1 i l hC.1, Option.bind_some, mq_10, ↓reduceIte, e9, c1, qs_refuse L i l mq_r6 (show 6 < 7 by omega)]
      · simp only [g2 i0 l h0.1, Option.bind_some, mq_10, ↓reduceIte, h0.1.2.2.2.2.2.2.1, c2, mq_n6, qs_no L i0 l mq_r6 (show 6 < 7 by omega)]
    · have hlt : D 9 0 < 10 := by omega
      have c1 : nI (D 9 0) < (10 : Int32) := nI_lt (b := 10) hlt (by omega)
      have c2 : ¬ nI (D 9 0) = (10 : Int32) := fun q => hf ((nI_eq (b := 10) (by omega) (by omega)).mp q)
      refine mq_P_D (D' := mq_book D s (mq_tells (D 7 0) s (D 4 0))) (r := nI (mq_tells (D 7 0) s (D 4 0))) (i1 := mj_up (mj_up (mj_up i 6 (D 9 0) (nI s)) 7 (D 9 0) (nI (mq_tells (D 7 0) s (D 4 0)))) 2 9 (nI (D 9 0 + 1))) (l1 := l) hC hM hO (qe_Two_tries L _ i l _ ?_) (mq_Ck_book hC.1) (fun k h => (mq_upn (by omega)).trans ((mq_upn (by omega)).trans (mq_upn (by omega)))) (mq_Ok_book hO.1 hlt (by omega) (by have := mq_tells8 (D 7 0) (D 4 0) (show s < 256 by omega); omega)) (fun i0 h0 => ⟨mj_up (mj_up (mj_up i0 47 (D 9 0) (nI s)) 48 (D 9 0) (nI (mq_tells (D 7 0) s (D 4 0)))) 42 12 (nI (D 9 0 + 1)), l, qe_Mod_tries L _ i0 l _ ?_, mq_Mk_book h0.1, fun k h => (mq_upn (by omega)).trans ((mq_upn (by omega)).trans (mq_upn (by omega))), fun j h => ?_, fun k h => (mq_upn (by omega)).trans ((mq_upn (by omega)).trans (mq_upn (by omega)))⟩)
      · simp only [g1 i l hC.1, Option.bind_some, mq_10, ↓reduceIte, e9, c1, hC.1.2.1, qs_Drawer_tells_2 L i l hC.1.2.2.2.2.1 h5 (show s < 1024 by omega), qs_write_2 L _ _ hC.1 hlt]
      · simp only [g2 i0 l h0.1, Option.bind_some, mq_10, ↓reduceIte, h0.1.2.2.2.2.2.2.1, c2, h0.1.2.1, qs_Mod_tells L i0 l h0.1.2.2.2.2.1 h5 (show s < 1024 by omega), qs_books L _ _ h0.1 hlt]
        simp only [mq_upi_at, ↓reduceIte, nI_pred, mq_upn (show 48 ≠ 42 by omega)]
        rw [if_neg (nI_in hlt (by omega)), nI_clamp (by omega), if_pos rfl]
      · rw [mq_upi_at, if_neg (by omega), mq_upn (by omega), mq_upn (by omega)]
  · refine mq_P_ref (r := -1) hC hM hO 1 (qe_Two_tries L x i l _ ?_) (fun i0 h0 => qe_Mod_tries L x i0 l _ ?_)
    · simp only [g1 i l hC.1, Option.bind_some, ↓reduceIte, qs_refuse L i l mq_r1 (show 1 < 7 by omega)]
    · simp only [g2 i0 l h0.1, Option.bind_some, ↓reduceIte, mq_n1, qs_no L i0 l mq_r1 (show 1 < 7 by omega)]
theorem qp_book (L : Nat) (x : Int32) (hC : mq_RC i D P M R) (hM : mq_RM i D P M R) (hO : mq_OkS D P M) : mq_P (fun i l => qf_Two_book L x i l) (fun i l => qf_Mod_book L x i l) i l := by
  have h10 := hO.1.2.2.2.2.2.2.2.2.2.1
  have e9 := hC.1.2.2.2.2.2.2.1
  have em : (nI (D 9 0) - 1).toInt = (D 9 0 : Int) - 1 := pk_sub_toInt (a := D 9 0) (b := 1) (by omega) (by omega)
  by_cases h0 : x < 0
  · refine mq_P_ref (r := -1) hC hM hO 1 (qe_Two_book L x i l _ ?_) (fun i0 h => qe_Mod_book L x i0 l _ ?_)
    · simp only [h0, Option.bind_some, ↓reduceIte, qs_refuse L i l mq_r1 (show 1 < 7 by omega)]
    · simp only [qs_isIn_lo L i0 l h0, Option.bind_some, ↓reduceIte, qs_no L i0 l mq_r1 (show 1 < 7 by omega)]
  · by_cases h1 : x < nI (D 9 0)
    · have hx0 : 0 ≤ x := by
        rw [Int32.lt_iff_toInt_lt] at h0
        rw [Int32.le_iff_toInt_le]
        omega
      obtain ⟨j, hj, hx⟩ := mq_batt ⟨hx0, h1⟩ (by omega)
      have c2 : ¬ nI (D 9 0) - 1 < x := by
        rw [Int32.lt_iff_toInt_lt, em, hx, nI_toInt (by omega)]
        omega
      have er : ∀ u v : Int32, u = nI (D 10 j) → v = nI (D 11 j) → (10 : Int32) * u + v = nI (10 * D 10 j + D 11 j) := by
        intro u v hu hv
        rw [hu, hv, show (10 : Int32) * nI (D 10 j) = nI (10 * D 10 j) from pk_mul 10 _, nI_add]
      subst hx
      refine mq_P_same (r := nI (10 * D 10 j + D 11 j)) hC hM hO (qe_Two_book L _ i l _ ?_) (fun i0 h => qe_Mod_book L _ i0 l _ ?_)
      · simp only [e9, h0, h1, Option.bind_some, ↓reduceIte, qs_Two_at_6 L i l (show j < 10 by omega), qs_Two_at_7 L i l (show j < 10 by omega), er _ _ (hC.1.2.2.2.2.2.2.2.2.2.2.1 j hj) (hC.1.2.2.2.2.2.2.2.2.2.2.2 j hj)]
      · simp only [h.1.2.2.2.2.2.2.1, qs_isIn_1 L i0 l h0 c2, Option.bind_some, mq_10, ↓reduceIte, if_neg (nI_in (show j < 10 by omega) (show 10 < 2 ^ 31 by omega))]
        simp only [nI_clamp (show j < 2 ^ 31 by omega), er _ _ (h.1.2.2.2.2.2.2.2.2.2.2.1 j hj) (h.1.2.2.2.2.2.2.2.2.2.2.2 j hj)]
    · have c2 : nI (D 9 0) - 1 < x := by
        rw [Int32.lt_iff_toInt_lt] at h1 ⊢
        rw [nI_toInt (by omega)] at h1
        rw [em]
        omega
      refine mq_P_ref (r := -1) hC hM hO 1 (qe_Two_book L x i l _ ?_) (fun i0 h => qe_Mod_book L x i0 l _ ?_)
      · simp only [e9, h0, h1, Option.bind_some, ↓reduceIte, qs_refuse L i l mq_r1 (show 1 < 7 by omega)]
      · simp only [h.1.2.2.2.2.2.2.1, qs_isIn_hi L i0 l h0 c2, Option.bind_some, ↓reduceIte, qs_no L i0 l mq_r1 (show 1 < 7 by omega)]
theorem qs_placeOf (L : Nat) {b p : Nat} {D : mq_D} (hC : mq_CD 2 3 4 5 6 7 i D) (hO : mq_Ok D) (hp : p < D 0 0) (e : D 3 p = b) : qf_Drawer_placeOf_2 L (nI b) i l = some (nI p, i, l) := by
  have hn := hO.1.2
  obtain ⟨hr, hi⟩ := hO.2.2.2.1
  have loop : ∀ (m k : Nat), k + m = p → qf_Drawer_placeOf_2_p2 L (nI b) (nI k) i l = some (nI p, i, l) := by
    intro m
    induction m with
    | zero =>
      intro k hk
      have hk : k = p := hk
      subst hk
      refine qe_Drawer_placeOf_2_p2 L _ _ i l _ ?_
      rw [hC.1, if_neg (nI_ge hp (by omega))]
      simp only [qs_Two_at_5 L i l (show k < 8 by omega), Option.bind_some, hC.2.2.2.2.2.2.2.2.2.1 k (by omega), e, ↓reduceIte]
    | succ m ih =>
      intro k hk
      have hne : ¬ nI (D 3 k) = nI b := by
        have h1 := hr k (by omega)
        have h2 := hr p hp
        intro q
        have q2 := (nI_eq (by omega) (by omega)).mp q
        have := hi k p (by omega) hp (by rw [q2, e])
        omega
      refine qe_Drawer_placeOf_2_p2 L _ _ i l _ ?_
      rw [hC.1, if_neg (nI_ge (show k < D 0 0 by omega) (by omega))]
      simp only [qs_Two_at_5 L i l (show k < 8 by omega), Option.bind_some, hC.2.2.2.2.2.2.2.2.2.1 k (by omega), hne, ↓reduceIte, nI_1]
      exact ih (k + 1) (by omega)
  exact qe_Drawer_placeOf_2 L _ i l _ (loop p 0 (by omega))
theorem qs_Mod_placeOf (L : Nat) {b p : Nat} {D : mq_D} (hM : mq_MD i D) (hO : mq_Ok D) (hp : p < D 0 0) (e : D 3 p = b) : qf_Mod_placeOf L (nI b) i l = some (nI p, i, l) := by
  have hn := hO.1.2
  obtain ⟨hr, hi⟩ := hO.2.2.2.1
  have loop : ∀ (m k : Nat), k + m = p → qf_Mod_placeOf_p2 L (nI b) (nI k) i l = some (nI p, i, l) := by
    intro m
    induction m with
    | zero =>
      intro k hk
      have hk : k = p := hk
      subst hk
      refine qe_Mod_placeOf_p2 L _ _ i l _ ?_
      rw [if_neg (nI_in (show k < 8 by omega) (by omega)), nI_clamp (by omega)]
      simp only [hM.2.2.2.2.2.2.2.2.2.1 k (by omega), e, ↓reduceIte]
    | succ m ih =>
      intro k hk
      have hne : ¬ nI (D 3 k) = nI b := by
        have h1 := hr k (by omega)
        have h2 := hr p hp
        intro q
        have q2 := (nI_eq (by omega) (by omega)).mp q
        have := hi k p (by omega) hp (by rw [q2, e])
        omega
      refine qe_Mod_placeOf_p2 L _ _ i l _ ?_
      rw [if_neg (nI_in (show k < 8 by omega) (by omega)), nI_clamp (by omega)]
      simp only [hM.2.2.2.2.2.2.2.2.2.1 k (by omega), hne, ↓reduceIte, nI_1]
      exact ih (k + 1) (by omega)
  exact qe_Mod_placeOf L _ i l _ (loop p 0 (by omega))
theorem qp_battery (L : Nat) (x y : Int32) (hC : mq_RC i D P M R) (hM : mq_RM i D P M R) (hO : mq_OkS D P M) : mq_P (fun i l => qf_Two_battery L x y i l) (fun i l => qf_Mod_battery L x y i l) i l := by
  have hn := hO.1.1.2
  have hp := mq_pow hO.1.1.2
  have h4 := hO.1.2.2.2.2.1
  by_cases hb : 0 ≤ x ∧ x < nI (D 0 0)
  · obtain ⟨b, hb2, hx⟩ := mq_batt hb (by omega)
    have hb8 : b < 8 := by omega
    have hhas := qs_Drawer_has_2 L x i l hC.1 hO.1
    have hisb : ∀ i0, mq_RM i0 D P M R → qf_Mod_isBattery L x i0 l = some (mq_tf (0 ≤ x ∧ x < nI (D 0 0)), i0, l) := fun i0 h0 => qs_Mod_isBattery L x i0 l h0.1
    simp only [mq_tf_is hb] at hhas hisb
    subst hx
    have hin : ∀ e : Option (Int32 × mMI × mML), (if nI b < 0 ∨ 8 ≤ Int32.toNatClampNeg (nI b) then none else e) = e := fun e => if_neg (nI_in hb8 (show 8 < 2 ^ 31 by omega))
    by_cases y0 : y = 0
    · refine mq_P_same (r := nI (D 1 b)) hC hM hO (qe_Two_battery L _ y i l _ ?_) (fun i0 h => qe_Mod_battery L _ y i0 l _ ?_)
      · simp only [hhas, Option.bind_some, mq_10, ↓reduceIte, y0, qs_Two_at_3 L i l hb8, hC.1.2.2.2.2.2.2.2.1 b hb8]
      · simp only [hisb i0 h, Option.bind_some, mq_10, ↓reduceIte, y0]
        rw [hin]
        simp only [nI_clamp (show b < 2 ^ 31 by omega), h.1.2.2.2.2.2.2.2.1 b hb8]
    · by_cases y1 : y = 1
      · refine mq_P_same (r := nI (D 2 b)) hC hM hO (qe_Two_battery L _ y i l _ ?_) (fun i0 h => qe_Mod_battery L _ y i0 l _ ?_)
        · simp only [hhas, Option.bind_some, mq_10, ↓reduceIte, y1, qs_Two_at_4 L i l hb8, hC.1.2.2.2.2.2.2.2.2.1 b hb8]
        · simp only [hisb i0 h, Option.bind_some, mq_10, ↓reduceIte, y1]
          rw [hin]
          simp only [nI_clamp (show b < 2 ^ 31 by omega), h.1.2.2.2.2.2.2.2.2.1 b hb8]
      · by_cases y2 : y = 2
        · refine mq_P_same (r := nI (mq_ten (D 1 b) (D 2 b))) hC hM hO (qe_Two_battery L _ y i l _ ?_) (fun i0 h => qe_Mod_battery L _ y i0 l _ ?_)
          · simp only [hhas, Option.bind_some, mq_10, ↓reduceIte, y0, y1, qs_Drawer_tenths_2 L i l hC.1 hO.1 hb8]
            rw [if_pos y2]
          · simp only [hisb i0 h, Option.bind_some, mq_10, ↓reduceIte, y0, y1, qs_Mod_tenthsOf L i0 l h.1 hO.1 hb8]
            rw [if_pos y2]
        · by_cases y3 : y = 3
          · refine mq_P_same (r := nI (D 4 0 / 2 ^ b % 2)) hC hM hO (qe_Two_battery L _ y i l _ ?_) (fun i0 h => qe_Mod_battery L _ y i0 l _ ?_)
            · simp only [hhas, Option.bind_some, mq_10, ↓reduceIte, y0, y1, y2, hC.1.2.1]
              rw [if_pos y3, mq_bit (by omega) (by omega)]
            · simp only [hisb i0 h, Option.bind_some, mq_10, ↓reduceIte, y0, y1, y2, h.1.2.1]
              rw [if_pos y3, mq_bit (by omega) (by omega)]
          · by_cases y4 : y = 4
            · obtain ⟨p, hpp, e⟩ := mq_onto hO.1.2.2.2.1.1 hO.1.2.2.2.1.2 hb2
              refine mq_P_same (r := nI p) hC hM hO (qe_Two_battery L _ y i l _ ?_) (fun i0 h => qe_Mod_battery L _ y i0 l _ ?_)
              · simp only [hhas, Option.bind_some, mq_10, ↓reduceIte, y0, y1, y2, y3, qs_placeOf L hC.1 hO.1 hpp e]
                rw [if_pos y4]
              · simp only [hisb i0 h, Option.bind_some, mq_10, ↓reduceIte, y0, y1, y2, y3, qs_Mod_placeOf L h.1 hO.1 hpp e]
                rw [if_pos y4]
            · refine mq_P_ref (r := -2) hC hM hO 2 (qe_Two_battery L _ y i l _ ?_) (fun i0 h => qe_Mod_battery L _ y i0 l _ ?_)
              · simp only [hhas, Option.bind_some, mq_10, ↓reduceIte, y0, y1, y2, y3, y4, qs_refuse L i l mq_r2 (show 2 < 7 by omega)]
              · simp only [hisb i0 h, Option.bind_some, mq_10, ↓reduceIte, y0, y1, y2, y3, y4, qs_no L i0 l mq_r2 (show 2 < 7 by omega)]
  · refine mq_P_ref (r := -1) hC hM hO 1 (qe_Two_battery L x y i l _ ?_) (fun i0 h0 => qe_Mod_battery L x y i0 l _ ?_)
    · simp only [qs_Drawer_has_2 L x i l hC.1 hO.1, mq_tf_no hb, Option.bind_some, ↓reduceIte, qs_refuse L i l mq_r1 (show 1 < 7 by omega)]
    · simp only [qs_Mod_isBattery L x i0 l h0.1, mq_tf_no hb, Option.bind_some, ↓reduceIte, qs_no L i0 l mq_r1 (show 1 < 7 by omega)]
end
