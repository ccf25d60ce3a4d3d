/-! Tenths, places, refusals, the book. -/
def mq_ten (k f : Nat) : Nat := if k = 1 then 3 else if k = 2 then 8 else if k = 3 then 1 else if k = 4 then 8 + f % 2 else if k = 5 then 3 + f / 3 else 5
theorem mq_ten_in {k f : Nat} (hf : f ≤ 9) : 1 ≤ mq_ten k f ∧ mq_ten k f ≤ 9 := by
  unfold mq_ten
  repeat' split
  all_goals omega
theorem qs_Drawer_tenths_2 (L : Nat) {b : Nat} (i : mMI) (l : mML) {D : mq_D} (hC : mq_CD 2 3 4 5 6 7 i D) (hO : mq_Ok D) (hb : b < 8) : qf_Drawer_tenths_2 L (nI b) i l = some (nI (mq_ten (D 1 b) (D 2 b)), i, l) := by
  refine qe_Drawer_tenths_2 L _ i l _ ?_
  rw [qs_Two_at_4 L i l hb, Option.bind_some, qs_Two_at_3 L i l hb, Option.bind_some]
  simp only [hC.2.2.2.2.2.2.2.1 b hb, hC.2.2.2.2.2.2.2.2.1 b hb]
  have hk := hO.2.1 b hb
  have hf := hO.2.2.1 b hb
  generalize D 1 b = k at hk ⊢
  generalize D 2 b = f at hf ⊢
  have h2 : nI f - nI f / (2 : Int32) * (2 : Int32) = nI (f % 2) := pk_rem (d := 2) (by omega) (by omega) (by omega)
  have h3 : nI f / (3 : Int32) = nI (f / 3) := pk_div (d := 3) (by omega) (by omega) (by omega)
  have e1 : (5 : Int32) - 2 - 2 = nI 1 := by decide
  have e3 : (5 : Int32) - 2 = nI 3 := by decide
  have e8 : (5 : Int32) + 3 = nI 8 := by decide
  rw [h2, h3, e1, e3, e8]
  match k, hk with
  | 0, _ => rfl
  | 1, _ => rfl
  | 2, _ => rfl
  | 3, _ => rfl
  | 4, _ =>
    show some (nI 8 + nI (f % 2), i, l) = _
    rw [nI_add]
    rfl
  | 5, _ =>
    show some (nI 3 + nI (f / 3), i, l) = _
    rw [nI_add]
    rfl
  | k + 6, h => exact absurd h (by omega)
theorem qs_Mod_tenthsOf (L : Nat) {b : Nat} (i : mMI) (l : mML) {D : mq_D} (hM : mq_MD i D) (hO : mq_Ok D) (hb : b < 8) : qf_Mod_tenthsOf L (nI b) i l = some (nI (mq_ten (D 1 b) (D 2 b)), i, l) := by
  refine qe_Mod_tenthsOf L _ i l _ ?_
  simp only [if_neg (nI_in hb (show 8 < 2 ^ 31 by omega))]
  simp only [nI_clamp (show b < 2 ^ 31 by omega), hM.2.2.2.2.2.2.2.1 b hb, hM.2.2.2.2.2.2.2.2.1 b hb]
  have hk := hO.2.1 b hb
  have hf := hO.2.2.1 b hb
  generalize D 1 b = k at hk ⊢
  generalize D 2 b = f at hf ⊢
  have h2 : nI f - nI f / (2 : Int32) * (2 : Int32) = nI (f % 2) := pk_rem (d := 2) (by omega) (by omega) (by omega)
  have h3 : nI f / (3 : Int32) = nI (f / 3) := pk_div (d := 3) (by omega) (by omega) (by omega)
  rw [h2, h3]
  match k, hk with
  | 0, _ => rfl
  | 1, _ => rfl
  | 2, _ => rfl
  | 3, _ => rfl
  | 4, _ =>
    show some (nI 8 + nI (f % 2), i, l) = _
    rw [nI_add]
    rfl
  | 5, _ =>
    show some (nI 3 + nI (f / 3), i, l) = _
    rw [nI_add]
    rfl
  | k + 6, h => exact absurd h (by omega)
theorem mq_in {c N : Nat} (h : c < N) (hN : N < 2 ^ 31) : ¬ (nI c < 0 ∨ N ≤ c) := fun q => q.elim (fun z => nI_pos (by omega) z) (fun z => by omega)
/-- a refusal is counted -/
def mq_ref (c : Nat) (i : mMI) (k : Nat) : mMI := mj_up i c k (i c k + 1)
theorem qs_refuse (L : Nat) {k : Nat} {x : Int32} (i : mMI) (l : mML) (hx : -x = nI k) (hk : k < 7) : qf_Two_refuse L x i l = some (x, mq_ref 23 i k, l) := by
  refine qe_Two_refuse L x i l _ ?_
  rw [hx, qs_Two_at_23 L i l hk, Option.bind_some, qs_Two_store_23 L _ _ _ hk, Option.bind_some]
  rfl
theorem qs_no (L : Nat) {k : Nat} {x : Int32} (i : mMI) (l : mML) (hx : -x = nI k) (hk : k < 7) : qf_Mod_no L x i l = some (x, mq_ref 43 i k, l) := by
  refine qe_Mod_no L x i l _ ?_
  rw [hx, if_neg (nI_in hk (by omega)), if_neg (nI_in hk (by omega)), nI_clamp (by omega)]
  rfl
theorem qs_refuseLong (L : Nat) {k : Nat} {x : Int32} (i : mMI) (l : mML) (hx : -x = nI k) (hk : k < 7) : qf_Two_refuseLong L x i l = some ((4000000000000000000 : Int64) - x.toInt64, mq_ref 23 i k, l) := by
  refine qe_Two_refuseLong L x i l _ ?_
  rw [qs_refuse L i l hx hk, Option.bind_some]
theorem qs_lowest (L : Nat) {k : Nat} {x : Int32} (i : mMI) (l : mML) (hx : -x = nI k) (hk : k < 7) : qf_Mod_lowest L x i l = some ((4000000000000000000 : Int64) - x.toInt64, mq_ref 43 i k, l) := by
  refine qe_Mod_lowest L x i l _ ?_
  rw [hx, if_neg (nI_in hk (by omega)), if_neg (nI_in hk (by omega)), nI_clamp (by omega)]
  rfl
/-- whether the first t tries of the book are as a world would have it -/
def mq_agree (D : mq_D) (w : Nat) (t : Nat) : Prop := ∀ j, j < t → mq_tells (D 7 0) (D 10 j) w = D 11 j
theorem mq_tells_le (k s w : Nat) : mq_tells k s w ≤ 31 := by
  have h1 := mq_pop_le (s &&& w)
  unfold mq_tells
  repeat' split
  all_goals omega
theorem qs_bookAgrees (L : Nat) {w : Nat} (i : mMI) (l : mML) {D : mq_D} (hC : mq_CD 2 3 4 5 6 7 i D) (hO : mq_Ok D) : (mq_agree D w (D 9 0) → qf_Drawer_bookAgrees_2 L (nI w) i l = some (1, i, l)) ∧ (¬ mq_agree D w (D 9 0) → qf_Drawer_bookAgrees_2 L (nI w) i l = some (0, i, l)) := by
  have h10 := hO.2.2.2.2.2.2.2.2.2.1
  have loop : ∀ (m t : Nat), t + m = D 9 0 → mq_agree D w t → (mq_agree D w (D 9 0) → qf_Drawer_bookAgrees_2_p2 L (nI w) (nI t) i l = some (1, i, l)) ∧ (¬ mq_agree D w (D 9 0) → qf_Drawer_bookAgrees_2_p2 L (nI w) (nI t) i l = some (0, i, l)) := by
    intro m
    induction m with
    | zero =>
      intro t ht ha
      have ht : t = D 9 0 := ht
      subst ht
      refine ⟨fun _ => ?_, fun h => absurd ha h⟩
      refine qe_Drawer_bookAgrees_2_p2 L _ _ i l _ ?_
      rw [hC.2.2.2.2.2.2.1, if_pos (nI_le (Nat.le_refl _) (by omega))]
    | succ m ih =>
      intro t ht ha
      have hlt : t < D 9 0 := by omega
      obtain ⟨hs, ho⟩ := hO.2.2.2.2.2.2.2.2.2.2 t hlt
      have h5 := hO.2.2.2.2.2.2.2.1
      have hle := mq_tells_le (D 7 0) (D 10 t) w
      have heq : nI (mq_tells (D 7 0) (D 10 t) w) = nI (D 11 t) ↔ mq_tells (D 7 0) (D 10 t) w = D 11 t := nI_eq (by omega) (by omega)
      have step : qf_Drawer_bookAgrees_2_p2 L (nI w) (nI t) i l = (if nI (mq_tells (D 7 0) (D 10 t) w) = nI (D 11 t) then qf_Drawer_bookAgrees_2_p2 L (nI w) (nI (t + 1)) i l else some (0, i, l)) → True := fun _ => trivial
      have go : ∀ r, (if nI (mq_tells (D 7 0) (D 10 t) w) = nI (D 11 t) then qf_Drawer_bookAgrees_2_p2 L (nI w) (nI (t + 1)) i l else some (0, i, l)) = some r → qf_Drawer_bookAgrees_2_p2 L (nI w) (nI t) i l = some r := by
        intro r hr
        refine qe_Drawer_bookAgrees_2_p2 L _ _ i l _ ?_
        rw [hC.2.2.2.2.2.2.1, if_neg (nI_ge hlt (by omega)), qs_Two_at_6 L i l (by omega), Option.bind_some]
        simp only [hC.2.2.2.2.2.2.2.2.2.2.1 t hlt]
        rw [qs_Drawer_tells_2 L i l hC.2.2.2.2.1 h5 (by omega), Option.bind_some, qs_Two_at_7 L i l (by omega), Option.bind_some]
        simp only [hC.2.2.2.2.2.2.2.2.2.2.2 t hlt]
        rw [nI_1]
        exact hr
      by_cases he : mq_tells (D 7 0) (D 10 t) w = D 11 t
      · have ha2 : mq_agree D w (t + 1) := fun j hj => by
          by_cases e : j = t
          · subst e; exact he
          · exact ha j (by omega)
        obtain ⟨g1, g2⟩ := ih (t + 1) (by omega) ha2
        exact ⟨fun h => go _ (by rw [if_pos (heq.mpr he)]; exact g1 h), fun h => go _ (by rw [if_pos (heq.mpr he)]; exact g2 h)⟩
      · exact ⟨fun h => absurd (h t hlt) he, fun h => go _ (by rw [if_neg (fun q => he (heq.mp q))])⟩
  have h0 := loop (D 9 0) 0 (by omega) (fun j hj => absurd hj (by omega))
  exact ⟨fun h => qe_Drawer_bookAgrees_2 L _ i l _ (h0.1 h), fun h => qe_Drawer_bookAgrees_2 L _ i l _ (h0.2 h)⟩
theorem qs_isBooked (L : Nat) {w : Nat} (i : mMI) (l : mML) {D : mq_D} (hM : mq_MD i D) (hO : mq_Ok D) : (mq_agree D w (D 9 0) → qf_Mod_isBooked L (nI w) i l = some (1, i, l)) ∧ (¬ mq_agree D w (D 9 0) → qf_Mod_isBooked L (nI w) i l = some (0, i, l)) := by
  have h10 := hO.2.2.2.2.2.2.2.2.2.1
  have loop : ∀ (m t : Nat), t + m = D 9 0 → mq_agree D w t → (mq_agree D w (D 9 0) → qf_Mod_isBooked_p2 L (nI w) (nI t) i l = some (1, i, l)) ∧ (¬ mq_agree D w (D 9 0) → qf_Mod_isBooked_p2 L (nI w) (nI t) i l = some (0, i, l)) := by
    intro m
    induction m with
    | zero =>
      intro t ht ha
      have ht : t = D 9 0 := ht
      subst ht
      refine ⟨fun _ => ?_, fun h => absurd ha h⟩
      refine qe_Mod_isBooked_p2 L _ _ i l _ ?_
      rw [hM.2.2.2.2.2.2.1, if_pos (nI_le (Nat.le_refl _) (by omega))]
    | succ m ih =>
      intro t ht ha
      have hlt : t < D 9 0 := by omega
      obtain ⟨hs, ho⟩ := hO.2.2.2.2.2.2.2.2.2.2 t hlt
      have h5 := hO.2.2.2.2.2.2.2.1
      have hle := mq_tells_le (D 7 0) (D 10 t) w
      have heq : nI (mq_tells (D 7 0) (D 10 t) w) = nI (D 11 t) ↔ mq_tells (D 7 0) (D 10 t) w = D 11 t := nI_eq (by omega) (by omega)
      have go : ∀ r, (if nI (mq_tells (D 7 0) (D 10 t) w) = nI (D 11 t) then qf_Mod_isBooked_p2 L (nI w) (nI (t + 1)) i l else some (0, i, l)) = some r → qf_Mod_isBooked_p2 L (nI w) (nI t) i l = some r := by
        intro r hr
        refine qe_Mod_isBooked_p2 L _ _ i l _ ?_
        rw [hM.2.2.2.2.2.2.1, if_neg (nI_ge hlt (by omega)), if_neg (nI_in (show t < 10 by omega) (by omega)), nI_clamp (by omega), hM.2.2.2.2.2.2.2.2.2.2.1 t hlt, qs_Mod_tells L i l hM.2.2.2.2.1 h5 (by omega), Option.bind_some]
        simp only [hM.2.2.2.2.2.2.2.2.2.2.2 t hlt]
        rw [if_neg (mq_in (show t < 10 by omega) (by omega)), nI_1]
        exact hr
      by_cases he : mq_tells (D 7 0) (D 10 t) w = D 11 t
      · have ha2 : mq_agree D w (t + 1) := fun j hj => by
          by_cases e : j = t
          · subst e; exact he
          · exact ha j (by omega)
        obtain ⟨g1, g2⟩ := ih (t + 1) (by omega) ha2
        exact ⟨fun h => go _ (by rw [if_pos (heq.mpr he)]; exact g1 h), fun h => go _ (by rw [if_pos (heq.mpr he)]; exact g2 h)⟩
      · exact ⟨fun h => absurd (h t hlt) he, fun h => go _ (by rw [if_neg (fun q => he (heq.mp q))])⟩
  have h0 := loop (D 9 0) 0 (by omega) (fun j hj => absurd hj (by omega))
  exact ⟨fun h => qe_Mod_isBooked L _ i l _ (h0.1 h), fun h => qe_Mod_isBooked L _ i l _ (h0.2 h)⟩
