/-! The fewest tries: the model. -/
def mw_got (lit : Nat → Nat → Bool) (m k a : Nat) (Y A : Nat → Bool) : Prop := mw_cov lit m a Y A ∧ mq_ct A m = k ∧ ∀ B, mw_cov lit m a Y B → mq_ct B m = k → mw_fst A B
def mw_not (lit : Nat → Nat → Bool) (m k a : Nat) (Y : Nat → Bool) : Prop := ∀ B, mw_cov lit m a Y B → mq_ct B m ≠ k
section
variable {lit : Nat → Nat → Bool} {m : Nat}
theorem mw_got_with {k a : Nat} {Y Z G : Nat → Bool} (ha : a < m) (hz : ∀ w, w < 64 → Z w = (Y w && !lit a w)) (h : mw_got lit m k (a + 1) Z G) : mw_got lit m (k + 1) a Y (mw_ad G a) := by
  obtain ⟨h1, h2, h3⟩ := h
  have hG : ∀ j, G j = true → a < j := fun j hj => (h1.1 j hj).1
  have hGa : G a = false := by
    cases e : G a
    · rfl
    · have := hG a e; omega
  refine ⟨mw_cov_with ha h1 hz, by rw [mw_ad_ct ha hGa, h2], fun A hA hk => ?_⟩
  by_cases e : A a = true
  · have hc := mw_rm_ct ha e
    exact mw_fst_with hG e (fun j hj => (hA.1 j hj).1) (h3 _ (mw_cov_rest hA hz) (by omega))
  · exact mw_fst_now hG (by cases h : A a; exact rfl; exact absurd h e) fun j hj => (hA.1 j hj).1
theorem mw_got_next {k a : Nat} {Y Z G : Nat → Bool} (ha : a < m) (hz : ∀ w, w < 64 → Z w = (Y w && !lit a w)) (hn : mw_not lit m k (a + 1) Z) (h : mw_got lit m (k + 1) (a + 1) Y G) : mw_got lit m (k + 1) a Y G := by
  obtain ⟨h1, h2, h3⟩ := h
  refine ⟨mw_cov_down h1 (by omega), h2, fun A hA hk => ?_⟩
  by_cases e : A a = true
  · have h4 := hn _ (mw_cov_rest hA hz)
    have := mw_rm_ct ha e
    omega
  · exact h3 A (mw_cov_up hA e) hk
theorem mw_not_next {k a : Nat} {Y Z : Nat → Bool} (ha : a < m) (hz : ∀ w, w < 64 → Z w = (Y w && !lit a w)) (hn : mw_not lit m k (a + 1) Z) (h : mw_not lit m (k + 1) (a + 1) Y) : mw_not lit m (k + 1) a Y := by
  intro A hA
  by_cases e : A a = true
  · have h4 := hn _ (mw_cov_rest hA hz)
    have := mw_rm_ct ha e
    omega
  · exact h A (mw_cov_up hA e)
theorem mw_got_0 {a : Nat} {Y : Nat → Bool} (h : ∀ w, w < 64 → Y w = false) : mw_got lit m 0 a Y (fun _ => false) := by
  refine ⟨⟨fun j hj => (by cases hj), fun w hw hy => by rw [h w hw] at hy; cases hy⟩, mq_ct_none fun _ _ => rfl, fun A hA hk => Or.inl fun j => ?_⟩
  cases e : A j
  · rfl
  · have := mq_ct_0 hk j (hA.1 j e).2
    rw [e] at this
    cases this
theorem mw_not_0 {a : Nat} {Y : Nat → Bool} (h : ¬ ∀ w, w < 64 → Y w = false) : mw_not lit m 0 a Y := fun A hA => Nat.ne_of_gt (mw_none_0 h A hA)
theorem mw_not_far {k c : Nat} {Y : Nat → Bool} (hc : c ≤ m) (h : m < c + k) : mw_not lit m k c Y := by
  intro A hA
  have e := mq_ct_shift A c (m - c)
  rw [show c + (m - c) = m by omega, mq_ct_none (P := A) (m := c) (fun j hj => by
    cases h2 : A j
    · rfl
    · have := hA.1 j h2; omega)] at e
  have := mq_ct_le (fun j => A (c + j)) (m - c)
  omega
/-- the model holds so many tries -/
def mw_R (lit : Nat → Nat → Bool) (m : Nat) (i : mMI) (l : mML) : Prop := i 42 34 = nI m ∧ m ≤ 20 ∧ ∀ j, j < m → ∀ w, w < 64 → mq_h (l 60 j) w = lit j w
theorem mw_R.congr {i i' : mMI} {l l' : mML} (h : mw_R lit m i l) (g : ∀ a, a ≠ 59 → i' a = i a) (g2 : ∀ a, a ≠ 61 → l' a = l a) : mw_R lit m i' l' := by
  unfold mw_R
  rw [g 42 (by omega), g2 60 (by omega)]
  exact h
theorem mw_upl {l : mML} {a k b : Nat} {v : Int64} (h : b ≠ a) : mj_up l a k v b = l b := by
  funext j
  simp [mj_up, h]
theorem mw_upl_at (l : mML) (a k j : Nat) (v : Int64) : mj_up l a k v a j = if j = k then v else l a j := by simp [mj_up]
theorem mw_dfs (L : Nat) {many : Nat} {y : Int64} {all : Nat → Bool} (hy : ∀ w, w < 64 → mq_h y w = all w) (hlit : ∀ j, j < m → ∀ w, w < 64 → lit j w = true → all w = true) (hmany : many ≤ m) : ∀ (k d : Nat), d + (k + 1) = many → ∀ (f c : Nat), c + f = m → ∀ (i : mMI) (l : mML), mw_R lit m i l → i 59 d + (1 : Int32) = nI c → (∀ w, w < 64 → mq_h (l 61 d) w = true → all w = true) →
    (∃ (A : Nat → Bool) (i' : mMI) (l' : mML), mw_got lit m (k + 1) c (fun w => all w && !mq_h (l 61 d) w) A ∧ qf_Mod_doSo_p33 L (nI many) y (nI d) i l = some (1, i', l') ∧ (∀ a, a ≠ 59 → i' a = i a) ∧ (∀ t, t < d → i' 59 t = i 59 t) ∧ ∀ j, A j = true → i' 59 (d + mq_ct A j) = nI j) ∨
    (mw_not lit m (k + 1) c (fun w => all w && !mq_h (l 61 d) w) ∧ ∃ (i' : mMI) (l' : mML), (∀ r, qf_Mod_doSo_p33 L (nI many) y (nI d - 1) i' l' = some r → qf_Mod_doSo_p33 L (nI many) y (nI d) i l = some r) ∧ (∀ a, a ≠ 59 → i' a = i a) ∧ (∀ t, t < d → i' 59 t = i 59 t) ∧ (∀ a, a ≠ 61 → l' a = l a) ∧ ∀ t, t ≤ d → l' 61 t = l 61 t) := by
  intro k
  induction k with
  | zero =>
    intro d hd f
    induction f with
    | zero =>
      intro c hc i l hR h59 hU
      have h20 := hR.2.1
      refine Or.inr ⟨mw_not_far (by omega) (by omega), mj_up i 59 d (nI c), l, fun r hr => qe_Mod_doSo_p33 L _ _ _ i l _ ?_, fun a ha => mq_upn ha, fun t ht => by rw [mq_upi_at, if_neg (by omega)], fun _ _ => rfl, fun _ _ => rfl⟩
      rw [nI_clamp (show d < 2 ^ 31 by omega), h59, hR.1, pk_sub hmany, nI_add, mq_upi_at, if_pos rfl, if_neg (nI_pos (by omega)), if_neg (mq_in (show d < 21 by omega) (by omega)), if_neg (mq_in (show d < 21 by omega) (by omega)), if_neg (mq_in (show d < 21 by omega) (by omega)), if_neg (nI_ge (by omega) (by omega)), show nI d + (-1 : Int32) = nI d - 1 from (Int32.sub_eq_add_neg (nI d) 1).symm]
      exact hr
    | succ f ih =>
      intro c hc i l hR h59 hU
      have h20 := hR.2.1
      have hcm : c < m := by omega
      have hz : ∀ w, w < 64 → (fun w => all w && !mq_h (l 61 d ||| l 60 c) w) w = ((fun w => all w && !mq_h (l 61 d) w) w && !lit c w) := fun w hw => by
        show (all w && !mq_h (l 61 d ||| l 60 c) w) = ((all w && !mq_h (l 61 d) w) && !lit c w)
        rw [mq_h_or, hR.2.2 c hcm w hw]
        cases all w <;> cases mq_h (l 61 d) w <;> cases lit c w <;> rfl
      have go : ∀ r, (if (lg_cmp (l 61 d ||| l 60 c) y : Int32) = (0 : Int32) then some ((1 : Int32), mj_up i 59 d (nI c), mj_up l 61 (d + 1) (l 61 d ||| l 60 c)) else qf_Mod_doSo_p33 L (nI many) y (nI d) (mj_up i 59 d (nI c)) (mj_up l 61 (d + 1) (l 61 d ||| l 60 c))) = some r → qf_Mod_doSo_p33 L (nI many) y (nI d) i l = some r := by
        intro r hr
        refine qe_Mod_doSo_p33 L _ _ _ i l _ ?_
        rw [nI_clamp (show d < 2 ^ 31 by omega), h59, hR.1, pk_sub hmany, nI_add, mq_upi_at, if_pos rfl, nI_clamp (show c < 2 ^ 31 by omega), nI_1, nI_clamp (show d + 1 < 2 ^ 31 by omega), if_neg (nI_pos (by omega)), if_neg (mq_in (show d < 21 by omega) (by omega)), if_neg (mq_in (show d < 21 by omega) (by omega)), if_neg (mq_in (show d < 21 by omega) (by omega)), if_pos (nI_le (by omega) (by omega)), if_neg (mq_in (show d < 22 by omega) (by omega)), if_neg (mq_in (show d < 21 by omega) (by omega)), if_neg (mq_in (show c < 20 by omega) (by omega)), if_neg (mq_in (show d + 1 < 22 by omega) (by omega)), if_pos (show nI d = nI many - 1 from by rw [show nI many - (1 : Int32) = nI (many - 1) from pk_sub (a := many) (b := 1) (by omega), show many - 1 = d by omega]), if_neg (nI_in (show many < 22 by omega) (by omega)), nI_clamp (show many < 2 ^ 31 by omega), mw_upl_at, if_pos (show many = d + 1 by omega)]
        exact hr
      by_cases he : l 61 d ||| l 60 c = y
      · have hn : ∀ w, w < 64 → (fun w => all w && !mq_h (l 61 d ||| l 60 c) w) w = false := fun w hw => by
          show (all w && !mq_h (l 61 d ||| l 60 c) w) = false
          rw [he, hy w hw]
          cases all w <;> rfl
        refine Or.inl ⟨_, mj_up i 59 d (nI c), mj_up l 61 (d + 1) (l 61 d ||| l 60 c), mw_got_with hcm hz (mw_got_0 hn), go _ (if_pos (mq_cmp0.mpr he)), fun a ha => mq_upn ha, fun t ht => by rw [mq_upi_at, if_neg (by omega)], fun j hj => ?_⟩
        unfold mw_ad at hj
        by_cases e : j = c
        · rw [mq_upi_at, e, mq_ct_none (fun b hb => by unfold mw_ad; rw [if_neg (by omega)]), if_pos (Nat.add_zero d)]
        · rw [if_neg e] at hj
          cases hj
      · have hn : ¬ ∀ w, w < 64 → (fun w => all w && !mq_h (l 61 d ||| l 60 c) w) w = false := fun hall => he (mq_h_ext fun w hw => by
          have h1 : (all w && !mq_h (l 61 d ||| l 60 c) w) = false := hall w hw
          have h2 : mq_h (l 61 d ||| l 60 c) w = true → all w = true := fun z => by
            rw [mq_h_or, Bool.or_eq_true, hR.2.2 c hcm w hw] at z
            rcases z with z | z
            · exact hU w hw z
            · exact hlit c hcm w hw z
          rw [hy w hw]
          cases e1 : all w <;> cases e2 : mq_h (l 61 d ||| l 60 c) w
          · rfl
          · have := h2 e2
            rw [e1] at this
            cases this
          · rw [e1, e2] at h1
            cases h1
          · rfl)
        have hR1 : mw_R lit m (mj_up i 59 d (nI c)) (mj_up l 61 (d + 1) (l 61 d ||| l 60 c)) := hR.congr (fun a ha => mq_upn ha) (fun a ha => mw_upl ha)
        have e61 : ∀ t, t ≤ d → mj_up l 61 (d + 1) (l 61 d ||| l 60 c) 61 t = l 61 t := fun t ht => by rw [mw_upl_at, if_neg (by omega)]
        have st : ∀ r, qf_Mod_doSo_p33 L (nI many) y (nI d) (mj_up i 59 d (nI c)) (mj_up l 61 (d + 1) (l 61 d ||| l 60 c)) = some r → qf_Mod_doSo_p33 L (nI many) y (nI d) i l = some r := fun r hr => go r (by rw [if_neg (fun z => he (mq_cmp0.mp z))]; exact hr)
        have nx := ih (c + 1) (by omega) (mj_up i 59 d (nI c)) (mj_up l 61 (d + 1) (l 61 d ||| l 60 c)) hR1 (by rw [mq_upi_at, if_pos rfl, nI_1]) (by rw [e61 d (Nat.le_refl _)]; exact hU)
        rw [e61 d (Nat.le_refl _)] at nx
        rcases nx with ⟨A, i', l', n1, n2, n3, n4, n5⟩ | ⟨n1, i', l', n2, n3, n4, n5, n6⟩
        · exact Or.inl ⟨A, i', l', mw_got_next hcm hz (mw_not_0 hn) n1, st _ n2, fun a ha => (n3 a ha).trans (mq_upn ha), fun t ht => (n4 t ht).trans (by rw [mq_upi_at, if_neg (by omega)]), n5⟩
        · exact Or.inr ⟨mw_not_next hcm hz (mw_not_0 hn) n1, i', l', fun r hr => st r (n2 r hr), fun a ha => (n3 a ha).trans (mq_upn ha), fun t ht => (n4 t ht).trans (by rw [mq_upi_at, if_neg (by omega)]), fun a ha => (n5 a ha).trans (mw_upl ha), fun t ht => (n6 t ht).trans (e61 t ht)⟩
  | succ k ihk =>
    intro d hd f
    induction f with
    | zero =>
      intro c hc i l hR h59 hU
      have h20 := hR.2.1
      refine Or.inr ⟨mw_not_far (by omega) (by omega), mj_up i 59 d (nI c), l, fun r hr => qe_Mod_doSo_p33 L _ _ _ i l _ ?_, fun a ha => mq_upn ha, fun t ht => by rw [mq_upi_at, if_neg (by omega)], fun _ _ => rfl, fun _ _ => rfl⟩
      rw [nI_clamp (show d < 2 ^ 31 by omega), h59, hR.1, pk_sub hmany, nI_add, mq_upi_at, if_pos rfl, if_neg (nI_pos (by omega)), if_neg (mq_in (show d < 21 by omega) (by omega)), if_neg (mq_in (show d < 21 by omega) (by omega)), if_neg (mq_in (show d < 21 by omega) (by omega)), if_neg (nI_ge (by omega) (by omega)), show nI d + (-1 : Int32) = nI d - 1 from (Int32.sub_eq_add_neg (nI d) 1).symm]
      exact hr
    | succ f ih =>
      intro c hc i l hR h59 hU
      have h20 := hR.2.1
      by_cases hck : c + (k + 1 + 1) ≤ m
      case neg =>
        refine Or.inr ⟨mw_not_far (by omega) (by omega), mj_up i 59 d (nI c), l, fun r hr => qe_Mod_doSo_p33 L _ _ _ i l _ ?_, fun a ha => mq_upn ha, fun t ht => by rw [mq_upi_at, if_neg (by omega)], fun _ _ => rfl, fun _ _ => rfl⟩
        rw [nI_clamp (show d < 2 ^ 31 by omega), h59, hR.1, pk_sub hmany, nI_add, mq_upi_at, if_pos rfl, if_neg (nI_pos (by omega)), if_neg (mq_in (show d < 21 by omega) (by omega)), if_neg (mq_in (show d < 21 by omega) (by omega)), if_neg (mq_in (show d < 21 by omega) (by omega)), if_neg (nI_ge (by omega) (by omega)), show nI d + (-1 : Int32) = nI d - 1 from (Int32.sub_eq_add_neg (nI d) 1).symm]
        exact hr
      have hcm : c < m := by omega
      have hz : ∀ w, w < 64 → (fun w => all w && !mq_h (l 61 d ||| l 60 c) w) w = ((fun w => all w && !mq_h (l 61 d) w) w && !lit c w) := fun w hw => by
        show (all w && !mq_h (l 61 d ||| l 60 c) w) = ((all w && !mq_h (l 61 d) w) && !lit c w)
        rw [mq_h_or, hR.2.2 c hcm w hw]
        cases all w <;> cases mq_h (l 61 d) w <;> cases lit c w <;> rfl
      have edm : ¬ nI d = nI many - 1 := by
        rw [show nI many - (1 : Int32) = nI (many - 1) from pk_sub (a := many) (b := 1) (by omega)]
        intro z
        have := (nI_eq (a := d) (b := many - 1) (by omega) (by omega)).mp z
        omega
      have go : ∀ r, qf_Mod_doSo_p33 L (nI many) y (nI (d + 1)) (mj_up (mj_up i 59 d (nI c)) 59 (d + 1) (nI c)) (mj_up l 61 (d + 1) (l 61 d ||| l 60 c)) = some r → qf_Mod_doSo_p33 L (nI many) y (nI d) i l = some r := by
        intro r hr
        refine qe_Mod_doSo_p33 L _ _ _ i l _ ?_
        rw [nI_clamp (show d < 2 ^ 31 by omega), h59, hR.1, pk_sub hmany, nI_add, nI_1, show nI (d + 1) - (1 : Int32) = nI d from pk_sub (a := d + 1) (b := 1) (by omega), nI_clamp (show d < 2 ^ 31 by omega), mq_upi_at, if_pos rfl, nI_clamp (show c < 2 ^ 31 by omega), nI_clamp (show d + 1 < 2 ^ 31 by omega), if_neg (nI_pos (by omega)), if_neg (mq_in (show d < 21 by omega) (by omega)), if_neg (mq_in (show d < 21 by omega) (by omega)), if_neg (mq_in (show d < 21 by omega) (by omega)), if_pos (nI_le (by omega) (by omega)), if_neg (mq_in (show d < 22 by omega) (by omega)), if_neg (mq_in (show d < 21 by omega) (by omega)), if_neg (mq_in (show c < 20 by omega) (by omega)), if_neg (mq_in (show d + 1 < 22 by omega) (by omega)), if_neg edm, if_neg (mq_in (show d < 21 by omega) (by omega)), if_neg (mq_in (show d + 1 < 21 by omega) (by omega))]
        exact hr
      have hR1 : mw_R lit m (mj_up (mj_up i 59 d (nI c)) 59 (d + 1) (nI c)) (mj_up l 61 (d + 1) (l 61 d ||| l 60 c)) := hR.congr (fun a ha => by rw [mq_upn ha, mq_upn ha]) (fun a ha => mw_upl ha)
      have e61 : ∀ t, t ≤ d → mj_up l 61 (d + 1) (l 61 d ||| l 60 c) 61 t = l 61 t := fun t ht => by rw [mw_upl_at, if_neg (by omega)]
      have e59 : ∀ t, t < d → mj_up (mj_up i 59 d (nI c)) 59 (d + 1) (nI c) 59 t = i 59 t := fun t ht => by rw [mq_upi_at, if_neg (by omega), mq_upi_at, if_neg (by omega)]
      have e59d : mj_up (mj_up i 59 d (nI c)) 59 (d + 1) (nI c) 59 d = nI c := by rw [mq_upi_at, if_neg (by omega), mq_upi_at, if_pos rfl]
      have e61d : mj_up l 61 (d + 1) (l 61 d ||| l 60 c) 61 (d + 1) = l 61 d ||| l 60 c := by rw [mw_upl_at, if_pos rfl]
      have dn := ihk (d + 1) (by omega) (m - (c + 1)) (c + 1) (by omega) (mj_up (mj_up i 59 d (nI c)) 59 (d + 1) (nI c)) (mj_up l 61 (d + 1) (l 61 d ||| l 60 c)) hR1 (by rw [mq_upi_at, if_pos rfl, nI_1]) (by
        rw [e61d]
        intro w hw z
        rw [mq_h_or, Bool.or_eq_true, hR.2.2 c hcm w hw] at z
        rcases z with z | z
        · exact hU w hw z
        · exact hlit c hcm w hw z)
      rw [e61d] at dn
      rcases dn with ⟨A, i', l', n1, n2, n3, n4, n5⟩ | ⟨n1, i', l', n2, n3, n4, n5, n6⟩
      · refine Or.inl ⟨_, i', l', mw_got_with hcm hz n1, go _ n2, fun a ha => (n3 a ha).trans (by rw [mq_upn ha, mq_upn ha]), fun t ht => (n4 t (by omega)).trans (e59 t ht), fun j hj => ?_⟩
        have hA : ∀ j, A j = true → c < j := fun j hj => (n1.1.1 j hj).1
        unfold mw_ad at hj
        by_cases e : j = c
        · rw [e, mq_ct_none (fun b hb => by
            unfold mw_ad
            rw [if_neg (by omega)]
            cases e2 : A b
            · rfl
            · have := hA b e2; omega), Nat.add_zero, n4 d (by omega), e59d]
        · rw [if_neg e] at hj
          have hlt := hA j hj
          have hAc : A c = false := by
            cases e2 : A c
            · rfl
            · have := hA c e2; omega
          have h6 : mq_ct (mw_ad A c) j = mq_ct A j + 1 := mw_ad_ct hlt hAc
          rw [h6, show d + (mq_ct A j + 1) = d + 1 + mq_ct A j by omega]
          exact n5 j hj
      · have hR2 : mw_R lit m i' l' := hR1.congr n3 n5
        have e61' : ∀ t, t ≤ d → l' 61 t = l 61 t := fun t ht => (n6 t (by omega)).trans (e61 t ht)
        have st : ∀ r, qf_Mod_doSo_p33 L (nI many) y (nI d) i' l' = some r → qf_Mod_doSo_p33 L (nI many) y (nI d) i l = some r := fun r hr => go r (n2 r (by rw [show nI (d + 1) - (1 : Int32) = nI d from pk_sub (a := d + 1) (b := 1) (by omega)]; exact hr))
        have nx := ih (c + 1) (by omega) i' l' hR2 (by rw [n4 d (by omega), e59d, nI_1]) (by rw [e61' d (Nat.le_refl _)]; exact hU)
        rw [e61' d (Nat.le_refl _)] at nx
        rcases nx with ⟨A, i2, l2, q1, q2, q3, q4, q5⟩ | ⟨q1, i2, l2, q2, q3, q4, q5, q6⟩
        · exact Or.inl ⟨A, i2, l2, mw_got_next hcm hz n1 q1, st _ q2, fun a ha => (q3 a ha).trans ((n3 a ha).trans (by rw [mq_upn ha, mq_upn ha])), fun t ht => (q4 t ht).trans ((n4 t (by omega)).trans (e59 t ht)), q5⟩
        · exact Or.inr ⟨mw_not_next hcm hz n1 q1, i2, l2, fun r hr => st r (q2 r hr), fun a ha => (q3 a ha).trans ((n3 a ha).trans (by rw [mq_upn ha, mq_upn ha])), fun t ht => (q4 t ht).trans ((n4 t (by omega)).trans (e59 t ht)), fun a ha => (q5 a ha).trans ((n5 a ha).trans (mw_upl ha)), fun t ht => (q6 t ht).trans (e61' t ht)⟩
theorem qs_doSo (L : Nat) {many : Nat} {y : Int64} {all : Nat → Bool} (hy : ∀ w, w < 64 → mq_h y w = all w) (hlit : ∀ j, j < m → ∀ w, w < 64 → lit j w = true → all w = true) (hmany : many ≤ m) (i : mMI) (l : mML) (hR : mw_R lit m i l) : ∃ (i' : mMI) (l' : mML), (∀ a, a ≠ 59 → i' a = i a) ∧ ((∃ A, qf_Mod_doSo L (nI many) y i l = some (1, i', l') ∧ mw_got lit m many 0 all A ∧ ∀ j, A j = true → i' 59 (mq_ct A j) = nI j) ∨ (qf_Mod_doSo L (nI many) y i l = some (0, i', l') ∧ mw_not lit m many 0 all ∧ mw_R lit m i' l')) := by
  have h20 := hR.2.1
  have go : ∀ r, (if nI many = (0 : Int32) then (if ((lg_cmp y (0 : Int64)) : Int32) = (0 : Int32) then (some ((1 : Int32), (mj_up i 59 0 (-1 : Int32)), (mj_up l 61 0 (0 : Int64)))) else (some ((0 : Int32), (mj_up i 59 0 (-1 : Int32)), (mj_up l 61 0 (0 : Int64))))) else (qf_Mod_doSo_p33 L (nI many) y (nI 0) (mj_up i 59 0 (-1 : Int32)) (mj_up l 61 0 (0 : Int64)))) = some r → qf_Mod_doSo L (nI many) y i l = some r := by
    intro r hr
    refine qe_Mod_doSo L _ _ i l _ ?_
    rw [if_neg (by decide), if_neg (by decide)]
    exact hr
  have e0 : nI many = (0 : Int32) ↔ many = 0 := nI_eq (b := 0) (by omega) (by omega)
  have hR1 : mw_R lit m (mj_up i 59 0 (-1 : Int32)) (mj_up l 61 0 (0 : Int64)) := hR.congr (fun a ha => mq_upn ha) (fun a ha => mw_upl ha)
  by_cases hm0 : many = 0
  · subst hm0
    by_cases hz : y = 0
    · exact ⟨_, _, fun a ha => mq_upn ha, Or.inl ⟨fun _ => false, go _ (by rw [if_pos (e0.mpr rfl), if_pos (mq_cmp0.mpr hz)]), mw_got_0 (fun w hw => by rw [← hy w hw, hz, mq_h_0]), fun j hj => by cases hj⟩⟩
    · exact ⟨_, _, fun a ha => mq_upn ha, Or.inr ⟨go _ (by rw [if_pos (e0.mpr rfl), if_neg (fun z => hz (mq_cmp0.mp z))]), mw_not_0 (fun h => hz (mq_h_z.mpr fun w hw => by rw [hy w hw, h w hw])), hR1⟩⟩
  · have e61 : mj_up l 61 0 (0 : Int64) 61 0 = 0 := by rw [mw_upl_at, if_pos rfl]
    have rn := mw_dfs L hy hlit hmany (many - 1) 0 (by omega) m 0 (by omega) (mj_up i 59 0 (-1 : Int32)) (mj_up l 61 0 (0 : Int64)) hR1 (by rw [mq_upi_at, if_pos rfl]; decide) (fun w hw z => by rw [e61, mq_h_0] at z; cases z)
    have eY : (fun w => all w && !mq_h (mj_up l 61 0 (0 : Int64) 61 0) w) = all := by
      funext w
      rw [e61, mq_h_0, Bool.not_false, Bool.and_true]
    rw [eY, show many - 1 + 1 = many by omega] at rn
    rcases rn with ⟨A, i', l', n1, n2, n3, n4, n5⟩ | ⟨n1, i', l', n2, n3, n4, n5, n6⟩
    · refine ⟨i', l', fun a ha => (n3 a ha).trans (mq_upn ha), Or.inl ⟨A, go _ ?_, n1, fun j hj => ?_⟩⟩
      · rw [if_neg (fun z => hm0 (e0.mp z))]
        exact n2
      · have := n5 j hj
        rw [Nat.zero_add] at this
        exact this
    · refine ⟨i', l', fun a ha => (n3 a ha).trans (mq_upn ha), Or.inr ⟨go _ ?_, n1, hR1.congr n3 n5⟩⟩
      rw [if_neg (fun z => hm0 (e0.mp z))]
      refine n2 _ (qe_Mod_doSo_p33 L _ _ _ i' l' _ ?_)
      rw [if_pos (by decide)]
theorem mw_best_got {all A : Nat → Bool} {many : Nat} (h : mw_got lit m many 0 all A) (hn : ∀ k, k < many → mw_not lit m k 0 all) : mw_best lit m all A := by
  refine ⟨h.1, fun B hB => ?_, fun B hB he => h.2.2 B hB (by rw [he, h.2.1])⟩
  rw [h.2.1]
  apply Nat.le_of_not_lt
  intro hlt
  exact hn _ hlt B hB rfl
/-- what the model's search leaves -/
theorem qs_findWorst14 (L : Nat) {y : Int64} {all : Nat → Bool} (hy : ∀ w, w < 64 → mq_h y w = all w) (hlit : ∀ j, j < m → ∀ w, w < 64 → lit j w = true → all w = true) (i : mMI) (l : mML) (hR : mw_R lit m i l) : (∃ (A : Nat → Bool) (i' : mMI) (l' : mML), qf_Mod_findWorst_p14 L y 0 (nI 0) i l = some (nI (mq_ct A m), i', l') ∧ mw_best lit m all A ∧ (∀ a, a ≠ 59 → i' a = i a) ∧ ∀ j, A j = true → i' 59 (mq_ct A j) = nI j) ∨ (qf_Mod_findWorst_p14 L y 0 (nI 0) i l = some (-9, i, l) ∧ ∀ B, ¬ mw_cov lit m 0 all B) := by
  have h20 := hR.2.1
  have loop : ∀ (f x : Nat), x + f = m → ∀ z, (∀ w, w < 64 → mq_h z w = mw_any lit (fun _ => true) x w) → ∃ z', (∀ w, w < 64 → mq_h z' w = mw_any lit (fun _ => true) m w) ∧ ∀ r, (if ((lg_cmp z' y) : Int32) = (0 : Int32) then (qf_Mod_findWorst_p51 L y (0 : Int32) i l) else (some ((-9 : Int32), i, l))) = some r → qf_Mod_findWorst_p14 L y z (nI x) i l = some r := by
    intro f
    induction f with
    | zero =>
      intro x hx z hz
      have hx : x = m := hx
      subst hx
      refine ⟨z, hz, fun r hr => qe_Mod_findWorst_p14 L _ _ _ i l _ ?_⟩
      rw [hR.1, if_pos (nI_le (Nat.le_refl _) (by omega))]
      exact hr
    | succ f ih =>
      intro x hx z hz
      obtain ⟨z', z1, z2⟩ := ih (x + 1) (by omega) (z ||| l 60 x) (fun w hw => by
        rw [mq_h_or, hz w hw, hR.2.2 x (by omega) w hw]
        simp only [mw_any, Bool.true_and])
      refine ⟨z', z1, fun r hr => qe_Mod_findWorst_p14 L _ _ _ i l _ ?_⟩
      rw [hR.1, if_neg (nI_ge (by omega) (by omega)), if_neg (nI_in (show x < 20 by omega) (by omega)), nI_clamp (by omega), nI_1]
      exact z2 r hr
  obtain ⟨z, z1, z2⟩ := loop m 0 (by omega) 0 (fun w _ => mq_h_0 w)
  by_cases hz : z = y
  · -- all the tries together are a cover
    have full : mw_cov lit m 0 all (fun j => decide (j < m)) := by
      refine ⟨fun j hj => ⟨Nat.zero_le _, of_decide_eq_true hj⟩, fun w hw hal => ?_⟩
      rw [← hy w hw, ← hz, z1 w hw] at hal
      obtain ⟨j, j1, j2, j3⟩ := mw_any_is hal
      exact ⟨j, decide_eq_true j1, j3⟩
    have fct : mq_ct (fun j => decide (j < m)) m = m := by
      have : ∀ k, k ≤ m → mq_ct (fun j => decide (j < m)) k = k := by
        intro k
        induction k with
        | zero => intro _; rfl
        | succ k ih =>
          intro hk
          show mq_ct (fun j => decide (j < m)) k + (if decide (k < m) = true then 1 else 0) = k + 1
          rw [ih (by omega), decide_eq_true (show k < m by omega), if_pos rfl]
      exact this m (Nat.le_refl _)
    have search : ∀ (f many : Nat), many + f = m → (∀ k, k < many → mw_not lit m k 0 all) → ∀ (i1 : mMI) (l1 : mML), mw_R lit m i1 l1 → (∀ a, a ≠ 59 → i1 a = i a) → ∃ (A : Nat → Bool) (i' : mMI) (l' : mML), qf_Mod_findWorst_p51 L y (nI many) i1 l1 = some (nI (mq_ct A m), i', l') ∧ mw_best lit m all A ∧ (∀ a, a ≠ 59 → i' a = i a) ∧ ∀ j, A j = true → i' 59 (mq_ct A j) = nI j := by
      intro f
      induction f with
      | zero =>
        intro many hm hn i1 l1 r1 f1
        obtain ⟨i', l', s1, s2⟩ := qs_doSo L hy hlit (show many ≤ m by omega) i1 l1 r1
        rcases s2 with ⟨A, q1, q2, q3⟩ | ⟨q1, q2, q3⟩
        · refine ⟨A, i', l', qe_Mod_findWorst_p51 L _ _ i1 l1 _ ?_, mw_best_got q2 hn, fun a ha => (s1 a ha).trans (f1 a ha), q3⟩
          rw [q1, Option.bind_some]
          dsimp only
          rw [if_neg (by decide), q2.2.1]
        · exact absurd (fct.trans (by omega)) (q2 _ full)
      | succ f ih =>
        intro many hm hn i1 l1 r1 f1
        obtain ⟨i', l', s1, s2⟩ := qs_doSo L hy hlit (show many ≤ m by omega) i1 l1 r1
        rcases s2 with ⟨A, q1, q2, q3⟩ | ⟨q1, q2, q3⟩
        · refine ⟨A, i', l', qe_Mod_findWorst_p51 L _ _ i1 l1 _ ?_, mw_best_got q2 hn, fun a ha => (s1 a ha).trans (f1 a ha), q3⟩
          rw [q1, Option.bind_some]
          dsimp only
          rw [if_neg (by decide), q2.2.1]
        · obtain ⟨A, i2, l2, p1, p2⟩ := ih (many + 1) (by omega) (fun k hk => by
            by_cases e : k = many
            · rw [e]; exact q2
            · exact hn k (by omega)) i' l' q3 (fun a ha => (s1 a ha).trans (f1 a ha))
          refine ⟨A, i2, l2, qe_Mod_findWorst_p51 L _ _ i1 l1 _ ?_, p2⟩
          rw [q1, Option.bind_some]
          dsimp only
          rw [if_pos rfl, nI_1]
          exact p1
    obtain ⟨A, i', l', p1, p2⟩ := search m 0 (by omega) (fun k hk => by omega) i l hR (fun _ _ => rfl)
    refine Or.inl ⟨A, i', l', z2 _ ?_, p2⟩
    rw [if_pos (mq_cmp0.mpr hz)]
    exact p1
  · refine Or.inr ⟨z2 _ (if_neg (fun q => hz (mq_cmp0.mp q))), fun B hB => hz (mq_h_ext fun w hw => ?_)⟩
    rw [z1 w hw, hy w hw]
    cases e : all w
    · cases e2 : mw_any lit (fun _ => true) m w
      · rfl
      · obtain ⟨j, j1, j2, j3⟩ := mw_any_is e2
        have := hlit j j1 w hw j3
        rw [e] at this
        cases this
    · obtain ⟨j, j1, j2⟩ := hB.2 w hw e
      exact mw_any_of (hB.1 j j1).2 rfl j2
end
