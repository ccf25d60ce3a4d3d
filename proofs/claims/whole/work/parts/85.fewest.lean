/-! The fewest tries: the class. -/
/-- the first of the smallest covers -/
def mw_best (lit : Nat → Nat → Bool) (m : Nat) (Y A : Nat → Bool) : Prop := mw_cov lit m 0 Y A ∧ (∀ B, mw_cov lit m 0 Y B → mq_ct A m ≤ mq_ct B m) ∧ ∀ B, mw_cov lit m 0 Y B → mq_ct B m = mq_ct A m → mw_fst A B
theorem mw_best_one {lit : Nat → Nat → Bool} {m : Nat} {Y A B : Nat → Bool} (hA : mw_best lit m Y A) (hB : mw_best lit m Y B) : ∀ j, A j = B j := by
  have h1 := hA.2.1 B hB.1
  have h2 := hB.2.1 A hA.1
  exact mw_fst_anti (hA.2.2 B hB.1 (by omega)) (hB.2.2 A hA.1 (by omega))
/-- with those that no cover can do without -/
theorem mw_best_forced {lit : Nat → Nat → Bool} {m k : Nat} {Y Z F G : Nat → Bool} (hF : ∀ j, F j = true → j < m ∧ ∃ w, w < 64 ∧ Y w = true ∧ lit j w = true ∧ ∀ b, b < m → b ≠ j → lit b w = false) (hZ : ∀ w, w < 64 → Z w = (Y w && !mw_any lit F m w)) (hG : mw_good lit m k 0 Z G) (hk : ∀ B, mw_cov lit m 0 Z B → k ≤ mq_ct B m) : mw_best lit m Y (fun j => G j || F j) := by
  obtain ⟨g1, g2, g3⟩ := hG
  have sub : ∀ B, mw_cov lit m 0 Y B → ∀ j, F j = true → B j = true := by
    intro B hB j hj
    obtain ⟨hjm, w, hw, hy, hl, ho⟩ := hF j hj
    obtain ⟨b, b1, b2⟩ := hB.2 w hw hy
    by_cases e : b = j
    · rw [← e]; exact b1
    · rw [ho b (hB.1 b b1).2 e] at b2; cases b2
  have rest : ∀ B, mw_cov lit m 0 Y B → mw_cov lit m 0 Z (fun j => B j && !F j) := by
    intro B hB
    refine ⟨fun j hj => hB.1 j (by have hj : (B j && !F j) = true := hj; rw [Bool.and_eq_true] at hj; exact hj.1), fun w hw hz => ?_⟩
    rw [hZ w hw, Bool.and_eq_true, Bool.not_eq_true'] at hz
    obtain ⟨j, h1, h2⟩ := hB.2 w hw hz.1
    refine ⟨j, ?_, h2⟩
    cases e : F j
    · show (B j && !F j) = true
      rw [h1, e]; rfl
    · have := mw_any_of (hB.1 j h1).2 e h2
      rw [hz.2] at this
      cases this
  have cnt : ∀ B, mw_cov lit m 0 Y B → mq_ct B m = mq_ct (fun j => B j && !F j) m + mq_ct F m := by
    intro B hB
    refine mq_ct_add fun j _ => ⟨?_, ?_⟩
    · cases e : F j
      · simp
      · rw [sub B hB j e]; rfl
    · rintro ⟨h1, h2⟩
      have h1 : (B j && !F j) = true := h1
      rw [h2] at h1
      simp at h1
  have le : mq_ct (fun j => G j || F j) m ≤ mq_ct G m + mq_ct F m := mq_ct_sub fun j _ hj => by
    have hj : (G j || F j) = true := hj
    rw [Bool.or_eq_true] at hj
    exact hj
  have hc : mw_cov lit m 0 Y (fun j => G j || F j) := by
    refine ⟨fun j hj => ?_, fun w hw hy => ?_⟩
    · have hj : (G j || F j) = true := hj
      rw [Bool.or_eq_true] at hj
      rcases hj with hj | hj
      · exact g1.1 j hj
      · exact ⟨Nat.zero_le _, (hF j hj).1⟩
    · cases e : mw_any lit F m w
      · obtain ⟨j, h1, h2⟩ := g1.2 w hw (by rw [hZ w hw, hy, e]; rfl)
        exact ⟨j, (show (G j || F j) = true by rw [h1]; rfl), h2⟩
      · obtain ⟨j, h1, h2, h3⟩ := mw_any_is e
        exact ⟨j, (show (G j || F j) = true by rw [h2]; exact Bool.or_true _), h3⟩
  refine ⟨hc, fun B hB => ?_, fun B hB he => ?_⟩
  · have h1 := cnt B hB
    have h2 := hk _ (rest B hB)
    omega
  · have h1 := cnt B hB
    have h2 := hk _ (rest B hB)
    have h3 := g3 _ (rest B hB) (by omega) hk
    have eB : ∀ j, B j = ((B j && !F j) || F j) := fun j => by
      cases e : F j
      · simp
      · rw [sub B hB j e]; rfl
    rcases h3 with h3 | ⟨b, b1, b2, b3⟩
    · exact Or.inl fun j => by
        show (G j || F j) = B j
        rw [eB j, h3 j]
    · have hFb : F b = false := by
        cases e : F b
        · rfl
        · exfalso
          have hbm := (hF b e).1
          have h4 := mw_rm_ct hbm b1
          have h5 : mq_ct (fun j => G j || F j) m ≤ mq_ct (mw_rm G b) m + mq_ct F m := mq_ct_sub fun j _ hj => by
            have hj : (G j || F j) = true := hj
            rw [Bool.or_eq_true] at hj
            by_cases ej : j = b
            · exact Or.inr (by rw [ej]; exact e)
            · rcases hj with hj | hj
              · exact Or.inl (by unfold mw_rm; rw [if_neg ej]; exact hj)
              · exact Or.inr hj
          omega
      refine Or.inr ⟨b, (show (G b || F b) = true by rw [b1]; rfl), ?_, fun j hj => ?_⟩
      · have b2 : (B b && !F b) = false := b2
        rw [hFb] at b2
        simp at b2
        exact b2
      · show (G j || F j) = B j
        rw [eB j, b3 j hj]
theorem mw_none_forced {lit : Nat → Nat → Bool} {m : Nat} {Y Z F : Nat → Bool} (hZ : ∀ w, w < 64 → Z w = (Y w && !mw_any lit F m w)) (h : ∀ B, ¬ mw_cov lit m 0 Z B) : ∀ B, ¬ mw_cov lit m 0 Y B := by
  intro B hB
  refine h B ⟨hB.1, fun w hw hz => ?_⟩
  rw [hZ w hw, Bool.and_eq_true] at hz
  exact hB.2 w hw hz.1
section
variable {lit : Nat → Nat → Bool} {m : Nat} {i : mMI} {l : mML}
theorem qs_forced (L : Nat) (y : Int64) (hS : mw_S lit m i l) : ∃ F, F < 2 ^ 20 ∧ qf_Cover_forcedTries L y i l = some (nI F, i, l) ∧ ∀ j, mw_tb F j = true → j < m ∧ ∃ w, w < 64 ∧ lit j w = true ∧ ∀ b, b < m → b ≠ j → lit b w = false := by
  have hm := hS.2.1
  have inner : ∀ (f x j F : Nat), x + f = m → j < m → ∀ z, (∀ w, w < 64 → mq_h z w = mw_any lit (fun b => decide (b ≠ j)) x w) → ∃ z', (∀ w, w < 64 → mq_h z' w = mw_any lit (fun b => decide (b ≠ j)) m w) ∧ ∀ r, (if ((lg_cmp (l 33 j &&& (z' ^^^ (-1 : Int64))) (0 : Int64)) : Int32) = (0 : Int32) then (qf_Cover_forcedTries_p5 L (nI F) (nI (j + 1)) i l) else (qf_Cover_forcedTries_p5 L (nI F ||| nI (2 ^ j)) (nI (j + 1)) i l)) = some r → qf_Cover_forcedTries_p20 L (nI F) (nI j) z (nI x) i l = some r := by
    intro f
    induction f with
    | zero =>
      intro x j F hx hj z hz
      have hx : x = m := hx
      subst hx
      refine ⟨z, hz, fun r hr => qe_Cover_forcedTries_p20 L _ _ _ _ i l _ ?_⟩
      rw [hS.1, if_pos (nI_le (Nat.le_refl _) (by omega)), qs_Two_atL_33 L i l (by omega), Option.bind_some]
      dsimp only
      rw [nI_1, mq_shl (by omega)]
      exact hr
    | succ f ih =>
      intro x j F hx hj z hz
      have exj : nI x = nI j ↔ x = j := nI_eq (by omega) (by omega)
      by_cases e : x = j
      · obtain ⟨z', z1, z2⟩ := ih (x + 1) j F (by omega) hj (z ||| (0 : Int64)) (fun w hw => by
          rw [mw_h_or0, hz w hw]
          simp only [mw_any]
          rw [decide_eq_false (fun q => q e), Bool.false_and, Bool.or_false])
        refine ⟨z', z1, fun r hr => qe_Cover_forcedTries_p20 L _ _ _ _ i l _ ?_⟩
        rw [hS.1, if_neg (nI_ge (by omega) (by omega)), if_pos (exj.mpr e), nI_1]
        exact z2 r hr
      · obtain ⟨z', z1, z2⟩ := ih (x + 1) j F (by omega) hj (z ||| l 33 x) (fun w hw => by
          rw [mq_h_or, hz w hw, hS.2.2.1 x (by omega) w hw]
          simp only [mw_any]
          rw [decide_eq_true e, Bool.true_and])
        refine ⟨z', z1, fun r hr => qe_Cover_forcedTries_p20 L _ _ _ _ i l _ ?_⟩
        rw [hS.1, if_neg (nI_ge (by omega) (by omega)), if_neg (fun q => e (exj.mp q)), qs_Two_atL_33 L i l (by omega), Option.bind_some]
        dsimp only
        rw [nI_1]
        exact z2 r hr
  have loop : ∀ (f j F : Nat), j + f = m → F < 2 ^ 20 → (∀ b, mw_tb F b = true → b < m ∧ ∃ w, w < 64 ∧ lit b w = true ∧ ∀ c, c < m → c ≠ b → lit c w = false) → ∃ F', F' < 2 ^ 20 ∧ qf_Cover_forcedTries_p5 L (nI F) (nI j) i l = some (nI F', i, l) ∧ ∀ b, mw_tb F' b = true → b < m ∧ ∃ w, w < 64 ∧ lit b w = true ∧ ∀ c, c < m → c ≠ b → lit c w = false := by
    intro f
    induction f with
    | zero =>
      intro j F hj hF h
      have hj : j = m := hj
      subst hj
      refine ⟨F, hF, qe_Cover_forcedTries_p5 L _ _ i l _ ?_, h⟩
      rw [hS.1, if_pos (nI_le (Nat.le_refl _) (by omega))]
    | succ f ih =>
      intro j F hj hF h
      obtain ⟨z, z1, z2⟩ := inner m 0 j F (by omega) (by omega) 0 (fun w _ => mq_h_0 w)
      by_cases hc : l 33 j &&& (z ^^^ (-1 : Int64)) = 0
      · obtain ⟨F', f1, f2, f3⟩ := ih (j + 1) F (by omega) hF h
        refine ⟨F', f1, qe_Cover_forcedTries_p5 L _ _ i l _ ?_, f3⟩
        rw [hS.1, if_neg (nI_ge (by omega) (by omega))]
        exact z2 _ (by rw [if_pos (mq_cmp0.mpr hc)]; exact f2)
      · obtain ⟨F', f1, f2, f3⟩ := ih (j + 1) (F ||| 2 ^ j) (by omega) (Nat.or_lt_two_pow hF (Nat.pow_lt_pow_right (by omega) (by omega))) (fun b hb => by
          rw [mw_tb_ad] at hb
          unfold mw_ad at hb
          by_cases e : b = j
          · subst e
            refine ⟨by omega, Classical.byContradiction fun hno => hc (mq_h_z.mpr fun w hw => ?_)⟩
            rw [mq_h_and, mq_h_not _ hw, hS.2.2.1 b (by omega) w hw, z1 w hw]
            cases e1 : lit b w
            · rfl
            · cases e2 : mw_any lit (fun c => decide (c ≠ b)) m w
              · exfalso
                refine hno ⟨w, hw, e1, fun c c1 c2 => ?_⟩
                cases e3 : lit c w
                · rfl
                · rw [mw_any_of c1 (decide_eq_true c2) e3] at e2
                  cases e2
              · rfl
          · rw [if_neg e] at hb
            exact h b hb)
        refine ⟨F', f1, qe_Cover_forcedTries_p5 L _ _ i l _ ?_, f3⟩
        rw [hS.1, if_neg (nI_ge (by omega) (by omega))]
        exact z2 _ (by rw [if_neg (fun q => hc (mq_cmp0.mp q)), mq_or]; exact f2)
  obtain ⟨F, f1, f2, f3⟩ := loop m 0 0 (by omega) (by omega) (fun b hb => by rw [mw_tb_0] at hb; cases hb)
  exact ⟨F, f1, qe_Cover_forcedTries L _ i l _ f2, f3⟩
theorem mw_bit {F j : Nat} (hF : F < 2 ^ 31) (hj : j < 31) : (((nI F >>> (nI j &&& 31)) &&& (1 : Int32)) = (1 : Int32)) ↔ mw_tb F j = true := by
  have h2 : F / 2 ^ j % 2 < 2 := Nat.mod_lt _ (by omega)
  rw [mq_bit hF (by omega)]
  unfold mw_tb
  rw [Nat.testBit_eq_decide_div_mod_eq, decide_eq_true_eq]
  exact nI_eq (b := 1) (by omega) (by omega)
theorem qs_litInAny (L : Nat) {F : Nat} (hF : F < 2 ^ 20) (hS : mw_S lit m i l) : ∃ y, qf_Cover_litInAny L (nI F) i l = some (y, i, l) ∧ ∀ w, w < 64 → mq_h y w = mw_any lit (mw_tb F) m w := by
  have hm := hS.2.1
  have loop : ∀ (f x : Nat), x + f = m → ∀ z, (∀ w, w < 64 → mq_h z w = mw_any lit (mw_tb F) x w) → ∃ y, qf_Cover_litInAny_p5 L (nI F) z (nI x) i l = some (y, i, l) ∧ ∀ w, w < 64 → mq_h y w = mw_any lit (mw_tb F) m w := by
    intro f
    induction f with
    | zero =>
      intro x hx z hz
      have hx : x = m := hx
      subst hx
      refine ⟨z, qe_Cover_litInAny_p5 L _ _ _ i l _ ?_, hz⟩
      rw [hS.1, if_pos (nI_le (Nat.le_refl _) (by omega))]
    | succ f ih =>
      intro x hx z hz
      have hb := mw_bit (F := F) (j := x) (by omega) (by omega)
      cases e : mw_tb F x
      · obtain ⟨y, y1, y2⟩ := ih (x + 1) (by omega) (z ||| (0 : Int64)) (fun w hw => by
          rw [mw_h_or0, hz w hw]
          simp only [mw_any]
          rw [e, Bool.false_and, Bool.or_false])
        refine ⟨y, qe_Cover_litInAny_p5 L _ _ _ i l _ ?_, y2⟩
        rw [hS.1, if_neg (nI_ge (by omega) (by omega)), if_neg (fun q => by rw [hb.mp q] at e; cases e), nI_1]
        exact y1
      · obtain ⟨y, y1, y2⟩ := ih (x + 1) (by omega) (z ||| l 33 x) (fun w hw => by
          rw [mq_h_or, hz w hw, hS.2.2.1 x (by omega) w hw]
          simp only [mw_any]
          rw [e, Bool.true_and])
        refine ⟨y, qe_Cover_litInAny_p5 L _ _ _ i l _ ?_, y2⟩
        rw [hS.1, if_neg (nI_ge (by omega) (by omega)), if_pos (hb.mpr e), qs_Two_atL_33 L i l (by omega), Option.bind_some]
        dsimp only
        rw [nI_1]
        exact y1
  obtain ⟨y, y1, y2⟩ := loop m 0 (by omega) 0 (fun w _ => mq_h_0 w)
  exact ⟨y, qe_Cover_litInAny L _ i l _ y1, y2⟩
theorem mw_S.up {i : mMI} {l : mML} (h : mw_S lit m i l) (v : Int32) : mw_S lit m (mj_up i 31 4 v) l := ⟨by rw [mq_upi_at, if_neg (by omega)]; exact h.1, h.2⟩
/-- what the search for the fewest leaves -/
def mw_end (lit : Nat → Nat → Bool) (m F : Nat) (Z : Nat → Bool) (v : Int32) : Prop := (∃ k g, g < 2 ^ 20 ∧ v = nI (g ||| F) ∧ mw_good lit m k 0 Z (mw_tb g) ∧ ∀ B, mw_cov lit m 0 Z B → k ≤ mq_ct B m) ∨ (v = -1 ∧ ∀ B, ¬ mw_cov lit m 0 Z B)
theorem qs_fewest73 (L : Nat) {F : Nat} (hF : F < 2 ^ 20) (y : Int64) : ∀ (f x : Nat) (i : mMI), x + f = m + 1 → mw_S lit m i l → i 31 4 = -1 → (∀ B, mw_cov lit m 0 (mq_h y) B → x ≤ mq_ct B m) → ∃ v, qf_Cover_findFewest_24_p73 L (nI F) y (nI x) i l = some (mj_up i 31 4 v, l) ∧ mw_end lit m F (mq_h y) v := by
  intro f
  induction f with
  | zero =>
    intro x i hx hS h4 hB
    have hx : x = m + 1 := hx
    have hm := hS.2.1
    have hst : mj_up i 31 4 (-1 : Int32) = i := by
      funext a b
      by_cases ea : a = 31
      · subst ea
        rw [mq_upi_at]
        by_cases eb : b = 4
        · rw [if_pos eb, eb, h4]
        · rw [if_neg eb]
      · rw [mq_upn ea]
    refine ⟨-1, qe_Cover_findFewest_24_p73 L _ _ _ i l _ ?_, Or.inr ⟨rfl, fun B hb => ?_⟩⟩
    · rw [hS.1, if_pos (nI_lt (by omega) (by omega)), hst]
    · have h1 := hB B hb
      have h2 := mq_ct_le B m
      omega
  | succ f ih =>
    intro x i hx hS h4 hB
    have hm := hS.2.1
    have go : ∀ r, ((qf_Cover_firstCover_31 (8 + x) L (nI 0) (nI x) y i l).bind fun q1 => (if (0 : Int32) ≤ (q1.1 : Int32) then (qf_Cover_findFewest_24_p73 L (nI F) y (nI (x + 1)) (mj_up q1.2.1 31 4 (q1.1 ||| nI F)) q1.2.2) else (qf_Cover_findFewest_24_p73 L (nI F) y (nI (x + 1)) (mj_up q1.2.1 31 4 (-1 : Int32)) q1.2.2))) = some r → qf_Cover_findFewest_24_p73 L (nI F) y (nI x) i l = some r := by
      intro r hr
      refine qe_Cover_findFewest_24_p73 L _ _ _ i l _ ?_
      rw [hS.1, if_neg (nI_nlt (by omega) (by omega)), if_neg (show ¬ (0 : Int32) ≤ i 31 4 from by rw [h4]; decide), nI_clamp (by omega), if_pos (show 8 + x < 31 by omega), nI_1]
      exact hr
    rcases qs_firstCover L hS x (by omega) 0 (Nat.zero_le _) y with ⟨g, g1, g2, g3⟩ | ⟨g2, g3⟩
    · refine ⟨nI (g ||| F), go _ ?_, Or.inl ⟨x, g, g1, rfl, g3, hB⟩⟩
      rw [g2, Option.bind_some]
      dsimp only
      rw [if_pos (show (0 : Int32) ≤ nI g from nI_pos' (by omega)), mq_or]
      refine qe_Cover_findFewest_24_p73 L _ _ _ _ l _ ?_
      have hlt : g ||| F < 2 ^ 20 := Nat.or_lt_two_pow g1 hF
      rw [if_pos (show (0 : Int32) ≤ mj_up i 31 4 (nI (g ||| F)) 31 4 from by rw [mq_upi_at, if_pos rfl]; exact nI_pos' (by omega))]
      split <;> rfl
    · have h1 := ih (x + 1) (mj_up i 31 4 (-1 : Int32)) (by omega) (hS.up _) (by rw [mq_upi_at, if_pos rfl]) (fun B hb => g3 B hb)
      obtain ⟨v, v1, v2⟩ := h1
      refine ⟨v, go _ ?_, v2⟩
      rw [g2, Option.bind_some]
      dsimp only
      rw [if_neg (by decide), v1]
      congr 2
      funext a b
      by_cases ea : a = 31
      · subst ea
        rw [mq_upi_at, mq_upi_at, mq_upi_at]
        by_cases eb : b = 4
        · rw [if_pos eb, if_pos eb]
        · rw [if_neg eb, if_neg eb, if_neg eb]
      · rw [mq_upn ea, mq_upn ea, mq_upn ea]
theorem mw_ct_out {A : Nat → Bool} {k : Nat} (h : ∀ j, A j = true → j < m) (hk : m ≤ k) : mq_ct A k = mq_ct A m := by
  have e := mq_ct_shift A m (k - m)
  rw [show m + (k - m) = k by omega] at e
  rw [e, mq_ct_none (P := fun j => A (m + j)) (fun j _ => by
    show A (m + j) = false
    cases h2 : A (m + j)
    · rfl
    · have := h _ h2; omega), Nat.add_zero]
theorem qs_size (L : Nat) {C : Nat} (hC : C < 2 ^ 20) (h4 : i 31 4 = nI C) (hm : ∀ j, mw_tb C j = true → j < m) (h20 : m ≤ 20) : qf_Cover_size L i l = some (nI (mq_ct (mw_tb C) m), i, l) := by
  refine qe_Cover_size L i l _ ?_
  rw [if_pos (show (0 : Int32) ≤ i 31 4 from by rw [h4]; exact nI_pos' (by omega)), h4, qs_bitCountN L i l (by omega), Option.bind_some]
  dsimp only
  rw [show mq_ct (fun j => C.testBit j) 31 = mq_ct (mw_tb C) m from mw_ct_out hm (by omega)]
theorem qs_size_none (L : Nat) (h4 : i 31 4 = -1) : qf_Cover_size L i l = some (-9, i, l) := by
  refine qe_Cover_size L i l _ ?_
  rw [if_neg (show ¬ (0 : Int32) ≤ i 31 4 from by rw [h4]; decide)]
theorem qs_member (L : Nat) {C q : Nat} {T : Nat → Nat} (hC : C < 2 ^ 20) (h3 : i 31 3 = nI m) (h4 : i 31 4 = nI C) (h20 : m ≤ 20) (h32 : ∀ j, j < m → i 32 j = nI (T j)) (hq : q < 2 ^ 31) : (∀ p, p < m → mw_tb C p = true → mq_ct (mw_tb C) p = q → qf_Cover_member L (nI q) i l = some (nI (T p), i, l)) ∧ ((∀ p, p < m → mw_tb C p = true → mq_ct (mw_tb C) p ≠ q) → qf_Cover_member L (nI q) i l = some (-9, i, l)) := by
  have c4 : ¬ i 31 4 < (0 : Int32) := by rw [h4]; exact nI_pos (by omega)
  have loop : ∀ (f x : Nat), x + f = m → (∀ p, x ≤ p → p < m → mw_tb C p = true → mq_ct (mw_tb C) p = q → qf_Cover_member_p4 L (nI q) (nI (mq_ct (mw_tb C) x)) (nI x) i l = some (nI (T p), i, l)) ∧ ((∀ p, x ≤ p → p < m → mw_tb C p = true → mq_ct (mw_tb C) p ≠ q) → qf_Cover_member_p4 L (nI q) (nI (mq_ct (mw_tb C) x)) (nI x) i l = some (-9, i, l)) := by
    intro f
    induction f with
    | zero =>
      intro x hx
      have hx : x = m := hx
      subst hx
      refine ⟨fun p h1 h2 => by omega, fun _ => qe_Cover_member_p4 L _ _ _ i l _ ?_⟩
      rw [h3, if_pos (nI_le (Nat.le_refl _) (by omega))]
    | succ f ih =>
      intro x hx
      obtain ⟨i1, i2⟩ := ih (x + 1) (by omega)
      have hb := mw_bit (F := C) (j := x) (by omega) (by omega)
      have hcx := mq_ct_le (mw_tb C) x
      have ecq : nI (mq_ct (mw_tb C) x) = nI q ↔ mq_ct (mw_tb C) x = q := nI_eq (by omega) hq
      have e1 : mq_ct (mw_tb C) (x + 1) = mq_ct (mw_tb C) x + (if mw_tb C x = true then 1 else 0) := rfl
      cases e : mw_tb C x with
      | false =>
        have e1 : mq_ct (mw_tb C) (x + 1) = mq_ct (mw_tb C) x := by rw [e1, e]; rfl
        have go : ∀ r, qf_Cover_member_p4 L (nI q) (nI (mq_ct (mw_tb C) (x + 1))) (nI (x + 1)) i l = some r → qf_Cover_member_p4 L (nI q) (nI (mq_ct (mw_tb C) x)) (nI x) i l = some r := by
          intro r hr
          refine qe_Cover_member_p4 L _ _ _ i l _ ?_
          rw [h3, if_neg (nI_ge (by omega) (by omega)), if_neg c4, h4, if_neg (fun z => by rw [hb.mp z] at e; cases e), nI_1, ← e1]
          exact hr
        refine ⟨fun p h1 h2 h3 h5 => go _ (i1 p ?_ h2 h3 h5), fun h => go _ (i2 fun p h1 => h p (by omega))⟩
        have : p ≠ x := fun z => by rw [z, e] at h3; cases h3
        omega
      | true =>
        rw [e, if_pos rfl] at e1
        by_cases hq2 : mq_ct (mw_tb C) x = q
        · have res : qf_Cover_member_p4 L (nI q) (nI (mq_ct (mw_tb C) x)) (nI x) i l = some (nI (T x), i, l) := by
            refine qe_Cover_member_p4 L _ _ _ i l _ ?_
            rw [h3, if_neg (nI_ge (by omega) (by omega)), if_neg c4, h4, if_pos (hb.mpr e), if_pos (ecq.mpr hq2), qs_Two_at_32 L i l (by omega), Option.bind_some]
            dsimp only
            rw [h32 x (by omega)]
          refine ⟨fun p h1 h2 h3 h5 => ?_, fun h => absurd hq2 (h x (Nat.le_refl _) (by omega) e)⟩
          by_cases ep : p = x
          · rw [ep]; exact res
          · exfalso
            have h6 := mq_ct_shift (mw_tb C) (x + 1) (p - (x + 1))
            rw [show x + 1 + (p - (x + 1)) = p by omega] at h6
            omega
        · have go : ∀ r, qf_Cover_member_p4 L (nI q) (nI (mq_ct (mw_tb C) (x + 1))) (nI (x + 1)) i l = some r → qf_Cover_member_p4 L (nI q) (nI (mq_ct (mw_tb C) x)) (nI x) i l = some r := by
            intro r hr
            refine qe_Cover_member_p4 L _ _ _ i l _ ?_
            rw [h3, if_neg (nI_ge (by omega) (by omega)), if_neg c4, h4, if_pos (hb.mpr e), if_neg (fun z => hq2 (ecq.mp z)), nI_1, nI_1, ← e1]
            exact hr
          refine ⟨fun p h1 h2 h3 h5 => go _ (i1 p ?_ h2 h3 h5), fun h => go _ (i2 fun p h1 => h p (by omega))⟩
          have : p ≠ x := fun z => hq2 (by rw [← z]; exact h5)
          omega
  obtain ⟨a1, a2⟩ := loop m 0 (by omega)
  exact ⟨fun p h2 h3 h5 => qe_Cover_member L _ i l _ (a1 p (Nat.zero_le _) h2 h3 h5), fun h => qe_Cover_member L _ i l _ (a2 fun p _ => h p)⟩
theorem qs_member_none (L : Nat) {x : Int32} (h3 : i 31 3 = nI m) (h4 : i 31 4 = -1) : qf_Cover_member L x i l = some (-9, i, l) := by
  refine qe_Cover_member L _ i l _ (qe_Cover_member_p4 L _ _ _ i l _ ?_)
  split
  · rfl
  · rw [if_pos (show i 31 4 < (0 : Int32) from by rw [h4]; decide)]
end
