/-! The drawer's letters, on both sides. -/
theorem mq_rc.congr {tx : Nat → Int32} {i i' : mMI} {u p : Nat} (h : mq_rc tx i u p) (g : ∀ a, 50 ≤ a ∧ a ≤ 54 → i' a = i a) : mq_rc tx i' u p := by
  unfold mq_rc mq_no at h ⊢
  rw [g 50 (by omega), g 51 (by omega), g 52 (by omega), g 53 (by omega), g 54 (by omega)]
  exact h
theorem mq_KD.congr {o : Nat} {i i' : mMI} {D : mq_D} (h : mq_KD o i D) (h10 : D 9 0 ≤ 10) (g : ∀ j, o ≤ j → j < o + 51 → i' 55 j = i 55 j) : mq_KD o i' D := by
  obtain ⟨a0, a1, a2, a3, a4, a5, a6, a7, a8, a9, a10, a11⟩ := h
  refine ⟨?_, ?_, ?_, ?_, ?_, ?_, ?_, fun j hj => ?_, fun j hj => ?_, fun j hj => ?_, fun j hj => ?_, fun j hj => ?_⟩
  · rw [g _ (by omega) (by omega)]; exact a0
  · rw [g _ (by omega) (by omega)]; exact a1
  · rw [g _ (by omega) (by omega)]; exact a2
  · rw [g _ (by omega) (by omega)]; exact a3
  · rw [g _ (by omega) (by omega)]; exact a4
  · rw [g _ (by omega) (by omega)]; exact a5
  · rw [g _ (by omega) (by omega)]; exact a6
  · rw [g _ (by omega) (by omega)]; exact a7 j hj
  · rw [g _ (by omega) (by omega)]; exact a8 j hj
  · rw [g _ (by omega) (by omega)]; exact a9 j hj
  · rw [g _ (by omega) (by omega)]; exact a10 j hj
  · rw [g _ (by omega) (by omega)]; exact a11 j hj
theorem mq_pa_ge (tx : Nat → Int32) (len : Nat) {f p : Nat} (h1 : (mq_se tx p).1 = true) (h2 : (mq_se tx p).2 < len) : mq_pa tx len (f + 1) p = ((mq_pa tx len f (mq_se tx p).2).1, (mq_pa tx len f (mq_se tx p).2).2.1, p :: (mq_pa tx len f (mq_se tx p).2).2.2) := by
  rw [mq_pa_s, if_pos h1, if_pos h2]
theorem mq_pa_end (tx : Nat → Int32) (len : Nat) {f p : Nat} (h1 : (mq_se tx p).1 = true) (h2 : ¬ (mq_se tx p).2 < len) : mq_pa tx len (f + 1) p = (true, 0, [p]) := by
  rw [mq_pa_s, if_pos h1, if_neg h2]
theorem mq_pa_bad (tx : Nat → Int32) (len : Nat) {f p : Nat} (h1 : ¬ (mq_se tx p).1 = true) : mq_pa tx len (f + 1) p = (false, (mq_se tx p).2, []) := by
  rw [mq_pa_s, if_neg h1]
theorem mq_pa_le {len : Nat} {t : Nat → Nat} : ∀ f p, p ≤ 96 → len ≤ 96 → (mq_pa (mq_tx len t) len f p).2.1 ≤ 120
  | 0, _, _, _ => Nat.zero_le _
  | f + 1, p, h, hl => by
    have hse := mq_se_le (len := len) (t := t) (p := p)
    by_cases h1 : (mq_se (mq_tx len t) p).1 = true
    · by_cases h2 : (mq_se (mq_tx len t) p).2 < len
      · rw [mq_pa_ge _ _ h1 h2]
        exact mq_pa_le f _ (by omega) hl
      · rw [mq_pa_end _ _ h1 h2]
        exact Nat.zero_le _
    · rw [mq_pa_bad _ _ h1]
      show (mq_se (mq_tx len t) p).2 ≤ 120
      omega
/-- from a statement on: both sides take the same course -/
def mq_Co (L len : Nat) (t : Nat → Nat) (p x : Nat) (ps : List Nat) (D D0 : mq_D) : Prop :=
  ∃ (ans : Int32) (c : Bool) (D' : mq_D), (c = true → mq_Ok D' ∧ ¬ ans ≤ 0) ∧ (c = false → ans ≤ 0) ∧
    (∀ (i : mMI) (l : mML), mq_CT i len t → mq_CD 14 15 16 17 18 19 i D → ∃ i' : mMI, qf_Letters_readInto_14_p23 L (nI x) (nI p) (nI x) i l = some (ans, i', l) ∧ (c = true → mq_CD 14 15 16 17 18 19 i' D') ∧ ∀ a, ¬ (14 ≤ a ∧ a ≤ 19) → i' a = i a) ∧
    (∀ (i : mMI) (l : mML), mq_Mr i len t → mq_MD i D → (∀ u q, ps[u]? = some q → mq_rc (mq_tx len t) i (x + u) q) → i 42 21 = nI (x + ps.length) → mq_KD 60 i D0 → ∃ i' : mMI, qf_Mod_drawer_p86 L (nI x) i l = some (ans, i', l) ∧ mq_MD i' (if c = true then D' else D0) ∧ (∀ a, a ≠ 42 → ¬ (44 ≤ a ∧ a ≤ 48) → i' a = i a) ∧ ∀ j, ¬ (6 ≤ j ∧ j ≤ 12) → j ≠ 22 → j ≠ 23 → j ≠ 26 → j ≠ 27 → i' 42 j = i 42 j)
theorem mq_fault : ∀ p, p < 128 → (-2000 : Int32) - nI p ≤ 0 := by decide +kernel
theorem mq_fault1 : ∀ p, p < 128 → (-1000 : Int32) - nI p ≤ 0 := by decide +kernel
theorem mq_course (L : Nat) {len : Nat} {t : Nat → Nat} (ht : ∀ j, j < len → t j ≤ 255) (h96 : len ≤ 96) {D0 : mq_D} (h10 : D0 9 0 ≤ 10) : ∀ (f p x : Nat) (D : mq_D), x + f = 49 → 2 * x ≤ p → p ≤ 96 → mq_Ok D → (mq_pa (mq_tx len t) len f p).1 = true → mq_Co L len t p x (mq_pa (mq_tx len t) len f p).2.2 D D0 := by
  intro f
  induction f with
  | zero =>
    intro p x D hx h2 hp
    omega
  | succ f ih =>
    intro p x D hx h2 hp hO hgood
    by_cases h1 : (mq_se (mq_tx len t) p).1 = true
    case neg => rw [mq_pa_bad _ _ h1] at hgood; cases hgood
    obtain ⟨s1, s2, s3⟩ := mq_se_in ht h1
    obtain ⟨c, D1, hc, hm, hO1⟩ := mq_comes L ht h1 hp hO
    -- the class up to the statement's coming
    have clsA : ∀ (i i1 : mMI) (l : mML), mq_CT i len t → qf_Letters_comes_14 L (nI p) i l = some (mq_b c, i1, l) → ∀ r, (if (mq_b c : Int32) = (0 : Int32) then (some (((-2000 : Int32) - nI p), i1, l)) else ((qf_Letters_statementEnd L (nI p) i1 l).bind fun q2 => (qf_Letters_readInto_14_p23 L (nI x + (1 : Int32)) q2.1 (nI x + (1 : Int32)) q2.2.1 q2.2.2))) = some r → qf_Letters_readInto_14_p23 L (nI x) (nI p) (nI x) i l = some r := by
      intro i i1 l hT hq r hr
      refine qe_Letters_readInto_14_p23 L _ _ _ i l _ ?_
      rw [if_neg (show ¬ (96 : Int32) ≤ nI x from nI_ge (a := x) (b := 96) (by omega) (by omega)), if_neg (show ¬ i 20 1 ≤ nI p from by rw [hT.1]; exact nI_ge (by omega) (by omega)), hq, Option.bind_some]
      exact hr
    have modA : ∀ (i i1 : mMI) (l : mML) (n : Nat), i 42 21 = nI n → x < n → n < 2 ^ 31 → qf_Mod_comes L (nI x) i l = some (mq_b c, i1, l) → ∀ r, (if (mq_b c : Int32) = (0 : Int32) then ((qf_Mod_passesAll L (1 : Int32) (0 : Int32) i1 l).bind fun q2 => (if (nI x : Int32) < 0 ∨ 48 ≤ Int32.toNatClampNeg (nI x) then none else (some (((-2000 : Int32) - (q2.1 51 (Int32.toNatClampNeg (nI x)))), q2.1, q2.2)))) else (qf_Mod_drawer_p86 L (nI x + (1 : Int32)) i1 l)) = some r → qf_Mod_drawer_p86 L (nI x) i l = some r := by
      intro i i1 l n h21 hn h31 hq r hr
      refine qe_Mod_drawer_p86 L _ i l _ ?_
      rw [if_neg (show ¬ i 42 21 ≤ nI x from by rw [h21]; exact nI_ge hn h31), hq, Option.bind_some]
      exact hr
    have hlen : ∃ ps, (mq_pa (mq_tx len t) len (f + 1) p).2.2 = p :: ps := by
      by_cases h2 : (mq_se (mq_tx len t) p).2 < len
      · rw [mq_pa_ge _ _ h1 h2]; exact ⟨_, rfl⟩
      · rw [mq_pa_end _ _ h1 h2]; exact ⟨_, rfl⟩
    have h48 : x < 48 := by omega
    cases c with
    | false =>
      obtain ⟨ps, hps⟩ := hlen
      have hpl : ps.length < 1000 := by
        have : ∀ f p, (mq_pa (mq_tx len t) len f p).2.2.length ≤ f := by
          intro f
          induction f with
          | zero => intro p; exact Nat.le_refl _
          | succ f ih =>
            intro p
            by_cases h1 : (mq_se (mq_tx len t) p).1 = true
            · by_cases h2 : (mq_se (mq_tx len t) p).2 < len
              · rw [mq_pa_ge _ _ h1 h2]
                have := ih (mq_se (mq_tx len t) p).2
                show (_ :: _).length ≤ _
                rw [List.length_cons]
                omega
              · rw [mq_pa_end _ _ h1 h2]
                show (1 : Nat) ≤ _
                omega
            · rw [mq_pa_bad _ _ h1]
              exact Nat.zero_le _
        have := this (f + 1) p
        rw [hps, List.length_cons] at this
        omega
      rw [hps]
      refine ⟨(-2000 : Int32) - nI p, false, D, fun z => absurd z (by decide), fun _ => mq_fault p (by omega), fun i l hT hC => ?_, fun i l hT hM hr h21 hK => ?_⟩
      · obtain ⟨i1, g1, g2, g3⟩ := hc i l hT hC
        refine ⟨i1, clsA i i1 l hT g1 _ ?_, fun z => absurd z (by decide), g3⟩
        rw [if_pos (show mq_b false = (0 : Int32) from rfl)]
      · obtain ⟨i1, g1, g2, g3, g4⟩ := hm i l x hT hM (hr 0 p rfl) h48
        obtain ⟨i2, e2, p2⟩ := qs_putAll L (w := 1) i1 l (by omega)
        have hK1 : mq_KD 60 i1 D0 := hK.congr h10 (fun j _ _ => by rw [g3 55 (by omega) (by omega)])
        have md := mq_Pp_MD p2 hK1 h10
        have e2' : qf_Mod_passesAll L (1 : Int32) (0 : Int32) i1 l = some (i2, l) := e2
        obtain ⟨-, -, q3, q4, -⟩ := p2
        have h51 : i 51 x = nI p := (hr 0 p rfl).2.1
        refine ⟨i2, modA i i1 l (x + (p :: ps).length) h21 (by rw [List.length_cons]; omega) (by rw [List.length_cons]; omega) g1 _ ?_, md, fun a h1 h2 => (q3 a h1 h2).trans (g3 a h1 h2), fun j j1 j2 j3 j4 j5 => (q4 j j1 j4 j5).trans (g4 j j1 j2 j3)⟩
        rw [if_pos (show mq_b false = (0 : Int32) from rfl), e2', Option.bind_some, if_neg (nI_in h48 (by omega)), nI_clamp (by omega)]
        dsimp only
        rw [q3 51 (by omega) (by omega), g3 51 (by omega) (by omega), h51]
    | true =>
      have hO1 := hO1 rfl
      by_cases hl : (mq_se (mq_tx len t) p).2 < len
      · rw [mq_pa_ge _ _ h1 hl] at hgood ⊢
        obtain ⟨ans, c, D', k1, k2, k3, k4⟩ := ih (mq_se (mq_tx len t) p).2 (x + 1) D1 (by omega) (by omega) (by omega) hO1 hgood
        refine ⟨ans, c, D', k1, k2, fun i l hT hC => ?_, fun i l hT hM hr h21 hK => ?_⟩
        · obtain ⟨i1, g1, g2, g3⟩ := hc i l hT hC
          have hT1 : mq_CT i1 len t := by
            unfold mq_CT
            rw [g3 20 (by omega), g3 21 (by omega)]
            exact hT
          obtain ⟨i2, m1, m2, m3⟩ := k3 i1 l hT1 (g2 rfl)
          refine ⟨i2, clsA i i1 l hT g1 _ ?_, m2, fun a ha => (m3 a ha).trans (g3 a ha)⟩
          rw [if_neg (show ¬ mq_b true = (0 : Int32) by decide), qs_statementEnd L l hT1 (by omega), Option.bind_some, nI_1]
          dsimp only
          rw [show mq_en (mq_se (mq_tx len t) p) = nI (mq_se (mq_tx len t) p).2 from if_pos h1]
          exact m1
        · obtain ⟨i1, g1, g2, g3, g4⟩ := hm i l x hT hM (hr 0 p rfl) h48
          obtain ⟨i2, m1, m2, m3, m4⟩ := k4 i1 l (by unfold mq_Mr; rw [g3 49 (by omega) (by omega)]; exact hT) (g2 rfl) (fun u q hu => by
            have := hr (u + 1) q hu
            rw [show x + (u + 1) = x + 1 + u by omega] at this
            exact this.congr fun a ha => g3 a (by omega) (by omega)) (by
            rw [g4 21 (by omega) (by omega) (by omega), h21, List.length_cons]
            exact congrArg nI (by omega)) (hK.congr h10 (fun j _ _ => by rw [g3 55 (by omega) (by omega)]))
          have hpl : (mq_pa (mq_tx len t) len f (mq_se (mq_tx len t) p).2).2.2.length < 1000 := by
            have : ∀ f p, (mq_pa (mq_tx len t) len f p).2.2.length ≤ f := by
              intro f
              induction f with
              | zero => intro p; exact Nat.le_refl _
              | succ f ih =>
                intro p
                by_cases h1 : (mq_se (mq_tx len t) p).1 = true
                · by_cases h2 : (mq_se (mq_tx len t) p).2 < len
                  · rw [mq_pa_ge _ _ h1 h2]
                    have := ih (mq_se (mq_tx len t) p).2
                    show (_ :: _).length ≤ _
                    rw [List.length_cons]
                    omega
                  · rw [mq_pa_end _ _ h1 h2]
                    show (1 : Nat) ≤ _
                    omega
                · rw [mq_pa_bad _ _ h1]
                  exact Nat.zero_le _
            have := this f (mq_se (mq_tx len t) p).2
            omega
          refine ⟨i2, modA i i1 l _ h21 (by rw [List.length_cons]; omega) (by rw [List.length_cons]; omega) g1 _ ?_, m2, fun a h1 h2 => (m3 a h1 h2).trans (g3 a h1 h2), fun j j1 j2 j3 j4 j5 => (m4 j j1 j2 j3 j4 j5).trans (g4 j j1 j2 j3)⟩
          rw [if_neg (show ¬ mq_b true = (0 : Int32) by decide), nI_1]
          exact m1
      · rw [mq_pa_end _ _ h1 hl] at hgood ⊢
        refine ⟨nI (x + 1), true, D1, fun _ => ⟨hO1, nI_ge (a := 0) (b := x + 1) (by omega) (by omega)⟩, fun z => absurd z (by decide), fun i l hT hC => ?_, fun i l hT hM hr h21 hK => ?_⟩
        · obtain ⟨i1, g1, g2, g3⟩ := hc i l hT hC
          have hT1 : mq_CT i1 len t := by
            unfold mq_CT
            rw [g3 20 (by omega), g3 21 (by omega)]
            exact hT
          refine ⟨i1, clsA i i1 l hT g1 _ ?_, fun _ => g2 rfl, g3⟩
          rw [if_neg (show ¬ mq_b true = (0 : Int32) by decide), qs_statementEnd L l hT1 (by omega), Option.bind_some, nI_1]
          dsimp only
          rw [show mq_en (mq_se (mq_tx len t) p) = nI (mq_se (mq_tx len t) p).2 from if_pos h1]
          refine qe_Letters_readInto_14_p23 L _ _ _ i1 l _ ?_
          rw [if_neg (show ¬ (96 : Int32) ≤ nI (x + 1) from nI_ge (a := x + 1) (b := 96) (by omega) (by omega)), if_pos (show i1 20 1 ≤ nI _ from by rw [hT1.1]; exact nI_le (by omega) (by omega))]
        · obtain ⟨i1, g1, g2, g3, g4⟩ := hm i l x hT hM (hr 0 p rfl) h48
          have h21' : i 42 21 = nI (x + 1) := h21
          refine ⟨i1, modA i i1 l _ h21' (by omega) (by omega) g1 _ ?_, g2 rfl, g3, fun j j1 j2 j3 _ _ => g4 j j1 j2 j3⟩
          rw [if_neg (show ¬ mq_b true = (0 : Int32) by decide), nI_1]
          refine qe_Mod_drawer_p86 L _ i1 l _ ?_
          rw [if_pos (show i1 42 21 ≤ nI (x + 1) from by rw [g4 21 (by omega) (by omega) (by omega), h21']; exact nI_le (Nat.le_refl _) (by omega)), g4 21 (by omega) (by omega) (by omega), h21']
section
variable {i : mMI} {l : mML} {D P M : mq_D} {R : Nat → Int32}
/-- the relation once the letters are gone -/
theorem mq_RC_gone {i' : mMI} {D' : mq_D} (h : mq_RC i D P M R) (hc : mq_CD 2 3 4 5 6 7 i' D') (h20 : i' 20 1 = nI 0) (g : ∀ k, (k = 1 ∨ 8 ≤ k ∧ k ≤ 13 ∨ k = 22 ∨ k = 23) → i' k = i k) : mq_RC i' D' P (mq_u M 1 0 0) R := by
  obtain ⟨_, a1, a2, a3, a4, a5, a6, a7⟩ := h
  unfold mq_RC mq_CD
  rw [g 1 (by omega), g 8 (by omega), g 9 (by omega), g 10 (by omega), g 11 (by omega), g 12 (by omega), g 13 (by omega), g 22 (by omega), g 23 (by omega)]
  exact ⟨hc, a1, a2, h20, fun j hj => absurd hj (by show ¬ j < 0; omega), a5, a6, a7⟩
theorem mq_RM_gone {i' : mMI} {D' : mq_D} (h : mq_RM i D P M R) (h10 : M 0 0 = 1 → P 9 0 ≤ 10) (hc : mq_MD i' D') (h19 : i' 42 19 = nI 0) (g25 : i' 42 25 = i 42 25) (g53 : i' 42 53 = i 42 53) (g55 : ∀ j, j < 60 → i' 55 j = i 55 j) (g : ∀ k, (k = 43 ∨ k = 68 ∨ k = 69 ∨ k = 72) → i' k = i k) : mq_RM i' D' P (mq_u M 1 0 0) R := by
  obtain ⟨_, a1, ⟨a2, a2b, a2c⟩, a3, a4, a5, a6, a7⟩ := h
  refine ⟨hc, ?_, ⟨fun z => (a2 z).congr (h10 z) (fun j _ hj => g55 j (by omega)), ?_, ?_⟩, h19, fun j hj => absurd hj (by show ¬ j < 0; omega), ?_, ?_, ?_⟩
  · rw [g25]; exact a1
  · rw [g 68 (by omega)]; exact a2b
  · rw [g 69 (by omega)]; exact a2c
  · rw [g53]; exact a5
  · rw [g 72 (by omega)]; exact a6
  · rw [g 43 (by omega)]; exact a7
theorem qp_drawer (L : Nat) (hC : mq_RC i D P M R) (hM : mq_RM i D P M R) (hO : mq_OkS D P M) : mq_P (fun i l => qf_Two_drawer L i l) (fun i l => qf_Mod_drawer L i l) i l := by
  obtain ⟨hOD, hO0, hOP, hO1, hO3, hO2, hO4⟩ := hO
  have h10 : D 9 0 ≤ 10 := hOD.2.2.2.2.2.2.2.2.2.1
  have hP10 : M 0 0 = 1 → P 9 0 ≤ 10 := fun z => (hOP z).2.2.2.2.2.2.2.2.2.1
  have hOS : ∀ D', mq_Ok D' → mq_OkS D' P (mq_u M 1 0 0) := fun D' h => ⟨h, hO0, hOP, Nat.zero_le _, fun j hj => absurd hj (by show ¬ j < 0; omega), hO2, hO4⟩
  obtain ⟨i1, b1, b2, b3⟩ := qs_become_14_2 L i l hC.1 h10
  have b4 : ∀ k, ¬ (14 ≤ k ∧ k ≤ 19) → i1 k = i k := fun k hk => b3 k (by omega) (by omega) (by omega) (by omega) (by omega) (by omega)
  have hT1 : mq_CT i1 (M 1 0) (M 3) := by
    unfold mq_CT
    rw [b4 20 (by omega), b4 21 (by omega)]
    exact ⟨hC.2.2.2.1, hC.2.2.2.2.1, hO1⟩
  have hCD1 : ∀ i2 : mMI, (∀ k, ¬ (14 ≤ k ∧ k ≤ 19) → i2 k = i1 k) → mq_CD 2 3 4 5 6 7 (mj_up i2 20 1 (0 : Int32)) D := by
    intro i2 h2
    unfold mq_CD
    rw [mq_upn (show 2 ≠ 20 by omega), mq_upn (show 3 ≠ 20 by omega), mq_upn (show 4 ≠ 20 by omega), mq_upn (show 5 ≠ 20 by omega), mq_upn (show 6 ≠ 20 by omega), mq_upn (show 7 ≠ 20 by omega), h2 2 (by omega), h2 3 (by omega), h2 4 (by omega), h2 5 (by omega), h2 6 (by omega), h2 7 (by omega), b4 2 (by omega), b4 3 (by omega), b4 4 (by omega), b4 5 (by omega), b4 6 (by omega), b4 7 (by omega)]
    exact hC.1
  have fm := qs_firstMisspelt L (i := i1) l hT1 hO3
  have hle := mq_pa_le (len := M 1 0) (t := M 3) 49 0 (by omega) hO1
  -- the model up to its reading's end
  have model : ∀ i0, mq_RM i0 D P M R → ∃ i', (∀ r, qf_Mod_drawer_p60 L (mq_b (mq_pa (mq_tx (M 1 0) (M 3)) (M 1 0) 49 0).1) i' l = some r → qf_Mod_drawer L i0 l = some r) ∧ mq_ft i0 i' ∧ ((mq_pa (mq_tx (M 1 0) (M 3)) (M 1 0) 49 0).1 = false → i' 42 20 = nI (mq_pa (mq_tx (M 1 0) (M 3)) (M 1 0) 49 0).2.1) ∧ ((mq_pa (mq_tx (M 1 0) (M 3)) (M 1 0) 49 0).1 = true → i' 42 21 = nI (mq_pa (mq_tx (M 1 0) (M 3)) (M 1 0) 49 0).2.2.length ∧ mq_rs (mq_tx (M 1 0) (M 3)) i' (mq_pa (mq_tx (M 1 0) (M 3)) (M 1 0) 49 0).2.2) := by
    intro i0 h0
    have q20 : mj_up (mj_up i0 42 20 (0 : Int32)) 42 21 (0 : Int32) 42 20 = nI 0 := by rw [mq_upi_at, if_neg (by omega), mq_upi_at, if_pos rfl]; rfl
    have q21 : mj_up (mj_up i0 42 20 (0 : Int32)) 42 21 (0 : Int32) 42 21 = nI 0 := by rw [mq_upi_at, if_pos rfl]; rfl
    have hft : mq_ft i0 (mj_up (mj_up i0 42 20 (0 : Int32)) 42 21 (0 : Int32)) := ⟨fun a h1 _ => by rw [mq_upn h1, mq_upn h1], fun j j1 j2 => by rw [mq_upi_at, if_neg j2, mq_upi_at, if_neg j1]⟩
    have hMT : mq_MT (mj_up (mj_up i0 42 20 (0 : Int32)) 42 21 (0 : Int32)) (M 1 0) (M 3) := ⟨by rw [hft.2 19 (by omega) (by omega)]; exact h0.2.2.2.1, by rw [hft.1 49 (by omega) (by omega)]; exact h0.2.2.2.2.1, hO1⟩
    obtain ⟨i', m1, m2, m3, m4⟩ := mq_readAll L l hO3 i0 49 0 0 [] _ rfl (by omega) (by omega) (Or.inr ⟨rfl, rfl⟩) rfl hMT q20 q21 (fun u p hu => absurd hu (by simp)) hft
    refine ⟨i', fun r hr => ?_, m2, m3, m4⟩
    refine qe_Mod_drawer L i0 l _ (qe_Mod_drawer_p12 L _ _ l _ ?_)
    rw [if_neg (by decide)]
    split
    · exact m1 r hr
    · rw [if_pos (show mj_up (mj_up i0 42 20 (0 : Int32)) 42 21 (0 : Int32) 42 21 = (0 : Int32) from q21)]
      exact m1 r hr
  cases hg : (mq_pa (mq_tx (M 1 0) (M 3)) (M 1 0) 49 0).1 with
  | false =>
    rw [hg] at model
    generalize hv : (mq_pa (mq_tx (M 1 0) (M 3)) (M 1 0) 49 0).2.1 = v at hle model
    have e : mq_pe (mq_pa (mq_tx (M 1 0) (M 3)) (M 1 0) 49 0) = nI v := by
      unfold mq_pe
      rw [if_neg (by rw [hg]; decide), hv]
    rw [e] at fm
    refine mq_P_mk (D' := D) (P' := P) (R' := R) (M' := mq_u M 1 0 0) (r := (-1000 : Int32) - nI v) (i1 := mj_up i1 20 1 (0 : Int32)) (l1 := l) hM (qe_Two_drawer L i l _ ?_) ?_ (fun k hk => by rw [mq_upn (by omega)]; exact b4 k (by omega)) (hOS D hOD) (fun i0 h0 => ?_)
    · have er : qf_Letters_readInto_14 L i1 l = some ((-1000 : Int32) - nI v, i1, l) := by
        refine qe_Letters_readInto_14 L i1 l _ ?_
        rw [fm, Option.bind_some]
        dsimp only
        rw [if_neg (nI_pos (by omega))]
      rw [b1, Option.bind_some]
      dsimp only
      rw [er, Option.bind_some]
      dsimp only
      rw [if_pos (mq_fault1 v (by omega))]
    · exact mq_RC_gone hC (hCD1 i1 fun _ _ => rfl) (by rw [mq_upi_at, if_pos rfl]; rfl) (fun k hk => by rw [mq_upn (by omega)]; exact b4 k (by omega))
    · obtain ⟨i', m1, m2, m3, -⟩ := model i0 h0
      refine ⟨mj_up i' 42 19 (0 : Int32), l, m1 _ (qe_Mod_drawer_p60 L _ i' l _ ?_), ?_, fun k hk => by rw [mq_upn (by omega)]; exact m2.1 k (by omega) (by omega)⟩
      · rw [if_pos (show mq_b false = (0 : Int32) from rfl), m3 rfl]
      · have md : mq_MD i' D := by
          unfold mq_MD
          rw [m2.1 44 (by omega) (by omega), m2.1 45 (by omega) (by omega), m2.1 46 (by omega) (by omega), m2.1 47 (by omega) (by omega), m2.1 48 (by omega) (by omega), m2.2 6 (by omega) (by omega), m2.2 7 (by omega) (by omega), m2.2 8 (by omega) (by omega), m2.2 9 (by omega) (by omega), m2.2 10 (by omega) (by omega), m2.2 11 (by omega) (by omega), m2.2 12 (by omega) (by omega)]
          exact h0.1
        have md' : mq_MD (mj_up i' 42 19 (0 : Int32)) D := by
          unfold mq_MD
          rw [mq_upn (show 44 ≠ 42 by omega), mq_upn (show 45 ≠ 42 by omega), mq_upn (show 46 ≠ 42 by omega), mq_upn (show 47 ≠ 42 by omega), mq_upn (show 48 ≠ 42 by omega), mq_upi_at, mq_upi_at, mq_upi_at, mq_upi_at, mq_upi_at, mq_upi_at, mq_upi_at, if_neg (by omega), if_neg (by omega), if_neg (by omega), if_neg (by omega), if_neg (by omega), if_neg (by omega), if_neg (by omega)]
          exact md
        exact mq_RM_gone h0 hP10 md' (by rw [mq_upi_at, if_pos rfl]; rfl) (by rw [mq_upi_at, if_neg (by omega)]; exact m2.2 25 (by omega) (by omega)) (by rw [mq_upi_at, if_neg (by omega)]; exact m2.2 53 (by omega) (by omega)) (fun j _ => by rw [mq_upn (by omega), m2.1 55 (by omega) (by omega)]) (fun k hk => by rw [mq_upn (by omega)]; exact m2.1 k (by omega) (by omega))
  | true =>
    rw [hg] at model
    have e : mq_pe (mq_pa (mq_tx (M 1 0) (M 3)) (M 1 0) 49 0) = (-1 : Int32) := if_pos hg
    rw [e] at fm
    obtain ⟨ans, c, D', k1, k2, k3, k4⟩ := mq_course L hO3 hO1 h10 49 0 0 D rfl (by omega) (by omega) hOD hg
    obtain ⟨i2, n1, n2, n3⟩ := k3 i1 l hT1 b2
    have er : qf_Letters_readInto_14 L i1 l = some (ans, i2, l) := by
      refine qe_Letters_readInto_14 L i1 l _ ?_
      rw [fm, Option.bind_some]
      dsimp only
      rw [if_pos (by decide)]
      exact n1
    -- the model's course, whatever comes of it
    have rest : ∀ i0, mq_RM i0 D P M R → ∃ i2 l2, qf_Mod_drawer L i0 l = some (ans, i2, l2) ∧ mq_RM i2 (if c = true then D' else D) P (mq_u M 1 0 0) R ∧ ∀ k, k < 42 → i2 k = i0 k := by
      intro i0 h0
      obtain ⟨i', m1, m2, -, m4⟩ := model i0 h0
      obtain ⟨m4, m5⟩ := m4 rfl
      have md' : mq_MD (mj_up i' 42 19 (0 : Int32)) D := by
        unfold mq_MD
        rw [mq_upn (show 44 ≠ 42 by omega), mq_upn (show 45 ≠ 42 by omega), mq_upn (show 46 ≠ 42 by omega), mq_upn (show 47 ≠ 42 by omega), mq_upn (show 48 ≠ 42 by omega), mq_upi_at, mq_upi_at, mq_upi_at, mq_upi_at, mq_upi_at, mq_upi_at, mq_upi_at, if_neg (by omega), if_neg (by omega), if_neg (by omega), if_neg (by omega), if_neg (by omega), if_neg (by omega), if_neg (by omega), m2.1 44 (by omega) (by omega), m2.1 45 (by omega) (by omega), m2.1 46 (by omega) (by omega), m2.1 47 (by omega) (by omega), m2.1 48 (by omega) (by omega), m2.2 6 (by omega) (by omega), m2.2 7 (by omega) (by omega), m2.2 8 (by omega) (by omega), m2.2 9 (by omega) (by omega), m2.2 10 (by omega) (by omega), m2.2 11 (by omega) (by omega), m2.2 12 (by omega) (by omega)]
        exact h0.1
      obtain ⟨i3, e3, p3⟩ := qs_keepAll L (w := 1) (mj_up i' 42 19 (0 : Int32)) l (by omega)
      have kd := mq_Kp_KD p3 md' h10
      have e3' : qf_Mod_passesAll L (1 : Int32) (1 : Int32) (mj_up i' 42 19 (0 : Int32)) l = some (i3, l) := e3
      obtain ⟨-, -, q3, q4, -, q6⟩ := p3
      have fr : ∀ a, a ≠ 42 → ¬ (50 ≤ a ∧ a ≤ 55) → i3 a = i0 a := fun a h1 h2 => by rw [q3 a h1 (by omega), mq_upn h1]; exact m2.1 a h1 (by omega)
      have fr42 : ∀ j, j ≠ 19 → j ≠ 20 → j ≠ 21 → j ≠ 26 → j ≠ 27 → i3 42 j = i0 42 j := fun j j1 j2 j3 j4 j5 => by rw [q4 j j4 j5, mq_upi_at, if_neg j1]; exact m2.2 j j2 j3
      have md3 : mq_MD i3 D := by
        unfold mq_MD
        rw [fr 44 (by omega) (by omega), fr 45 (by omega) (by omega), fr 46 (by omega) (by omega), fr 47 (by omega) (by omega), fr 48 (by omega) (by omega), fr42 6 (by omega) (by omega) (by omega) (by omega) (by omega), fr42 7 (by omega) (by omega) (by omega) (by omega) (by omega), fr42 8 (by omega) (by omega) (by omega) (by omega) (by omega), fr42 9 (by omega) (by omega) (by omega) (by omega) (by omega), fr42 10 (by omega) (by omega) (by omega) (by omega) (by omega), fr42 11 (by omega) (by omega) (by omega) (by omega) (by omega), fr42 12 (by omega) (by omega) (by omega) (by omega) (by omega)]
        exact h0.1
      obtain ⟨i4, r1, r2, r3, r4⟩ := k4 i3 l ⟨by rw [fr 49 (by omega) (by omega)]; exact h0.2.2.2.2.1, hO1⟩ md3 (fun u q hu => by
        have := m5 u q hu
        rw [Nat.zero_add]
        exact this.congr fun a ha => by rw [q3 a (by omega) (by omega), mq_upn (by omega)]) (by rw [q4 21 (by omega) (by omega), mq_upi_at, if_neg (by omega), m4, Nat.zero_add]) kd
      refine ⟨i4, l, m1 _ (qe_Mod_drawer_p60 L _ i' l _ ?_), mq_RM_gone h0 hP10 r2 ?_ ?_ ?_ (fun j hj => ?_) (fun k hk => ?_), fun k hk => ?_⟩
      · rw [if_neg (show ¬ mq_b true = (0 : Int32) by decide), e3', Option.bind_some]
        exact r1
      · rw [r4 19 (by omega) (by omega) (by omega) (by omega) (by omega), q4 19 (by omega) (by omega), mq_upi_at, if_pos rfl]; rfl
      · rw [r4 25 (by omega) (by omega) (by omega) (by omega) (by omega)]; exact fr42 25 (by omega) (by omega) (by omega) (by omega) (by omega)
      · rw [r4 53 (by omega) (by omega) (by omega) (by omega) (by omega)]; exact fr42 53 (by omega) (by omega) (by omega) (by omega) (by omega)
      · rw [r3 55 (by omega) (by omega), q6 j (Or.inl (by omega)), mq_upn (by omega), m2.1 55 (by omega) (by omega)]
      · rw [r3 k (by omega) (by omega)]; exact fr k (by omega) (by omega)
      · rw [r3 k (by omega) (by omega)]; exact fr k (by omega) (by omega)
    have f2 : ∀ k, ¬ (14 ≤ k ∧ k ≤ 19) → i2 k = i k := fun k hk => (n3 k hk).trans (b4 k hk)
    cases c with
    | false =>
      refine mq_P_mk (D' := D) (P' := P) (R' := R) (M' := mq_u M 1 0 0) (r := ans) (i1 := mj_up i2 20 1 (0 : Int32)) (l1 := l) hM (qe_Two_drawer L i l _ ?_) ?_ (fun k hk => by rw [mq_upn (by omega)]; exact f2 k (by omega)) (hOS D hOD) rest
      · rw [b1, Option.bind_some]
        dsimp only
        rw [er, Option.bind_some]
        dsimp only
        rw [if_pos (k2 rfl)]
      · exact mq_RC_gone hC (hCD1 i2 n3) (by rw [mq_upi_at, if_pos rfl]; rfl) (fun k hk => by rw [mq_upn (by omega)]; exact f2 k (by omega))
    | true =>
      obtain ⟨hO', hans⟩ := k1 rfl
      have c14 : mq_CD 14 15 16 17 18 19 (mj_up i2 20 1 (0 : Int32)) D' := by
        have := n2 rfl
        unfold mq_CD at this ⊢
        rw [mq_upn (show 14 ≠ 20 by omega), mq_upn (show 15 ≠ 20 by omega), mq_upn (show 16 ≠ 20 by omega), mq_upn (show 17 ≠ 20 by omega), mq_upn (show 18 ≠ 20 by omega), mq_upn (show 19 ≠ 20 by omega)]
        exact this
      obtain ⟨i5, u1, u2, u3⟩ := qs_become_2_14 L _ l c14 hO'.2.2.2.2.2.2.2.2.2.1
      have u4 : ∀ k, ¬ (2 ≤ k ∧ k ≤ 7) → k ≠ 20 → ¬ (14 ≤ k ∧ k ≤ 19) → i5 k = i k := fun k h1 h2 h3 => by
        rw [u3 k (by omega) (by omega) (by omega) (by omega) (by omega) (by omega), mq_upn h2]
        exact f2 k h3
      refine mq_P_mk (D' := D') (P' := P) (R' := R) (M' := mq_u M 1 0 0) (r := ans) (i1 := i5) (l1 := l) hM (qe_Two_drawer L i l _ ?_) ?_ (fun k hk => u4 k (by omega) (by omega) (by omega)) (hOS D' hO') rest
      · rw [b1, Option.bind_some]
        dsimp only
        rw [er, Option.bind_some]
        dsimp only
        rw [if_neg hans, u1, Option.bind_some]
      · exact mq_RC_gone hC u2 (by rw [u3 20 (by omega) (by omega) (by omega) (by omega) (by omega) (by omega), mq_upi_at, if_pos rfl]; rfl) (fun k hk => u4 k (by omega) (by omega) (by omega))
end
