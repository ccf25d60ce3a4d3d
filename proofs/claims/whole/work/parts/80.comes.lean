/-! A statement comes, on both sides. -/
theorem mq_b01 (c : Bool) : mq_b c = (0 : Int32) ∨ mq_b c = (1 : Int32) := by cases c
                                                                              · exact Or.inl rfl
                                                                              · exact Or.inr rfl
theorem mq_tfb (c : Prop) [Decidable c] : mq_tf c = mq_b (decide c) := by
  unfold mq_tf mq_b
  by_cases h : c
  · rw [if_pos h, if_pos (decide_eq_true h)]
  · rw [if_neg h, if_neg (fun z => h (of_decide_eq_true z))]
theorem mq_dn_len {len : Nat} {t : Nat → Nat} (ht : ∀ j, j < len → t j ≤ 255) : ∀ m p, p ≤ len → p + mq_dn (mq_tx len t) m p ≤ len
  | 0, p, h => h
  | m + 1, p, h => by
    simp only [mq_dn]
    by_cases hc : mq_dv (mq_tx len t p) < 0
    · rw [if_pos hc]; exact h
    · rw [if_neg hc]
      have hp : p < len := mq_tx_in ht (fun e => hc (by rw [e]; decide))
      have := mq_dn_len ht m (p + 1) hp
      omega
theorem mq_se_min {tx : Nat → Int32} {p : Nat} {q : Nat × Nat} (hq : mq_hd (tx p) = some q) (h : (mq_se tx p).1 = true) : q.2 ≤ mq_dn tx q.1 (p + 1) := by
  unfold mq_se at h
  rw [hq] at h
  dsimp only at h
  by_cases hc : mq_dn tx q.1 (p + 1) < q.2
  · rw [if_pos hc] at h; cases h
  · omega
/-- whether a statement comes, and the drawer that it leaves -/
def mq_Cc (L len : Nat) (t : Nat → Nat) (p : Nat) (D : mq_D) (c : Bool) (D' : mq_D) : Prop := ∀ (i : mMI) (l : mML), mq_CT i len t → mq_CD 14 15 16 17 18 19 i D → ∃ i' : mMI, qf_Letters_comes_14 L (nI p) i l = some (mq_b c, i', l) ∧ (c = true → mq_CD 14 15 16 17 18 19 i' D') ∧ ∀ a, ¬ (14 ≤ a ∧ a ≤ 19) → i' a = i a
def mq_Cm (L len : Nat) (t : Nat → Nat) (p : Nat) (D : mq_D) (c : Bool) (D' : mq_D) : Prop := ∀ (i : mMI) (l : mML) (s : Nat), mq_Mr i len t → mq_MD i D → mq_rc (mq_tx len t) i s p → s < 48 → ∃ i' : mMI, qf_Mod_comes L (nI s) i l = some (mq_b c, i', l) ∧ (c = true → mq_MD i' D') ∧ (∀ a, a ≠ 42 → ¬ (44 ≤ a ∧ a ≤ 48) → i' a = i a) ∧ ∀ j, ¬ (6 ≤ j ∧ j ≤ 12) → j ≠ 22 → j ≠ 23 → i' 42 j = i 42 j
theorem mq_MD_set {i i' : mMI} {D : mq_D} (h : mq_MD i D) (g : ∀ a, a ≠ 42 → i' a = i a) (g2 : ∀ j, j ≠ 22 → j ≠ 23 → i' 42 j = i 42 j) : mq_MD i' D := by
  unfold mq_MD at h ⊢
  rw [g 44 (by omega), g 45 (by omega), g 46 (by omega), g 47 (by omega), g 48 (by omega), g2 6 (by omega) (by omega), g2 7 (by omega) (by omega), g2 8 (by omega) (by omega), g2 9 (by omega) (by omega), g2 10 (by omega) (by omega), g2 11 (by omega) (by omega), g2 12 (by omega) (by omega)]
  exact h
section
variable {i : mMI} {len : Nat} {t : Nat → Nat}
theorem qs_cc_110 (L : Nat) {p : Nat} {c : Bool} {i i' : mMI} {l : mML} (h : mq_CT i len t) (hp : p ≤ 96) (hx : mq_tx len t p = 110) (g : qf_Letters_batteriesCome_14 L (mq_dv (mq_tx len t (p + 1))) i l = some (mq_b c, i', l)) : qf_Letters_comes_14 L (nI p) i l = some (mq_b c, i', l) := by
  refine qe_Letters_comes_14 L _ i l _ ?_
  rw [show nI p + (1 : Int32) = nI (p + 1) from nI_add p 1, show nI p + (2 : Int32) = nI (p + 2) from nI_add p 2, qs_digit L l h (by omega), Option.bind_some]
  dsimp only
  rw [qs_digit L l h (by omega), Option.bind_some]
  dsimp only
  rw [qs_letter L l h (by omega), Option.bind_some]
  dsimp only
  rw [hx, if_neg (by decide), if_neg (by decide), if_neg (by decide), if_neg (by decide), if_neg (by decide), if_neg (by decide), if_neg (by decide), if_pos rfl]
  rw [g, Option.bind_some]
  dsimp only
  rw [if_pos (mq_b01 c)]
theorem qs_cc_107 (L : Nat) {p : Nat} {c : Bool} {i i' : mMI} {l : mML} (h : mq_CT i len t) (hp : p ≤ 96) (hx : mq_tx len t p = 107) (g : qf_Letters_kindComes_14 L (mq_dv (mq_tx len t (p + 1))) (mq_dv (mq_tx len t (p + 2))) (mq_dv (mq_tx len t (p + 3))) i l = some (mq_b c, i', l)) : qf_Letters_comes_14 L (nI p) i l = some (mq_b c, i', l) := by
  refine qe_Letters_comes_14 L _ i l _ ?_
  rw [show nI p + (1 : Int32) = nI (p + 1) from nI_add p 1, show nI p + (2 : Int32) = nI (p + 2) from nI_add p 2, qs_digit L l h (by omega), Option.bind_some]
  dsimp only
  rw [qs_digit L l h (by omega), Option.bind_some]
  dsimp only
  rw [qs_letter L l h (by omega), Option.bind_some]
  dsimp only
  rw [hx, if_neg (by decide), if_neg (by decide), if_neg (by decide), if_neg (by decide), if_pos rfl]
  rw [show nI p + (3 : Int32) = nI (p + 3) from nI_add p 3, qs_digit L l h (by omega), Option.bind_some]
  dsimp only
  rw [g, Option.bind_some]
  dsimp only
  rw [if_pos (mq_b01 c)]
theorem qs_cc_116 (L : Nat) {p : Nat} {c : Bool} {i i' : mMI} {l : mML} (h : mq_CT i len t) (hp : p ≤ 96) (hx : mq_tx len t p = 116) (g : qf_Letters_trulyComes_14 L (nI p) i l = some (mq_b c, i', l)) : qf_Letters_comes_14 L (nI p) i l = some (mq_b c, i', l) := by
  refine qe_Letters_comes_14 L _ i l _ ?_
  rw [show nI p + (1 : Int32) = nI (p + 1) from nI_add p 1, show nI p + (2 : Int32) = nI (p + 2) from nI_add p 2, qs_digit L l h (by omega), Option.bind_some]
  dsimp only
  rw [qs_digit L l h (by omega), Option.bind_some]
  dsimp only
  rw [qs_letter L l h (by omega), Option.bind_some]
  dsimp only
  rw [hx, if_neg (by decide), if_neg (by decide), if_neg (by decide), if_neg (by decide), if_neg (by decide), if_neg (by decide), if_neg (by decide), if_neg (by decide), if_neg (by decide), if_neg (by decide), if_neg (by decide), if_neg (by decide), if_neg (by decide), if_pos rfl]
  rw [g, Option.bind_some]
  dsimp only
  rw [if_pos (mq_b01 c)]
theorem qs_cc_108 (L : Nat) {p : Nat} {c : Bool} {i i' : mMI} {l : mML} (h : mq_CT i len t) (hp : p ≤ 96) (hx : mq_tx len t p = 108) (g : qf_Letters_lampComes_14 L (mq_dv (mq_tx len t (p + 1))) (mq_dv (mq_tx len t (p + 2))) i l = some (mq_b c, i', l)) : qf_Letters_comes_14 L (nI p) i l = some (mq_b c, i', l) := by
  refine qe_Letters_comes_14 L _ i l _ ?_
  rw [show nI p + (1 : Int32) = nI (p + 1) from nI_add p 1, show nI p + (2 : Int32) = nI (p + 2) from nI_add p 2, qs_digit L l h (by omega), Option.bind_some]
  dsimp only
  rw [qs_digit L l h (by omega), Option.bind_some]
  dsimp only
  rw [qs_letter L l h (by omega), Option.bind_some]
  dsimp only
  rw [hx, if_neg (by decide), if_neg (by decide), if_neg (by decide), if_neg (by decide), if_neg (by decide), if_pos rfl]
  rw [g, Option.bind_some]
  dsimp only
  rw [if_pos (mq_b01 c)]
theorem qs_cc_98 (L : Nat) {p : Nat} {c : Bool} {i i' : mMI} {l : mML} (h : mq_CT i len t) (hp : p ≤ 96) (hx : mq_tx len t p = 98) (g : qf_Letters_tryComes_14 L (nI p) i l = some (mq_b c, i', l)) : qf_Letters_comes_14 L (nI p) i l = some (mq_b c, i', l) := by
  refine qe_Letters_comes_14 L _ i l _ ?_
  rw [show nI p + (1 : Int32) = nI (p + 1) from nI_add p 1, show nI p + (2 : Int32) = nI (p + 2) from nI_add p 2, qs_digit L l h (by omega), Option.bind_some]
  dsimp only
  rw [qs_digit L l h (by omega), Option.bind_some]
  dsimp only
  rw [qs_letter L l h (by omega), Option.bind_some]
  dsimp only
  rw [hx, if_neg (by decide), if_neg (by decide), if_neg (by decide), if_neg (by decide), if_neg (by decide), if_neg (by decide), if_neg (by decide), if_neg (by decide), if_neg (by decide), if_neg (by decide), if_neg (by decide), if_neg (by decide), if_neg (by decide), if_neg (by decide)]
  rw [g, Option.bind_some]
  dsimp only
  rw [if_pos (mq_b01 c)]
theorem qs_cc_103 (L : Nat) {p : Nat} {c : Bool} {i i' : mMI} {l : mML} (h : mq_CT i len t) (hp : p ≤ 96) (hx : mq_tx len t p = 103) (g : qf_Letters_goodComes_14 L (mq_dv (mq_tx len t (p + 1))) (nI (if mq_tx len t (p + 2) = 43 then 1 else 0)) i l = some (mq_b c, i', l)) : qf_Letters_comes_14 L (nI p) i l = some (mq_b c, i', l) := by
  refine qe_Letters_comes_14 L _ i l _ ?_
  rw [show nI p + (1 : Int32) = nI (p + 1) from nI_add p 1, show nI p + (2 : Int32) = nI (p + 2) from nI_add p 2, qs_digit L l h (by omega), Option.bind_some]
  dsimp only
  rw [qs_digit L l h (by omega), Option.bind_some]
  dsimp only
  rw [qs_letter L l h (by omega), Option.bind_some]
  dsimp only
  rw [hx, if_pos rfl, qs_letter L l h (by omega), Option.bind_some]
  dsimp only
  by_cases h43 : mq_tx len t (p + 2) = 43
  · rw [if_pos h43] at g ⊢
    rw [show (1 : Int32) = nI 1 from rfl, g, Option.bind_some]
    dsimp only
    rw [show nI 1 = (1 : Int32) from rfl, if_pos (mq_b01 c)]
  · rw [if_neg h43] at g ⊢
    rw [show (0 : Int32) = nI 0 from rfl, g, Option.bind_some]
    dsimp only
    rw [show nI 0 = (0 : Int32) from rfl, if_pos (mq_b01 c)]
theorem mq_cm_110 (L : Nat) {p : Nat} {D : mq_D} (ht : ∀ j, j < len → t j ≤ 255) (hse : (mq_se (mq_tx len t) p).1 = true) (hp : p ≤ 96) (hO : mq_Ok D) (hx : mq_tx len t p = 110) : ∃ c D', mq_Cc L len t p D c D' ∧ mq_Cm L len t p D c D' ∧ (c = true → mq_Ok D') := by
  have hq : mq_hd (mq_tx len t p) = some (1, 1) := by rw [hx]; rfl
  have hm : 1 ≤ mq_dn (mq_tx len t) 1 (p + 1) := mq_se_min hq hse
  obtain ⟨d1, d2, d3⟩ := mq_dg_in (mq_dn_d (mq_tx len t) 1 (p + 1) 0 hm)
  rw [Nat.add_zero] at d1 d2 d3
  generalize mq_dg (mq_tx len t (p + 1)) = d at d1 d2 d3
  by_cases hd : 2 ≤ d ∧ d ≤ 8
  · refine ⟨true, mq_new D d, fun i l hT hC => ?_, fun i l s hT hM hr hs => ?_, fun _ => mq_Ok_new hO hd⟩
    · obtain ⟨i', g1, g2, g3⟩ := qs_renew L i l hC hO hd
      refine ⟨i', qs_cc_110 L (c := true) hT hp hx ?_, fun _ => g2, g3⟩
      refine qe_Letters_batteriesCome_14 L _ i l _ ?_
      rw [d2, if_neg (show ¬ nI d < (2 : Int32) from nI_nlt (a := d) (b := 2) hd.1 (by omega)), if_pos (show nI d ≤ (8 : Int32) from nI_le (a := d) (b := 8) hd.2 (by omega)), g1, Option.bind_some]
      rfl
    · obtain ⟨i', g1, g2, g3, g4⟩ := qs_begins L i l hM hO hd
      refine ⟨i', ?_, fun _ => g2, g3, fun j hj _ _ => g4 j hj⟩
      refine qe_Mod_comes L _ i l _ ?_
      rw [show (3 : Int32) * nI s = nI (3 * s) from pk_mul 3 s, show nI (3 * s) + (1 : Int32) = nI (3 * s + 1) from nI_add (3 * s) 1, show nI (3 * s) + (2 : Int32) = nI (3 * s + 2) from nI_add (3 * s) 2, if_neg (nI_in (show 3 * s < 144 by omega) (by omega)), if_neg (nI_in (show 3 * s + 1 < 144 by omega) (by omega)), if_neg (nI_in hs (by omega)), nI_clamp (show 3 * s < 2 ^ 31 by omega), nI_clamp (show 3 * s + 1 < 2 ^ 31 by omega), nI_clamp (show s < 2 ^ 31 by omega), hr.1, hx]
      rw [if_neg (by decide), if_neg (by decide), if_neg (by decide), if_neg (by decide), if_neg (by decide), if_neg (by decide), if_neg (by decide), if_pos rfl]
      rw [hr.2.2.1.1 (by rw [hx]; decide), d2, qs_isIn_1 L i l (show ¬ nI d < (2 : Int32) from nI_nlt (a := d) (b := 2) hd.1 (by omega)) (show ¬ (8 : Int32) < nI d from nI_nlt (a := 8) (b := d) hd.2 (by omega)), Option.bind_some]
      dsimp only
      rw [if_neg (by decide), g1, Option.bind_some]
      rfl
  · refine ⟨false, D, fun i l hT hC => ⟨i, qs_cc_110 L (c := false) hT hp hx ?_, fun z => absurd z (by decide), fun _ _ => rfl⟩, fun i l s hT hM hr hs => ⟨i, ?_, fun z => absurd z (by decide), fun _ _ _ => rfl, fun _ _ _ _ => rfl⟩, fun z => absurd z (by decide)⟩
    · refine qe_Letters_batteriesCome_14 L _ i l _ ?_
      rw [d2]
      by_cases h2 : d < 2
      · rw [if_pos (show nI d < (2 : Int32) from nI_lt (a := d) (b := 2) h2 (by omega))]
        rfl
      · rw [if_neg (show ¬ nI d < (2 : Int32) from nI_nlt (a := d) (b := 2) (by omega) (by omega)), if_neg (show ¬ nI d ≤ (8 : Int32) from nI_ge (a := 8) (b := d) (by omega) (by omega))]
        rfl
    · skip
      refine qe_Mod_comes L _ i l _ ?_
      rw [show (3 : Int32) * nI s = nI (3 * s) from pk_mul 3 s, show nI (3 * s) + (1 : Int32) = nI (3 * s + 1) from nI_add (3 * s) 1, show nI (3 * s) + (2 : Int32) = nI (3 * s + 2) from nI_add (3 * s) 2, if_neg (nI_in (show 3 * s < 144 by omega) (by omega)), if_neg (nI_in (show 3 * s + 1 < 144 by omega) (by omega)), if_neg (nI_in hs (by omega)), nI_clamp (show 3 * s < 2 ^ 31 by omega), nI_clamp (show 3 * s + 1 < 2 ^ 31 by omega), nI_clamp (show s < 2 ^ 31 by omega), hr.1, hx]
      rw [if_neg (by decide), if_neg (by decide), if_neg (by decide), if_neg (by decide), if_neg (by decide), if_neg (by decide), if_neg (by decide), if_pos rfl]
      rw [hr.2.2.1.1 (by rw [hx]; decide), d2]
      by_cases h2 : d < 2
      · rw [qs_isIn_lo L i l (show nI d < (2 : Int32) from nI_lt (a := d) (b := 2) h2 (by omega)), Option.bind_some]
        rfl
      · rw [qs_isIn_hi L i l (show ¬ nI d < (2 : Int32) from nI_nlt (a := d) (b := 2) (by omega) (by omega)) (show (8 : Int32) < nI d from nI_lt (a := 8) (b := d) (by omega) (by omega)), Option.bind_some]
        rfl
theorem mq_cm_103 (L : Nat) {p : Nat} {D : mq_D} (ht : ∀ j, j < len → t j ≤ 255) (hse : (mq_se (mq_tx len t) p).1 = true) (hp : p ≤ 96) (hO : mq_Ok D) (hx : mq_tx len t p = 103) : ∃ c D', mq_Cc L len t p D c D' ∧ mq_Cm L len t p D c D' ∧ (c = true → mq_Ok D') := by
  have hq : mq_hd (mq_tx len t p) = some (1, 1) := by rw [hx]; rfl
  have hm : 1 ≤ mq_dn (mq_tx len t) 1 (p + 1) := mq_se_min hq hse
  obtain ⟨d1, d2, d3⟩ := mq_dg_in (mq_dn_d (mq_tx len t) 1 (p + 1) 0 hm)
  rw [Nat.add_zero] at d1 d2 d3
  generalize mq_dg (mq_tx len t (p + 1)) = d at d1 d2 d3
  have h8 := hO.1.2
  have ha : (if mq_tx len t (p + 2) = 43 then 1 else 0) ≤ 1 := by split <;> omega
  have e43 : (if mq_tx len t (p + 2) = 43 then (1 : Int32) else 0) = nI (if mq_tx len t (p + 2) = 43 then 1 else 0) := by
    by_cases h : mq_tx len t (p + 2) = 43
    · rw [if_pos h, if_pos h]; rfl
    · rw [if_neg h, if_neg h]; rfl
  have sign : ∀ (i : mMI) (s : Nat), mq_rc (mq_tx len t) i s p → i 52 (3 * s + 1) = nI (if mq_tx len t (p + 2) = 43 then 1 else 0) := fun i s hr => (hr.2.2.1.2.2.2.1 hx).trans e43
  have good := fun (i : mMI) (l : mML) (i' : mMI) (c : Bool) (hT : mq_CT i len t) => qs_cc_103 L (p := p) (c := c) (i := i) (i' := i') (l := l) hT hp hx
  generalize (if mq_tx len t (p + 2) = 43 then 1 else 0) = a at ha sign good
  by_cases hd : d ≤ D 0 0
  · refine ⟨true, mq_u (mq_u D 5 0 d) 6 0 a, fun i l hT hC => ?_, fun i l s hT hM hr hs => ?_, fun _ => mq_Ok_good hO hd ha⟩
    · refine ⟨mj_up (mj_up i 14 5 (nI d)) 14 6 (nI a), good i l _ true hT ?_, fun _ => mq_Dk_s (mq_Dk_s hC (by omega)) (by omega), fun b hb => by rw [mq_upn (by omega), mq_upn (by omega)]⟩
      refine qe_Letters_goodComes_14 L _ _ i l _ ?_
      rw [d2, hC.1, if_pos (nI_le hd (by omega))]
      rfl
    · refine ⟨mj_up (mj_up i 42 8 (nI d)) 42 9 (nI a), ?_, fun _ => mq_Mk_s (mq_Mk_s hM (by omega)) (by omega), fun b h1 h2 => by rw [mq_upn h1, mq_upn h1], fun j h1 h2 h3 => by rw [mq_upi_at, if_neg (by omega), mq_upi_at, if_neg (by omega)]⟩
      refine qe_Mod_comes L _ i l _ ?_
      rw [show (3 : Int32) * nI s = nI (3 * s) from pk_mul 3 s, show nI (3 * s) + (1 : Int32) = nI (3 * s + 1) from nI_add (3 * s) 1, show nI (3 * s) + (2 : Int32) = nI (3 * s + 2) from nI_add (3 * s) 2, if_neg (nI_in (show 3 * s < 144 by omega) (by omega)), if_neg (nI_in (show 3 * s + 1 < 144 by omega) (by omega)), if_neg (nI_in hs (by omega)), nI_clamp (show 3 * s < 2 ^ 31 by omega), nI_clamp (show 3 * s + 1 < 2 ^ 31 by omega), nI_clamp (show s < 2 ^ 31 by omega), hr.1, hx]
      rw [if_pos rfl]
      rw [hr.2.2.1.1 (by rw [hx]; decide), d2, sign i s hr, hM.1, if_neg (nI_nlt hd (by omega))]
      rfl
  · refine ⟨false, D, fun i l hT hC => ⟨i, good i l _ false hT ?_, fun z => absurd z (by decide), fun _ _ => rfl⟩, fun i l s hT hM hr hs => ⟨mj_up (mj_up i 42 8 (nI d)) 42 9 (nI a), ?_, fun z => absurd z (by decide), fun b h1 h2 => by rw [mq_upn h1, mq_upn h1], fun j h1 h2 h3 => by rw [mq_upi_at, if_neg (by omega), mq_upi_at, if_neg (by omega)]⟩, fun z => absurd z (by decide)⟩
    · refine qe_Letters_goodComes_14 L _ _ i l _ ?_
      rw [d2, hC.1, if_neg (nI_ge (by omega) (by omega))]
      rfl
    · skip
      refine qe_Mod_comes L _ i l _ ?_
      rw [show (3 : Int32) * nI s = nI (3 * s) from pk_mul 3 s, show nI (3 * s) + (1 : Int32) = nI (3 * s + 1) from nI_add (3 * s) 1, show nI (3 * s) + (2 : Int32) = nI (3 * s + 2) from nI_add (3 * s) 2, if_neg (nI_in (show 3 * s < 144 by omega) (by omega)), if_neg (nI_in (show 3 * s + 1 < 144 by omega) (by omega)), if_neg (nI_in hs (by omega)), nI_clamp (show 3 * s < 2 ^ 31 by omega), nI_clamp (show 3 * s + 1 < 2 ^ 31 by omega), nI_clamp (show s < 2 ^ 31 by omega), hr.1, hx]
      rw [if_pos rfl]
      rw [hr.2.2.1.1 (by rw [hx]; decide), d2, sign i s hr, hM.1, if_pos (nI_lt (by omega) (by omega))]
      rfl
theorem mq_cm_107 (L : Nat) {p : Nat} {D : mq_D} (ht : ∀ j, j < len → t j ≤ 255) (hse : (mq_se (mq_tx len t) p).1 = true) (hp : p ≤ 96) (hO : mq_Ok D) (hx : mq_tx len t p = 107) : ∃ c D', mq_Cc L len t p D c D' ∧ mq_Cm L len t p D c D' ∧ (c = true → mq_Ok D') := by
  have hq : mq_hd (mq_tx len t p) = some (3, 3) := by rw [hx]; rfl
  have hm : 3 ≤ mq_dn (mq_tx len t) 3 (p + 1) := mq_se_min hq hse
  obtain ⟨a1, a2, a3⟩ := mq_dg_in (mq_dn_d (mq_tx len t) 3 (p + 1) 0 (by omega))
  obtain ⟨b1, b2, b3⟩ := mq_dg_in (mq_dn_d (mq_tx len t) 3 (p + 1) 1 (by omega))
  obtain ⟨c1, c2, c3⟩ := mq_dg_in (mq_dn_d (mq_tx len t) 3 (p + 1) 2 (by omega))
  rw [Nat.add_zero] at a1 a2 a3
  rw [show p + 1 + 1 = p + 2 by omega] at b1 b2 b3
  rw [show p + 1 + 2 = p + 3 by omega] at c1 c2 c3
  generalize mq_dg (mq_tx len t (p + 1)) = b at a1 a2 a3
  generalize mq_dg (mq_tx len t (p + 2)) = k at b1 b2 b3
  generalize mq_dg (mq_tx len t (p + 3)) = f at c1 c2 c3
  have h8 := hO.1.2
  by_cases hb : b < D 0 0
  · have hbb : (0 : Int32) ≤ nI b ∧ nI b < nI (D 0 0) := ⟨nI_pos' (by omega), nI_lt hb (by omega)⟩
    by_cases hk : k ≤ 5
    · refine ⟨true, mq_mark D b k f, fun i l hT hC => ?_, fun i l s hT hM hr hs => ?_, fun _ => mq_Ok_mark hO hk c1⟩
      · refine ⟨mj_up (mj_up i 15 b (nI k)) 16 b (nI f), qs_cc_107 L (c := true) hT hp hx ?_, fun _ => mq_Dk_mark hC, fun x hb => by rw [mq_upn (by omega), mq_upn (by omega)]⟩
        refine qe_Letters_kindComes_14 L _ _ _ i l _ ?_
        have em : qf_Drawer_mark_14 L (nI b) (nI k) (nI f) i l = some (mj_up (mj_up i 15 b (nI k)) 16 b (nI f), l) := by
          refine qe_Drawer_mark_14 L _ _ _ i l _ ?_
          rw [qs_Two_store_15 L _ i l (by omega), Option.bind_some]
          dsimp only
          rw [qs_Two_store_16 L _ _ l (by omega), Option.bind_some]
        rw [a2, b2, c2, qs_Drawer_has_14 L _ i l hC hO, Option.bind_some, mq_tf_is hbb]
        dsimp only
        rw [if_neg (by decide), qs_noKind_0 L i l hk, Option.bind_some]
        dsimp only
        rw [if_pos rfl, em, Option.bind_some]
        rfl
      · refine ⟨mj_up (mj_up i 44 b (nI k)) 45 b (nI f), ?_, fun _ => mq_Mk_mark hM, fun x h1 h2 => by rw [mq_upn (by omega), mq_upn (by omega)], fun j h1 h2 h3 => by rw [mq_upn (by omega), mq_upn (by omega)]⟩
        refine qe_Mod_comes L _ i l _ ?_
        rw [show (3 : Int32) * nI s = nI (3 * s) from pk_mul 3 s, show nI (3 * s) + (1 : Int32) = nI (3 * s + 1) from nI_add (3 * s) 1, show nI (3 * s) + (2 : Int32) = nI (3 * s + 2) from nI_add (3 * s) 2, if_neg (nI_in (show 3 * s < 144 by omega) (by omega)), if_neg (nI_in (show 3 * s + 1 < 144 by omega) (by omega)), if_neg (nI_in hs (by omega)), nI_clamp (show 3 * s < 2 ^ 31 by omega), nI_clamp (show 3 * s + 1 < 2 ^ 31 by omega), nI_clamp (show s < 2 ^ 31 by omega), hr.1, hx]
        rw [if_neg (by decide), if_neg (by decide), if_neg (by decide), if_neg (by decide), if_pos rfl]
        rw [hr.2.2.1.1 (by rw [hx]; decide), hr.2.2.1.2.1 (Or.inl hx), a2, b2, qs_Mod_isBattery L _ i l hM, Option.bind_some, mq_tf_is hbb]
        dsimp only
        rw [if_neg (by decide), if_pos (show nI k ≤ (5 : Int32) from nI_le (a := k) (b := 5) hk (by omega)), if_neg (nI_in (show b < 8 by omega) (by omega)), if_neg (nI_in (show 3 * s + 2 < 144 by omega) (by omega)), if_neg (nI_in (show b < 8 by omega) (by omega)), nI_clamp (show 3 * s + 2 < 2 ^ 31 by omega), nI_clamp (show b < 2 ^ 31 by omega), hr.2.2.1.2.2.1 hx, c2]
        rfl
    · refine ⟨false, D, fun i l hT hC => ⟨i, qs_cc_107 L (c := false) hT hp hx ?_, fun z => absurd z (by decide), fun _ _ => rfl⟩, fun i l s hT hM hr hs => ⟨i, ?_, fun z => absurd z (by decide), fun _ _ _ => rfl, fun _ _ _ _ => rfl⟩, fun z => absurd z (by decide)⟩
      · refine qe_Letters_kindComes_14 L _ _ _ i l _ ?_
        rw [a2, b2, c2, qs_Drawer_has_14 L _ i l hC hO, Option.bind_some, mq_tf_is hbb]
        dsimp only
        rw [if_neg (by decide), qs_noKind_1 L i l (Or.inr (show (5 : Int32) < nI k from nI_lt (a := 5) (b := k) (by omega) (by omega))), Option.bind_some]
        rfl
      · skip
        refine qe_Mod_comes L _ i l _ ?_
        rw [show (3 : Int32) * nI s = nI (3 * s) from pk_mul 3 s, show nI (3 * s) + (1 : Int32) = nI (3 * s + 1) from nI_add (3 * s) 1, show nI (3 * s) + (2 : Int32) = nI (3 * s + 2) from nI_add (3 * s) 2, if_neg (nI_in (show 3 * s < 144 by omega) (by omega)), if_neg (nI_in (show 3 * s + 1 < 144 by omega) (by omega)), if_neg (nI_in hs (by omega)), nI_clamp (show 3 * s < 2 ^ 31 by omega), nI_clamp (show 3 * s + 1 < 2 ^ 31 by omega), nI_clamp (show s < 2 ^ 31 by omega), hr.1, hx]
        rw [if_neg (by decide), if_neg (by decide), if_neg (by decide), if_neg (by decide), if_pos rfl]
        rw [hr.2.2.1.1 (by rw [hx]; decide), hr.2.2.1.2.1 (Or.inl hx), a2, b2, qs_Mod_isBattery L _ i l hM, Option.bind_some, mq_tf_is hbb]
        dsimp only
        rw [if_neg (by decide), if_neg (show ¬ nI k ≤ (5 : Int32) from nI_ge (a := 5) (b := k) (by omega) (by omega))]
        rfl
  · have hbb : ¬ ((0 : Int32) ≤ nI b ∧ nI b < nI (D 0 0)) := fun z => nI_nlt (show D 0 0 ≤ b by omega) (by omega) z.2
    refine ⟨false, D, fun i l hT hC => ⟨i, qs_cc_107 L (c := false) hT hp hx ?_, fun z => absurd z (by decide), fun _ _ => rfl⟩, fun i l s hT hM hr hs => ⟨i, ?_, fun z => absurd z (by decide), fun _ _ _ => rfl, fun _ _ _ _ => rfl⟩, fun z => absurd z (by decide)⟩
    · refine qe_Letters_kindComes_14 L _ _ _ i l _ ?_
      rw [a2, b2, c2, qs_Drawer_has_14 L _ i l hC hO, Option.bind_some, mq_tf_no hbb]
      rfl
    · skip
      refine qe_Mod_comes L _ i l _ ?_
      rw [show (3 : Int32) * nI s = nI (3 * s) from pk_mul 3 s, show nI (3 * s) + (1 : Int32) = nI (3 * s + 1) from nI_add (3 * s) 1, show nI (3 * s) + (2 : Int32) = nI (3 * s + 2) from nI_add (3 * s) 2, if_neg (nI_in (show 3 * s < 144 by omega) (by omega)), if_neg (nI_in (show 3 * s + 1 < 144 by omega) (by omega)), if_neg (nI_in hs (by omega)), nI_clamp (show 3 * s < 2 ^ 31 by omega), nI_clamp (show 3 * s + 1 < 2 ^ 31 by omega), nI_clamp (show s < 2 ^ 31 by omega), hr.1, hx]
      rw [if_neg (by decide), if_neg (by decide), if_neg (by decide), if_neg (by decide), if_pos rfl]
      rw [hr.2.2.1.1 (by rw [hx]; decide), hr.2.2.1.2.1 (Or.inl hx), a2, b2, qs_Mod_isBattery L _ i l hM, Option.bind_some, mq_tf_no hbb]
      rfl
theorem mq_cm_108 (L : Nat) {p : Nat} {D : mq_D} (ht : ∀ j, j < len → t j ≤ 255) (hse : (mq_se (mq_tx len t) p).1 = true) (hp : p ≤ 96) (hO : mq_Ok D) (hx : mq_tx len t p = 108) : ∃ c D', mq_Cc L len t p D c D' ∧ mq_Cm L len t p D c D' ∧ (c = true → mq_Ok D') := by
  have hq : mq_hd (mq_tx len t p) = some (2, 2) := by rw [hx]; rfl
  have hm : 2 ≤ mq_dn (mq_tx len t) 2 (p + 1) := mq_se_min hq hse
  obtain ⟨a1, a2, a3⟩ := mq_dg_in (mq_dn_d (mq_tx len t) 2 (p + 1) 0 (by omega))
  obtain ⟨b1, b2, b3⟩ := mq_dg_in (mq_dn_d (mq_tx len t) 2 (p + 1) 1 (by omega))
  rw [Nat.add_zero] at a1 a2 a3
  rw [show p + 1 + 1 = p + 2 by omega] at b1 b2 b3
  generalize mq_dg (mq_tx len t (p + 1)) = k at a1 a2 a3
  generalize mq_dg (mq_tx len t (p + 2)) = n at b1 b2 b3
  have fr : ∀ (i : mMI), (∀ a, a ≠ 42 → ¬ (44 ≤ a ∧ a ≤ 48) → mj_up (mj_up (mj_up i 42 10 (nI k)) 42 11 (nI n)) 42 12 (nI 0) a = i a) ∧ ∀ j, ¬ (6 ≤ j ∧ j ≤ 12) → j ≠ 22 → j ≠ 23 → mj_up (mj_up (mj_up i 42 10 (nI k)) 42 11 (nI n)) 42 12 (nI 0) 42 j = i 42 j := fun i => ⟨fun b h1 h2 => by rw [mq_upn h1, mq_upn h1, mq_upn h1], fun j h1 h2 h3 => by rw [mq_upi_at, if_neg (by omega), mq_upi_at, if_neg (by omega), mq_upi_at, if_neg (by omega)]⟩
  by_cases hk : k ≤ 5
  · have c6 : ¬ (6 : Int32) ≤ nI k := nI_ge (a := k) (b := 6) (by omega) (by omega)
    by_cases hn : 2 ≤ n ∧ n ≤ 4
    · have n2 : ¬ nI n < (2 : Int32) := nI_nlt (a := n) (b := 2) hn.1 (by omega)
      refine ⟨true, mq_u (mq_u (mq_u D 7 0 k) 8 0 n) 9 0 0, fun i l hT hC => ?_, fun i l s hT hM hr hs => ?_, fun _ => mq_Ok_lamp hO hk hn⟩
      · refine ⟨mj_up (mj_up (mj_up i 14 7 (nI k)) 14 8 (nI n)) 14 9 (nI 0), qs_cc_108 L (c := true) hT hp hx ?_, fun _ => mq_Dk_9 (mq_Dk_s (mq_Dk_s hC (by omega)) (by omega)) (Nat.zero_le _), fun b hb => by rw [mq_upn (by omega), mq_upn (by omega), mq_upn (by omega)]⟩
        refine qe_Letters_lampComes_14 L _ _ i l _ ?_
        have em : qf_Drawer_takeLamp_14 L (nI k) (nI n) i l = some (mj_up (mj_up (mj_up i 14 7 (nI k)) 14 8 (nI n)) 14 9 (nI 0), l) := qe_Drawer_takeLamp_14 L _ _ i l _ rfl
        rw [a2, b2, qs_noKind_0 L i l hk, Option.bind_some]
        dsimp only
        rw [if_pos rfl, if_neg n2, if_pos (show nI n ≤ (4 : Int32) from nI_le (a := n) (b := 4) hn.2 (by omega)), em, Option.bind_some]
        rfl
      · refine ⟨mj_up (mj_up (mj_up i 42 10 (nI k)) 42 11 (nI n)) 42 12 (nI 0), ?_, fun _ => mq_Mk_9 (mq_Mk_s (mq_Mk_s hM (by omega)) (by omega)) (Nat.zero_le _), (fr i).1, (fr i).2⟩
        refine qe_Mod_comes L _ i l _ ?_
        rw [show (3 : Int32) * nI s = nI (3 * s) from pk_mul 3 s, show nI (3 * s) + (1 : Int32) = nI (3 * s + 1) from nI_add (3 * s) 1, show nI (3 * s) + (2 : Int32) = nI (3 * s + 2) from nI_add (3 * s) 2, if_neg (nI_in (show 3 * s < 144 by omega) (by omega)), if_neg (nI_in (show 3 * s + 1 < 144 by omega) (by omega)), if_neg (nI_in hs (by omega)), nI_clamp (show 3 * s < 2 ^ 31 by omega), nI_clamp (show 3 * s + 1 < 2 ^ 31 by omega), nI_clamp (show s < 2 ^ 31 by omega), hr.1, hx]
        rw [if_neg (by decide), if_neg (by decide), if_neg (by decide), if_neg (by decide), if_neg (by decide), if_pos rfl]
        rw [hr.2.2.1.1 (by rw [hx]; decide), hr.2.2.1.2.1 (Or.inr hx), a2, b2, if_neg c6, qs_isIn_1 L _ l n2 (show ¬ (4 : Int32) < nI n from nI_nlt (a := 4) (b := n) hn.2 (by omega)), Option.bind_some]
        rfl
    · refine ⟨false, D, fun i l hT hC => ⟨i, qs_cc_108 L (c := false) hT hp hx ?_, fun z => absurd z (by decide), fun _ _ => rfl⟩, fun i l s hT hM hr hs => ⟨mj_up (mj_up (mj_up i 42 10 (nI k)) 42 11 (nI n)) 42 12 (nI 0), ?_, fun z => absurd z (by decide), (fr i).1, (fr i).2⟩, fun z => absurd z (by decide)⟩
      · refine qe_Letters_lampComes_14 L _ _ i l _ ?_
        rw [a2, b2, qs_noKind_0 L i l hk, Option.bind_some]
        dsimp only
        rw [if_pos rfl]
        by_cases h2 : n < 2
        · rw [if_pos (show nI n < (2 : Int32) from nI_lt (a := n) (b := 2) h2 (by omega))]
          rfl
        · rw [if_neg (show ¬ nI n < (2 : Int32) from nI_nlt (a := n) (b := 2) (by omega) (by omega)), if_neg (show ¬ nI n ≤ (4 : Int32) from nI_ge (a := 4) (b := n) (by omega) (by omega))]
          rfl
      · skip
        refine qe_Mod_comes L _ i l _ ?_
        rw [show (3 : Int32) * nI s = nI (3 * s) from pk_mul 3 s, show nI (3 * s) + (1 : Int32) = nI (3 * s + 1) from nI_add (3 * s) 1, show nI (3 * s) + (2 : Int32) = nI (3 * s + 2) from nI_add (3 * s) 2, if_neg (nI_in (show 3 * s < 144 by omega) (by omega)), if_neg (nI_in (show 3 * s + 1 < 144 by omega) (by omega)), if_neg (nI_in hs (by omega)), nI_clamp (show 3 * s < 2 ^ 31 by omega), nI_clamp (show 3 * s + 1 < 2 ^ 31 by omega), nI_clamp (show s < 2 ^ 31 by omega), hr.1, hx]
        rw [if_neg (by decide), if_neg (by decide), if_neg (by decide), if_neg (by decide), if_neg (by decide), if_pos rfl]
        rw [hr.2.2.1.1 (by rw [hx]; decide), hr.2.2.1.2.1 (Or.inr hx), a2, b2, if_neg c6]
        by_cases h2 : n < 2
        · rw [qs_isIn_lo L _ l (show nI n < (2 : Int32) from nI_lt (a := n) (b := 2) h2 (by omega)), Option.bind_some]
          rfl
        · rw [qs_isIn_hi L _ l (show ¬ nI n < (2 : Int32) from nI_nlt (a := n) (b := 2) (by omega) (by omega)) (show (4 : Int32) < nI n from nI_lt (a := 4) (b := n) (by omega) (by omega)), Option.bind_some]
          rfl
  · refine ⟨false, D, fun i l hT hC => ⟨i, qs_cc_108 L (c := false) hT hp hx ?_, fun z => absurd z (by decide), fun _ _ => rfl⟩, fun i l s hT hM hr hs => ⟨mj_up (mj_up (mj_up i 42 10 (nI k)) 42 11 (nI n)) 42 12 (nI 0), ?_, fun z => absurd z (by decide), (fr i).1, (fr i).2⟩, fun z => absurd z (by decide)⟩
    · refine qe_Letters_lampComes_14 L _ _ i l _ ?_
      rw [a2, b2, qs_noKind_1 L i l (Or.inr (show (5 : Int32) < nI k from nI_lt (a := 5) (b := k) (by omega) (by omega))), Option.bind_some]
      rfl
    · skip
      refine qe_Mod_comes L _ i l _ ?_
      rw [show (3 : Int32) * nI s = nI (3 * s) from pk_mul 3 s, show nI (3 * s) + (1 : Int32) = nI (3 * s + 1) from nI_add (3 * s) 1, show nI (3 * s) + (2 : Int32) = nI (3 * s + 2) from nI_add (3 * s) 2, if_neg (nI_in (show 3 * s < 144 by omega) (by omega)), if_neg (nI_in (show 3 * s + 1 < 144 by omega) (by omega)), if_neg (nI_in hs (by omega)), nI_clamp (show 3 * s < 2 ^ 31 by omega), nI_clamp (show 3 * s + 1 < 2 ^ 31 by omega), nI_clamp (show s < 2 ^ 31 by omega), hr.1, hx]
      rw [if_neg (by decide), if_neg (by decide), if_neg (by decide), if_neg (by decide), if_neg (by decide), if_pos rfl]
      rw [hr.2.2.1.1 (by rw [hx]; decide), hr.2.2.1.2.1 (Or.inr hx), a2, b2, if_pos (show (6 : Int32) ≤ nI k from nI_le (a := 6) (b := k) (by omega) (by omega))]
      rfl
theorem mq_cm_116 (L : Nat) {p : Nat} {D : mq_D} (ht : ∀ j, j < len → t j ≤ 255) (hse : (mq_se (mq_tx len t) p).1 = true) (hp : p ≤ 96) (hO : mq_Ok D) (hx : mq_tx len t p = 116) : ∃ c D', mq_Cc L len t p D c D' ∧ mq_Cm L len t p D c D' ∧ (c = true → mq_Ok D') := by
  obtain ⟨s1, s2, s3⟩ := mq_se_in ht hse
  have hdl := mq_dn_len ht 8 (p + 1) (by omega)
  have h8 := hO.1.2
  have h31 := mq_pow h8
  have hS := mq_st_10 (mq_tx len t) 8 (p + 1)
  generalize hv : mq_st (mq_tx len t) 8 (p + 1) 0 = v at hS
  have all : ∀ (i : mMI), mq_CT i len t → qf_Letters_setFrom L (nI p + (1 : Int32)) i = qf_Letters_setFrom L (nI (p + 1)) i := fun i _ => by rw [nI_1]
  by_cases hd : v < 2 ^ D 0 0
  · have hset : nI v >>> (nI (D 0 0) &&& 31) = 0 := (mq_set hO.1.2).mpr ⟨v, hd, rfl⟩
    refine ⟨true, mq_u D 4 0 v, fun i l hT hC => ?_, fun i l s hT hM hr hs => ?_, fun _ => mq_Ok_truly hO hd⟩
    · refine ⟨mj_up i 14 4 (nI v), qs_cc_116 L (c := true) hT hp hx ?_, fun _ => mq_Dk_s hC (by omega), fun b hb => mq_upn (by omega)⟩
      refine qe_Letters_trulyComes_14 L _ i l _ ?_
      rw [nI_1, qs_setFrom L i l hT (by omega), Option.bind_some, hv]
      dsimp only
      rw [qs_Drawer_hasAll_14 L _ i l hC, Option.bind_some, mq_tf_is hset]
      rfl
    · obtain ⟨i', g1, g2, g3, g4, g5⟩ := qs_tellsSet L i l hT hM.1 h8 hs (hr.2.2.1.2.2.2.2.1 hx).1 (hr.2.2.1.2.2.2.2.1 hx).2 hdl
      rw [hv] at g1 g5
      refine ⟨mj_up i' 42 7 (nI v), ?_, fun _ => mq_Mk_s (mq_MD_set hM g2 g3) (by omega), fun b h1 h2 => by rw [mq_upn h1]; exact g2 b h1, fun j h1 h2 h3 => by rw [mq_upi_at, if_neg (by omega)]; exact g3 j h2 h3⟩
      refine qe_Mod_comes L _ i l _ ?_
      rw [show (3 : Int32) * nI s = nI (3 * s) from pk_mul 3 s, show nI (3 * s) + (1 : Int32) = nI (3 * s + 1) from nI_add (3 * s) 1, show nI (3 * s) + (2 : Int32) = nI (3 * s + 2) from nI_add (3 * s) 2, if_neg (nI_in (show 3 * s < 144 by omega) (by omega)), if_neg (nI_in (show 3 * s + 1 < 144 by omega) (by omega)), if_neg (nI_in hs (by omega)), nI_clamp (show 3 * s < 2 ^ 31 by omega), nI_clamp (show 3 * s + 1 < 2 ^ 31 by omega), nI_clamp (show s < 2 ^ 31 by omega), hr.1, hx]
      rw [if_neg (by decide), if_neg (by decide), if_neg (by decide), if_neg (by decide), if_neg (by decide), if_neg (by decide), if_neg (by decide), if_neg (by decide), if_neg (by decide), if_neg (by decide), if_neg (by decide), if_neg (by decide), if_neg (by decide), if_pos rfl]
      rw [g1, Option.bind_some, decide_eq_true hd]
      dsimp only
      rw [if_neg (by decide), g5 hd]
      rfl
  · have hset : ¬ nI v >>> (nI (D 0 0) &&& 31) = 0 := fun z => by
      obtain ⟨u, hu, e⟩ := (mq_set hO.1.2).mp z
      have := (nI_eq (a := v) (b := u) (by omega) (by omega)).mp e
      omega
    refine ⟨false, D, fun i l hT hC => ⟨i, qs_cc_116 L (c := false) hT hp hx ?_, fun z => absurd z (by decide), fun _ _ => rfl⟩, fun i l s hT hM hr hs => ?_, fun z => absurd z (by decide)⟩
    · refine qe_Letters_trulyComes_14 L _ i l _ ?_
      rw [nI_1, qs_setFrom L i l hT (by omega), Option.bind_some, hv]
      dsimp only
      rw [qs_Drawer_hasAll_14 L _ i l hC, Option.bind_some, mq_tf_no hset]
      rfl
    · obtain ⟨i', g1, g2, g3, g4, g5⟩ := qs_tellsSet L i l hT hM.1 h8 hs (hr.2.2.1.2.2.2.2.1 hx).1 (hr.2.2.1.2.2.2.2.1 hx).2 hdl
      rw [hv] at g1 g5
      refine ⟨i', ?_, fun z => absurd z (by decide), fun b h1 _ => g2 b h1, fun j _ h2 h3 => g3 j h2 h3⟩
      refine qe_Mod_comes L _ i l _ ?_
      rw [show (3 : Int32) * nI s = nI (3 * s) from pk_mul 3 s, show nI (3 * s) + (1 : Int32) = nI (3 * s + 1) from nI_add (3 * s) 1, show nI (3 * s) + (2 : Int32) = nI (3 * s + 2) from nI_add (3 * s) 2, if_neg (nI_in (show 3 * s < 144 by omega) (by omega)), if_neg (nI_in (show 3 * s + 1 < 144 by omega) (by omega)), if_neg (nI_in hs (by omega)), nI_clamp (show 3 * s < 2 ^ 31 by omega), nI_clamp (show 3 * s + 1 < 2 ^ 31 by omega), nI_clamp (show s < 2 ^ 31 by omega), hr.1, hx]
      rw [if_neg (by decide), if_neg (by decide), if_neg (by decide), if_neg (by decide), if_neg (by decide), if_neg (by decide), if_neg (by decide), if_neg (by decide), if_neg (by decide), if_neg (by decide), if_neg (by decide), if_neg (by decide), if_neg (by decide), if_pos rfl]
      rw [g1, Option.bind_some, decide_eq_false hd]
      rfl
theorem mq_cm_98 (L : Nat) {p : Nat} {D : mq_D} (ht : ∀ j, j < len → t j ≤ 255) (hse : (mq_se (mq_tx len t) p).1 = true) (hp : p ≤ 96) (hO : mq_Ok D) (hx : mq_tx len t p = 98) : ∃ c D', mq_Cc L len t p D c D' ∧ mq_Cm L len t p D c D' ∧ (c = true → mq_Ok D') := by
  have hq : mq_hd (mq_tx len t p) = some (9, 2) := by rw [hx]; rfl
  have hm : 2 ≤ mq_dn (mq_tx len t) 9 (p + 1) := mq_se_min hq hse
  obtain ⟨a1, a2, a3⟩ := mq_dg_in (mq_dn_d (mq_tx len t) 9 (p + 1) 0 (by omega))
  have hl2 : p + 2 ≤ len := by
    obtain ⟨s1, s2, s3⟩ := mq_se_in ht hse
    omega
  rw [Nat.add_zero] at a1 a2 a3
  generalize mq_dg (mq_tx len t (p + 1)) = d at a1 a2 a3
  have hdl := mq_dn_len ht 8 (p + 2) hl2
  have hd8 := mq_dn_le (mq_tx len t) 8 (p + 2)
  have h8 := hO.1.2
  have h31 := mq_pow h8
  have h10 := hO.2.2.2.2.2.2.2.2.2.1
  have hS := mq_st_10 (mq_tx len t) 8 (p + 2)
  have tel := fun (i : mMI) (l : mML) (s : Nat) (hT : mq_Mr i len t) (hM : mq_MD i D) (hs : s < 48) => qs_tellsSet (t := t) L (p := p + 2) i l hT hM.1 h8 hs
  generalize hv : mq_st (mq_tx len t) 8 (p + 2) 0 = v at hS tel
  generalize hc : mq_dn (mq_tx len t) 8 (p + 2) = e at hdl hd8 tel
  have hpv := mq_pop_le v
  have epop : nI (mq_pop v) = nI e ↔ mq_pop v = e := nI_eq (by omega) (by omega)
  have clsA : ∀ (i : mMI) (l : mML), mq_CT i len t → ∀ r, (if nI (mq_pop v) = nI e then (if ((1 : Int32) : Int32) = (0 : Int32) then (some ((0 : Int32), i, l)) else ((qf_Drawer_isTry_14 L (nI v) i l).bind fun q4 => (if (q4.1 : Int32) = (0 : Int32) then (some ((0 : Int32), q4.2.1, q4.2.2)) else (if ((q4.2.1 14 9) : Int32) < (10 : Int32) then ((qf_Letters_digit L (nI (p + 1)) q4.2.1 q4.2.2).bind fun q5 => ((qf_Drawer_write_14 L (nI v) q5.1 q5.2.1 q5.2.2).bind fun q6 => (some ((1 : Int32), q6.1, q6.2)))) else (some ((0 : Int32), q4.2.1, q4.2.2)))))) else (some ((0 : Int32), i, l))) = some r → qf_Letters_tryComes_14 L (nI p) i l = some r := by
    intro i l hT r hr
    refine qe_Letters_tryComes_14 L _ i l _ ?_
    rw [show nI p + (1 : Int32) = nI (p + 1) from nI_add p 1, show nI p + (2 : Int32) = nI (p + 2) from nI_add p 2, qs_setFrom L i l hT (by omega), Option.bind_some, hv]
    dsimp only
    rw [qs_bitCount L i l (by omega), Option.bind_some]
    dsimp only
    rw [show (8 : Int32) = nI 8 from rfl, qs_digitsFrom L l hT (by omega) (by omega), Option.bind_some, hc]
    dsimp only
    by_cases hpe : nI (mq_pop v) = nI e
    · rw [if_pos hpe] at hr ⊢
      exact hr
    · rw [if_neg hpe] at hr ⊢
      rw [if_pos rfl]
      exact hr
  by_cases hok : mq_pop v = e ∧ v < 2 ^ D 0 0 ∧ mq_try D v ∧ D 9 0 < 10
  · obtain ⟨h1, h2, h3, h4⟩ := hok
    refine ⟨true, mq_book D v d, fun i l hT hC => ?_, fun i l s hT hM hr hs => ?_, fun _ => mq_Ok_book hO h4 (by omega) a1⟩
    · refine ⟨mj_up (mj_up (mj_up i 18 (D 9 0) (nI v)) 19 (D 9 0) (nI d)) 14 9 (nI (D 9 0 + 1)), qs_cc_98 L (c := true) hT hp hx ?_, fun _ => mq_Dk_book hC, fun b hb => by rw [mq_upn (by omega), mq_upn (by omega), mq_upn (by omega)]⟩
      refine clsA i l hT _ ?_
      rw [if_pos (epop.mpr h1), if_neg (by decide), (qs_Drawer_isTry_14 L i l hC hO h2).1 h3, Option.bind_some]
      dsimp only
      rw [if_neg (by decide), if_pos (show i 14 9 < (10 : Int32) from by rw [hC.2.2.2.2.2.2.1]; exact nI_lt (a := D 9 0) (b := 10) h4 (by omega)), qs_digit L l hT (by omega), Option.bind_some, a2]
      dsimp only
      rw [qs_write_14 L _ _ i l hC.2.2.2.2.2.2.1 h4, Option.bind_some]
      rfl
    · obtain ⟨i', g1, g2, g3, g4, g5⟩ := tel i l s hT hM hs (hr.2.2.1.2.2.2.2.2 hx).1 (by rw [← hc]; exact (hr.2.2.1.2.2.2.2.2 hx).2) hdl
      have hM' := mq_MD_set hM g2 g3
      refine ⟨mj_up (mj_up (mj_up i' 47 (D 9 0) (nI v)) 48 (D 9 0) (nI d)) 42 12 (nI (D 9 0 + 1)), ?_, fun _ => mq_Mk_book hM', fun b h1 h2 => by rw [mq_upn h1, mq_upn (by omega), mq_upn (by omega)]; exact g2 b h1, fun j h1 h2 h3 => by rw [mq_upi_at, if_neg (by omega), mq_upn (by omega), mq_upn (by omega)]; exact g3 j h2 h3⟩
      refine qe_Mod_comes L _ i l _ ?_
      rw [show (3 : Int32) * nI s = nI (3 * s) from pk_mul 3 s, show nI (3 * s) + (1 : Int32) = nI (3 * s + 1) from nI_add (3 * s) 1, show nI (3 * s) + (2 : Int32) = nI (3 * s + 2) from nI_add (3 * s) 2, if_neg (nI_in (show 3 * s < 144 by omega) (by omega)), if_neg (nI_in (show 3 * s + 1 < 144 by omega) (by omega)), if_neg (nI_in hs (by omega)), nI_clamp (show 3 * s < 2 ^ 31 by omega), nI_clamp (show 3 * s + 1 < 2 ^ 31 by omega), nI_clamp (show s < 2 ^ 31 by omega), hr.1, hx]
      rw [if_neg (by decide), if_neg (by decide), if_neg (by decide), if_neg (by decide), if_neg (by decide), if_neg (by decide), if_neg (by decide), if_neg (by decide), if_neg (by decide), if_neg (by decide), if_neg (by decide), if_neg (by decide), if_neg (by decide), if_neg (by decide)]
      rw [g1, Option.bind_some, decide_eq_true h2, hr.2.2.1.1 (by rw [hx]; decide), a2]
      dsimp only
      rw [if_neg (by decide), g5 h2, qs_bits L i' l (by omega), Option.bind_some]
      dsimp only
      rw [if_pos ((epop.mpr h1).trans g4.symm), g5 h2, (qs_Mod_isTry L i' l hM' hO h2).1 h3, Option.bind_some]
      dsimp only
      rw [if_neg (by decide), if_neg (show ¬ i' 42 12 = (10 : Int32) from fun z => by
        have := (nI_eq (a := D 9 0) (b := 10) (by omega) (by omega)).mp (hM'.2.2.2.2.2.2.1.symm.trans z)
        omega), g5 h2, qs_books L v d hM' h4, Option.bind_some]
      rfl
  · refine ⟨false, D, fun i l hT hC => ⟨i, qs_cc_98 L (c := false) hT hp hx ?_, fun z => absurd z (by decide), fun _ _ => rfl⟩, fun i l s hT hM hr hs => ?_, fun z => absurd z (by decide)⟩
    · refine clsA i l hT _ ?_
      by_cases h1 : mq_pop v = e
      · rw [if_pos (epop.mpr h1), if_neg (by decide)]
        by_cases h2 : v < 2 ^ D 0 0
        · by_cases h3 : mq_try D v
          · rw [(qs_Drawer_isTry_14 L i l hC hO h2).1 h3, Option.bind_some]
            dsimp only
            rw [if_neg (by decide), if_neg (show ¬ i 14 9 < (10 : Int32) from by rw [hC.2.2.2.2.2.2.1]; exact nI_nlt (a := D 9 0) (b := 10) (Nat.le_of_not_lt fun z => hok ⟨h1, h2, h3, z⟩) (by omega))]
            rfl
          · rw [(qs_Drawer_isTry_14 L i l hC hO h2).2 h3, Option.bind_some]
            rfl
        · have hset : ¬ nI v >>> (nI (D 0 0) &&& 31) = 0 := fun z => by
            obtain ⟨u, hu, e⟩ := (mq_set hO.1.2).mp z
            have := (nI_eq (a := v) (b := u) (by omega) (by omega)).mp e
            omega
          rw [qs_Drawer_isTry_no14 L _ i l hC hset, Option.bind_some]
          rfl
      · rw [if_neg (fun z => h1 (epop.mp z))]
        rfl
    · obtain ⟨i', g1, g2, g3, g4, g5⟩ := tel i l s hT hM hs (hr.2.2.1.2.2.2.2.2 hx).1 (by rw [← hc]; exact (hr.2.2.1.2.2.2.2.2 hx).2) hdl
      have hM' := mq_MD_set hM g2 g3
      refine ⟨i', ?_, fun z => absurd z (by decide), fun b h1 _ => g2 b h1, fun j _ h2 h3 => g3 j h2 h3⟩
      refine qe_Mod_comes L _ i l _ ?_
      rw [show (3 : Int32) * nI s = nI (3 * s) from pk_mul 3 s, show nI (3 * s) + (1 : Int32) = nI (3 * s + 1) from nI_add (3 * s) 1, show nI (3 * s) + (2 : Int32) = nI (3 * s + 2) from nI_add (3 * s) 2, if_neg (nI_in (show 3 * s < 144 by omega) (by omega)), if_neg (nI_in (show 3 * s + 1 < 144 by omega) (by omega)), if_neg (nI_in hs (by omega)), nI_clamp (show 3 * s < 2 ^ 31 by omega), nI_clamp (show 3 * s + 1 < 2 ^ 31 by omega), nI_clamp (show s < 2 ^ 31 by omega), hr.1, hx]
      rw [if_neg (by decide), if_neg (by decide), if_neg (by decide), if_neg (by decide), if_neg (by decide), if_neg (by decide), if_neg (by decide), if_neg (by decide), if_neg (by decide), if_neg (by decide), if_neg (by decide), if_neg (by decide), if_neg (by decide), if_neg (by decide)]
      rw [g1, Option.bind_some]
      dsimp only
      by_cases h2 : v < 2 ^ D 0 0
      · rw [decide_eq_true h2, if_neg (by decide), g5 h2, qs_bits L i' l (by omega), Option.bind_some]
        dsimp only
        by_cases h1 : mq_pop v = e
        · rw [if_pos ((epop.mpr h1).trans g4.symm), g5 h2]
          by_cases h3 : mq_try D v
          · rw [(qs_Mod_isTry L i' l hM' hO h2).1 h3, Option.bind_some]
            dsimp only
            have h9 : D 9 0 = 10 := by
              have : ¬ D 9 0 < 10 := fun z => hok ⟨h1, h2, h3, z⟩
              omega
            rw [if_neg (by decide), if_pos (show i' 42 12 = (10 : Int32) from by rw [hM'.2.2.2.2.2.2.1, h9]; rfl)]
            rfl
          · rw [(qs_Mod_isTry L i' l hM' hO h2).2 h3, Option.bind_some]
            rfl
        · rw [if_neg (fun z => h1 (epop.mp (z.trans g4)))]
          rfl
      · rw [decide_eq_false h2]
        rfl
/-- a well spelt statement comes or not, on both sides alike -/
theorem mq_comes (L : Nat) {p : Nat} {D : mq_D} (ht : ∀ j, j < len → t j ≤ 255) (hse : (mq_se (mq_tx len t) p).1 = true) (hp : p ≤ 96) (hO : mq_Ok D) : ∃ c D', mq_Cc L len t p D c D' ∧ mq_Cm L len t p D c D' ∧ (c = true → mq_Ok D') := by
  by_cases h1 : mq_tx len t p = 98
  · exact mq_cm_98 L ht hse hp hO h1
  by_cases h2 : mq_tx len t p = 103
  · exact mq_cm_103 L ht hse hp hO h2
  by_cases h3 : mq_tx len t p = 107
  · exact mq_cm_107 L ht hse hp hO h3
  by_cases h4 : mq_tx len t p = 108
  · exact mq_cm_108 L ht hse hp hO h4
  by_cases h5 : mq_tx len t p = 110
  · exact mq_cm_110 L ht hse hp hO h5
  by_cases h6 : mq_tx len t p = 116
  · exact mq_cm_116 L ht hse hp hO h6
  have : mq_hd (mq_tx len t p) = none := by
    unfold mq_hd
    rw [if_neg h1, if_neg h2, if_neg h3, if_neg h4, if_neg h5, if_neg h6]
  unfold mq_se at hse
  rw [this] at hse
  cases hse
end
