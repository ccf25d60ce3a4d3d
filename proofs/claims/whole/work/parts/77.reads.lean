/-! The letters as the model reads them. -/
theorem mq_dn_stop {tx : Nat → Int32} {m p : Nat} (h : mq_dv (tx p) < 0) : mq_dn tx (m + 1) p = 0 := if_pos h
theorem mq_dn_go {tx : Nat → Int32} {m p : Nat} (h : ¬ mq_dv (tx p) < 0) : mq_dn tx (m + 1) p = 1 + mq_dn tx m (p + 1) := if_neg h
def mq_MT (i : mMI) (len : Nat) (t : Nat → Nat) : Prop := i 42 19 = nI len ∧ (∀ j, j < len → i 49 j = nI (t j)) ∧ len ≤ 96
/-- what a statement's reading leaves as it was -/
def mq_fs (i0 i : mMI) (s : Nat) : Prop := (∀ a, a ≠ 42 → ¬ (50 ≤ a ∧ a ≤ 54) → i a = i0 a) ∧ (∀ j, j ≠ 20 → i 42 j = i0 42 j) ∧ (∀ a u, (a = 50 ∨ a = 51 ∨ a = 53 ∨ a = 54) → u ≠ s → i a u = i0 a u) ∧ (∀ u, ¬ (3 * s ≤ u ∧ u < 3 * s + 3) → i 52 u = i0 52 u)
theorem mq_fs.refl (i : mMI) (s : Nat) : mq_fs i i s := ⟨fun _ _ _ => rfl, fun _ _ => rfl, fun _ _ _ _ => rfl, fun _ _ => rfl⟩
theorem mq_fs.trans {i0 i1 i2 : mMI} {s : Nat} (h : mq_fs i0 i1 s) (g : mq_fs i1 i2 s) : mq_fs i0 i2 s := ⟨fun a h1 h2 => (g.1 a h1 h2).trans (h.1 a h1 h2), fun j hj => (g.2.1 j hj).trans (h.2.1 j hj), fun a u h1 h2 => (g.2.2.1 a u h1 h2).trans (h.2.2.1 a u h1 h2), fun u hu => (g.2.2.2 u hu).trans (h.2.2.2 u hu)⟩
theorem mq_fs.at (i : mMI) (s : Nat) (v : Int32) : mq_fs i (mj_up i 42 20 v) s := ⟨fun a h1 _ => mq_upn h1, fun j hj => by rw [mq_upi_at, if_neg hj], fun a u h1 _ => by rw [mq_upn (by omega)], fun u _ => by rw [mq_upn (by omega)]⟩
theorem mq_fs.up (i : mMI) {s a : Nat} (v : Int32) (ha : a = 50 ∨ a = 51 ∨ a = 53 ∨ a = 54) : mq_fs i (mj_up i a s v) s := ⟨fun b h1 h2 => mq_upn (fun e => by subst e; omega), fun j hj => by rw [mq_upn (by omega)], fun b u h1 h2 => by
  by_cases e : b = a
  · subst e
    rw [mq_upi_at, if_neg h2]
  · rw [mq_upn e], fun u _ => by rw [mq_upn (by omega)]⟩
theorem mq_fs.told (i : mMI) {s k : Nat} (v : Int32) (hk : 3 * s ≤ k ∧ k < 3 * s + 3) : mq_fs i (mj_up i 52 k v) s := ⟨fun b h1 h2 => mq_upn (by omega), fun j hj => by rw [mq_upn (by omega)], fun b u h1 h2 => by rw [mq_upn (by omega)], fun u hu => by rw [mq_upi_at, if_neg (fun e => hu (by omega))]⟩
theorem mq_MT.fs {i0 i : mMI} {s len : Nat} {t : Nat → Nat} (h : mq_MT i0 len t) (g : mq_fs i0 i s) : mq_MT i len t := by
  refine ⟨?_, ?_, h.2.2⟩
  · rw [g.2.1 19 (by omega)]; exact h.1
  · rw [g.1 49 (by omega) (by omega)]; exact h.2.1
section
variable {i : mMI} {len : Nat} {t : Nat → Nat}
theorem qs_next (L : Nat) {p : Nat} (l : mML) (h : mq_MT i len t) (h20 : i 42 20 = nI p) (hp : p < 2 ^ 31) : qf_Mod_next L i l = some (mq_tx len t p, i, l) := by
  refine qe_Mod_next L i l _ ?_
  have h96 := h.2.2
  unfold mq_tx
  rw [h.1, h20]
  by_cases hc : p < len
  · rw [if_neg (nI_ge hc (by omega)), if_pos hc, if_neg (nI_in (show p < 96 by omega) (by omega)), nI_clamp hp, h.2.1 p hc]
  · rw [if_pos (nI_le (by omega) hp), if_neg hc]
theorem qs_isDigit (L : Nat) {p : Nat} (l : mML) (h : mq_MT i len t) (h20 : i 42 20 = nI p) (hp : p < 2 ^ 31) : qf_Mod_isDigit L i l = some (if mq_dv (mq_tx len t p) < 0 then (0 : Int32) else 1, i, l) := by
  refine qe_Mod_isDigit L i l _ ?_
  rw [qs_next L l h h20 hp, Option.bind_some]
  dsimp only
  rcases mq_dv_in (mq_tx len t p) with ⟨h1, h2, h3⟩ | ⟨d, h1, h2, h3, h4, h5, h6⟩
  · rw [if_pos h2]
    rcases h3 with h3 | ⟨h3, h4⟩
    · rw [qs_isIn_lo L i l h3, Option.bind_some]
      exact if_pos (Or.inl rfl)
    · rw [qs_isIn_hi L i l h3 h4, Option.bind_some]
      exact if_pos (Or.inl rfl)
  · rw [if_neg h4, qs_isIn_1 L i l h5 h6, Option.bind_some]
    exact if_pos (Or.inr rfl)
theorem qs_readsDigit (L : Nat) {p k : Nat} (l : mML) (h : mq_MT i len t) (h20 : i 42 20 = nI p) (hp : p < 2 ^ 30) (hk : k < 144) : qf_Mod_readsDigit L (nI k) i l = if mq_dv (mq_tx len t p) < 0 then some (0, i, l) else some (1, mj_up (mj_up i 52 k (mq_dv (mq_tx len t p))) 42 20 (nI (p + 1)), l) := by
  have go : ∀ r, ((qf_Mod_isDigit L i l).bind fun q1 => (if (q1.1 : Int32) = (0 : Int32) then (some ((0 : Int32), q1.2.1, q1.2.2)) else ((qf_Mod_next L  q1.2.1 q1.2.2).bind fun q2 => (if (nI k : Int32) < 0 ∨ 144 ≤ Int32.toNatClampNeg (nI k) then none else (some ((1 : Int32), (mj_up (mj_up q2.2.1 52 (Int32.toNatClampNeg (nI k)) (q2.1 - (48 : Int32))) 42 20 ((q2.2.1 42 20) + (1 : Int32))), q2.2.2)))))) = some r → qf_Mod_readsDigit L (nI k) i l = some r := fun r hr => qe_Mod_readsDigit L _ i l r hr
  rcases mq_dv_in (mq_tx len t p) with ⟨h1, h2, h3⟩ | ⟨d, h1, h2, h3, h4, h5, h6⟩
  · rw [if_pos h2]
    refine go _ ?_
    rw [qs_isDigit L l h h20 (by omega), Option.bind_some, if_pos h2]
    rfl
  · rw [if_neg h4]
    refine go _ ?_
    rw [qs_isDigit L l h h20 (by omega), Option.bind_some, if_neg h4]
    dsimp only
    rw [if_neg (by decide), qs_next L l h h20 (by omega), Option.bind_some]
    dsimp only
    rw [if_neg (nI_in hk (by omega)), nI_clamp (by omega), h20, nI_1]
    have e : mq_tx len t p - (48 : Int32) = mq_dv (mq_tx len t p) := by
      rw [h3, h2]
      exact (pk_sub (a := 48 + d) (b := 48) (by omega)).trans (by rw [Nat.add_sub_cancel_left])
    rw [e]
theorem qs_readsMany (L : Nat) {p s m : Nat} (l : mML) (h : mq_MT i len t) (h20 : i 42 20 = nI p) (h21 : i 42 21 = nI s) (hp : p ≤ 200) (hs : s < 48) (hm : m ≤ 1) : ∃ i', qf_Mod_readsMany L (nI m) i l = some (if mq_dn (mq_tx len t) 8 p < m then (0 : Int32) else 1, i', l) ∧ i' 53 s = nI p ∧ i' 54 s = nI (p + mq_dn (mq_tx len t) 8 p) ∧ i' 42 20 = nI (p + mq_dn (mq_tx len t) 8 p) ∧ mq_fs i i' s ∧ i' 50 = i 50 ∧ i' 51 = i 51 ∧ i' 52 = i 52 := by
  have loop : ∀ (f c : Nat), c + f = 8 → ∀ i1 : mMI, mq_fs i i1 s → i1 50 = i 50 → i1 51 = i 51 → i1 52 = i 52 → i1 53 s = nI p → i1 42 20 = nI (p + c) → ∃ i', qf_Mod_readsMany_p13 L (nI m) i1 l = some (if c + mq_dn (mq_tx len t) f (p + c) < m then (0 : Int32) else 1, i', l) ∧ i' 53 s = nI p ∧ i' 54 s = nI (p + (c + mq_dn (mq_tx len t) f (p + c))) ∧ i' 42 20 = nI (p + (c + mq_dn (mq_tx len t) f (p + c))) ∧ mq_fs i i' s ∧ i' 50 = i 50 ∧ i' 51 = i 51 ∧ i' 52 = i 52 := by
    have stop : ∀ (c : Nat), c ≤ 8 → ∀ i1 : mMI, mq_fs i i1 s → i1 50 = i 50 → i1 51 = i 51 → i1 52 = i 52 → i1 53 s = nI p → i1 42 20 = nI (p + c) → ∃ i', qf_Mod_readsMany_p52 L (nI m) i1 l = some (if c < m then (0 : Int32) else 1, i', l) ∧ i' 53 s = nI p ∧ i' 54 s = nI (p + c) ∧ i' 42 20 = nI (p + c) ∧ mq_fs i i' s ∧ i' 50 = i 50 ∧ i' 51 = i 51 ∧ i' 52 = i 52 := by
      intro c hc i1 a1 a5 a6 a7 a2 a3
      have h21' : i1 42 21 = nI s := (a1.2.1 21 (by omega)).trans h21
      refine ⟨mj_up i1 54 s (nI (p + c)), qe_Mod_readsMany_p52 L _ i1 l _ ?_, by rw [mq_upn (by omega)]; exact a2, by rw [mq_upi_at, if_pos rfl], by rw [mq_upn (by omega)]; exact a3, a1.trans (mq_fs.up i1 _ (by omega)), by rw [mq_upn (by omega)]; exact a5, by rw [mq_upn (by omega)]; exact a6, by rw [mq_upn (by omega)]; exact a7⟩
      rw [h21', if_neg (nI_in hs (by omega)), if_neg (nI_in hs (by omega)), nI_clamp (by omega), a2, a3, pk_sub (by omega), Nat.add_sub_cancel_left]
      by_cases hcm : c < m
      · rw [if_pos (nI_lt hcm (by omega)), if_pos hcm]
      · rw [if_neg (nI_nlt (by omega) (by omega)), if_neg hcm]
    intro f
    induction f with
    | zero =>
      intro c hc i1 a1 a5 a6 a7 a2 a3
      have hc : c = 8 := hc
      subst hc
      have h21' : i1 42 21 = nI s := (a1.2.1 21 (by omega)).trans h21
      obtain ⟨i', g1, g2⟩ := stop 8 (by omega) i1 a1 a5 a6 a7 a2 a3
      refine ⟨i', qe_Mod_readsMany_p13 L _ i1 l _ ?_, g2⟩
      rw [h21', if_neg (nI_in hs (by omega)), nI_clamp (by omega), a2, a3, pk_sub (by omega), Nat.add_sub_cancel_left, if_pos (show (8 : Int32) ≤ nI 8 from nI_le (Nat.le_refl _) (by omega))]
      exact g1
    | succ f ih =>
      intro c hc i1 a1 a5 a6 a7 a2 a3
      have h21' : i1 42 21 = nI s := (a1.2.1 21 (by omega)).trans h21
      have dig := qs_isDigit L l (h.fs a1) a3 (by omega)
      by_cases hd : mq_dv (mq_tx len t (p + c)) < 0
      · rw [if_pos hd] at dig
        rw [mq_dn_stop hd, Nat.add_zero]
        obtain ⟨i', g1, g2⟩ := stop c (by omega) i1 a1 a5 a6 a7 a2 a3
        refine ⟨i', qe_Mod_readsMany_p13 L _ i1 l _ ?_, g2⟩
        rw [h21', if_neg (nI_in hs (by omega)), nI_clamp (by omega), a2, a3, pk_sub (by omega), Nat.add_sub_cancel_left, if_neg (show ¬ (8 : Int32) ≤ nI c from nI_ge (a := c) (b := 8) (by omega) (by omega)), dig, Option.bind_some]
        dsimp only
        rw [if_pos rfl]
        exact g1
      · rw [if_neg hd] at dig
        rw [mq_dn_go hd]
        obtain ⟨i', g1, g2⟩ := ih (c + 1) (by omega) (mj_up i1 42 20 (nI (p + (c + 1)))) (a1.trans (mq_fs.at i1 s _)) (by rw [mq_upn (by omega)]; exact a5) (by rw [mq_upn (by omega)]; exact a6) (by rw [mq_upn (by omega)]; exact a7) (by rw [mq_upn (by omega)]; exact a2) (by rw [mq_upi_at, if_pos rfl])
        rw [show c + 1 + mq_dn (mq_tx len t) f (p + (c + 1)) = c + (1 + mq_dn (mq_tx len t) f (p + c + 1)) by rw [show p + (c + 1) = p + c + 1 by omega]; omega] at g1 g2
        refine ⟨i', qe_Mod_readsMany_p13 L _ i1 l _ ?_, g2⟩
        rw [h21', if_neg (nI_in hs (by omega)), nI_clamp (by omega), a2, a3, pk_sub (by omega), Nat.add_sub_cancel_left, if_neg (show ¬ (8 : Int32) ≤ nI c from nI_ge (a := c) (b := 8) (by omega) (by omega)), dig, Option.bind_some]
        dsimp only
        rw [if_neg (by decide), a3, nI_1]
        exact g1
  obtain ⟨i', g1, g2⟩ := loop 8 0 rfl (mj_up i 53 s (nI p)) (mq_fs.up i _ (by omega)) (mq_upn (by omega)) (mq_upn (by omega)) (mq_upn (by omega)) (by rw [mq_upi_at, if_pos rfl]) (by rw [mq_upn (by omega)]; exact h20)
  rw [Nat.zero_add, Nat.add_zero] at g1 g2
  refine ⟨i', qe_Mod_readsMany L _ i l _ ?_, g2⟩
  rw [h21, if_neg (nI_in hs (by omega)), nI_clamp (by omega), h20]
  exact g1
theorem qs_readsSign (L : Nat) {p k : Nat} (l : mML) (h : mq_MT i len t) (h20 : i 42 20 = nI p) (hp : p < 2 ^ 30) (hk : k < 144) : qf_Mod_readsSign L (nI k) i l = if mq_tx len t p = 61 ∨ mq_tx len t p = 43 then some (1, mj_up (mj_up i 52 k (if mq_tx len t p = 43 then (1 : Int32) else 0)) 42 20 (nI (p + 1)), l) else some (0, i, l) := by
  have nx := qs_next L l h h20 (by omega)
  have p20 : qf_Mod_readsSign_p20 L (nI k) i l = some (1, mj_up (mj_up i 52 k (if mq_tx len t p = 43 then (1 : Int32) else 0)) 42 20 (nI (p + 1)), l) := by
    refine qe_Mod_readsSign_p20 L _ i l _ ?_
    rw [nx, Option.bind_some]
    dsimp only
    rw [if_neg (nI_in hk (by omega)), if_neg (nI_in hk (by omega)), nI_clamp (by omega), h20, nI_1]
    by_cases h43 : mq_tx len t p = 43
    · rw [if_pos h43, if_pos h43]
    · rw [if_neg h43, if_neg h43]
  by_cases h61 : mq_tx len t p = 61
  · rw [if_pos (Or.inl h61)]
    refine qe_Mod_readsSign L _ i l _ ?_
    rw [nx, Option.bind_some]
    dsimp only
    rw [if_pos h61]
    exact p20
  · by_cases h43 : mq_tx len t p = 43
    · rw [if_pos (Or.inr h43)]
      refine qe_Mod_readsSign L _ i l _ ?_
      rw [nx, Option.bind_some]
      dsimp only
      rw [if_neg h61, nx, Option.bind_some]
      dsimp only
      rw [if_pos h43]
      exact p20
    · rw [if_neg (fun z => z.elim h61 h43)]
      refine qe_Mod_readsSign L _ i l _ ?_
      rw [nx, Option.bind_some]
      dsimp only
      rw [if_neg h61, nx, Option.bind_some]
      dsimp only
      rw [if_neg h43]
end
/-- what stands ahead of a statement's end -/
def mq_ra (tx : Nat → Int32) (p : Nat) (h : Int32) (q : Nat × Nat) : Bool × Nat := if mq_dn tx q.1 (p + 1) < q.2 then (false, p + 1 + mq_dn tx q.1 (p + 1)) else if h = 103 then (if tx (p + 1 + mq_dn tx q.1 (p + 1)) = 61 ∨ tx (p + 1 + mq_dn tx q.1 (p + 1)) = 43 then (true, p + 1 + mq_dn tx q.1 (p + 1) + 1) else (false, p + 1 + mq_dn tx q.1 (p + 1))) else (true, p + 1 + mq_dn tx q.1 (p + 1))
theorem mq_ra_short {tx : Nat → Int32} {p : Nat} {h : Int32} {q : Nat × Nat} {c : Nat} (e : mq_dn tx q.1 (p + 1) = c) (hc : c < q.2) : mq_ra tx p h q = (false, p + 1 + c) := by
  unfold mq_ra
  rw [e, if_pos hc]
theorem mq_ra_plain {tx : Nat → Int32} {p : Nat} {h : Int32} {q : Nat × Nat} {c : Nat} (e : mq_dn tx q.1 (p + 1) = c) (hc : ¬ c < q.2) (hh : ¬ h = 103) : mq_ra tx p h q = (true, p + 1 + c) := by
  unfold mq_ra
  rw [e, if_neg hc, if_neg hh]
theorem mq_ra_sign {tx : Nat → Int32} {p : Nat} {q : Nat × Nat} {c : Nat} (e : mq_dn tx q.1 (p + 1) = c) (hc : ¬ c < q.2) (hs : tx (p + 1 + c) = 61 ∨ tx (p + 1 + c) = 43) : mq_ra tx p 103 q = (true, p + 1 + c + 1) := by
  unfold mq_ra
  rw [e, if_neg hc, if_pos rfl, if_pos hs]
theorem mq_ra_none {tx : Nat → Int32} {p : Nat} {q : Nat × Nat} {c : Nat} (e : mq_dn tx q.1 (p + 1) = c) (hc : ¬ c < q.2) (hs : ¬ (tx (p + 1 + c) = 61 ∨ tx (p + 1 + c) = 43)) : mq_ra tx p 103 q = (false, p + 1 + c) := by
  unfold mq_ra
  rw [e, if_neg hc, if_pos rfl, if_neg hs]
def mq_af (tx : Nat → Int32) (r : Bool × Nat) : Bool × Nat := if r.1 = true then (if tx r.2 = 59 then (true, r.2 + 1) else (false, r.2)) else (false, r.2)
theorem mq_se_ra {tx : Nat → Int32} {p : Nat} {q : Nat × Nat} (hq : mq_hd (tx p) = some q) : mq_se tx p = mq_af tx (mq_ra tx p (tx p) q) := by
  unfold mq_se mq_ra mq_af
  rw [hq]
  dsimp only
  by_cases hc : mq_dn tx q.1 (p + 1) < q.2
  · rw [if_pos hc, if_pos hc]
    rfl
  · rw [if_neg hc, if_neg hc]
    by_cases hg : tx p = 103
    · rw [if_pos hg, if_pos hg]
      by_cases hs : tx (p + 1 + mq_dn tx q.1 (p + 1)) = 61 ∨ tx (p + 1 + mq_dn tx q.1 (p + 1)) = 43
      · rw [if_pos hs, if_pos hs]
        rfl
      · rw [if_neg hs, if_neg hs]
        rfl
    · rw [if_neg hg, if_neg hg]
      rfl
/-- what the model notes of a statement -/
def mq_no (tx : Nat → Int32) (i : mMI) (s p : Nat) (h : Int32) : Prop :=
  (h ≠ 116 → i 52 (3 * s) = mq_dv (tx (p + 1))) ∧ ((h = 107 ∨ h = 108) → i 52 (3 * s + 1) = mq_dv (tx (p + 2))) ∧ (h = 107 → i 52 (3 * s + 2) = mq_dv (tx (p + 3))) ∧ (h = 103 → i 52 (3 * s + 1) = if tx (p + 2) = 43 then (1 : Int32) else 0) ∧ (h = 116 → i 53 s = nI (p + 1) ∧ i 54 s = nI (p + 1 + mq_dn tx 8 (p + 1))) ∧ (h = 98 → i 53 s = nI (p + 2) ∧ i 54 s = nI (p + 2 + mq_dn tx 8 (p + 2)))
section
variable {i : mMI} {len : Nat} {t : Nat → Nat}
theorem qs_readsAll (L : Nat) {p s : Nat} {h : Int32} {q : Nat × Nat} (l : mML) (hT : mq_MT i len t) (hq : mq_hd h = some q) (h20 : i 42 20 = nI (p + 1)) (h21 : i 42 21 = nI s) (hp : p ≤ 120) (hs : s < 48) : ∃ i', qf_Mod_readsAll L h (nI (3 * s)) i l = some (mq_b (mq_ra (mq_tx len t) p h q).1, i', l) ∧ i' 42 20 = nI (mq_ra (mq_tx len t) p h q).2 ∧ mq_fs i i' s ∧ i' 50 = i 50 ∧ i' 51 = i 51 ∧ ((mq_ra (mq_tx len t) p h q).1 = true → mq_no (mq_tx len t) i' s p h) := by
  have e1 : nI (3 * s) + (1 : Int32) = nI (3 * s + 1) := nI_add (3 * s) 1
  have e2 : nI (3 * s) + (2 : Int32) = nI (3 * s + 2) := nI_add (3 * s) 2
  have d1 := qs_readsDigit L (k := 3 * s) l hT h20 (by omega) (by omega)
  generalize hx1 : mq_tx len t (p + 1) = x1 at d1
  -- one digit read
  have f1 : mq_fs i (mj_up (mj_up i 52 (3 * s) (mq_dv x1)) 42 20 (nI (p + 1 + 1))) s := (mq_fs.told i _ (by omega)).trans (mq_fs.at _ _ _)
  have t1 : mj_up (mj_up i 52 (3 * s) (mq_dv x1)) 42 20 (nI (p + 1 + 1)) 42 20 = nI (p + 2) := by rw [mq_upi_at, if_pos rfl]
  have v1 : mj_up (mj_up i 52 (3 * s) (mq_dv x1)) 42 20 (nI (p + 1 + 1)) 52 (3 * s) = mq_dv x1 := by rw [mq_upn (by omega), mq_upi_at, if_pos rfl]
  have w50 : mj_up (mj_up i 52 (3 * s) (mq_dv x1)) 42 20 (nI (p + 1 + 1)) 50 = i 50 := by rw [mq_upn (by omega), mq_upn (by omega)]
  have w51 : mj_up (mj_up i 52 (3 * s) (mq_dv x1)) 42 20 (nI (p + 1 + 1)) 51 = i 51 := by rw [mq_upn (by omega), mq_upn (by omega)]
  have w21 : mj_up (mj_up i 52 (3 * s) (mq_dv x1)) 42 20 (nI (p + 1 + 1)) 42 21 = nI s := by rw [mq_upi_at, if_neg (by omega), mq_upn (by omega)]; exact h21
  generalize hj : mj_up (mj_up i 52 (3 * s) (mq_dv x1)) 42 20 (nI (p + 1 + 1)) = j at d1 f1 t1 v1 w50 w51 w21
  unfold mq_hd at hq
  by_cases h98 : h = 98
  · subst h98
    cases hq
    by_cases c1 : mq_dv x1 < 0
    · rw [if_pos c1] at d1
      rw [mq_ra_short (q := (9, 2)) (c := 0) (mq_dn_stop (by rw [hx1]; exact c1)) (by decide)]
      refine ⟨i, qe_Mod_readsAll L _ _ i l _ ?_, h20, mq_fs.refl i s, rfl, rfl, (fun z => by cases z)⟩
      rw [if_neg (by decide), if_neg (by decide), if_neg (by decide), if_neg (by decide), if_neg (by decide), if_neg (by decide), if_neg (by decide), if_neg (by decide), if_neg (by decide), if_neg (by decide), if_neg (by decide), if_neg (by decide), if_neg (by decide), if_neg (by decide), d1, Option.bind_some]
      exact if_pos rfl
    · rw [if_neg c1] at d1
      have k1 : ∀ m, mq_dn (mq_tx len t) (m + 1) (p + 1) = 1 + mq_dn (mq_tx len t) m (p + 2) := fun m => mq_dn_go (by rw [hx1]; exact c1)
      obtain ⟨i', g1, g2, g3, g4, g5, g6, g7, g8⟩ := qs_readsMany L (m := 1) l (hT.fs f1) t1 w21 (by omega) hs (by omega)
      have g1' : qf_Mod_readsMany L (1 : Int32) j l = some (if mq_dn (mq_tx len t) 8 (p + 2) < 1 then (0 : Int32) else 1, i', l) := g1
      by_cases c2 : mq_dn (mq_tx len t) 8 (p + 2) < 1
      · rw [if_pos c2] at g1'
        rw [mq_ra_short (q := (9, 2)) (k1 8) (show 1 + mq_dn (mq_tx len t) 8 (p + 2) < 2 by omega)]
        refine ⟨i', qe_Mod_readsAll L _ _ i l _ ?_, ?_, f1.trans g5, g6.trans w50, g7.trans w51, (fun z => by cases z)⟩
        · rw [if_neg (by decide), if_neg (by decide), if_neg (by decide), if_neg (by decide), if_neg (by decide), if_neg (by decide), if_neg (by decide), if_neg (by decide), if_neg (by decide), if_neg (by decide), if_neg (by decide), if_neg (by decide), if_neg (by decide), if_neg (by decide), d1, Option.bind_some]
          dsimp only
          rw [if_neg (by decide), g1', Option.bind_some]
          exact if_pos rfl
        · rw [g4]
          exact congrArg nI (by show p + 2 + _ = p + 1 + (1 + _); omega)
      · rw [if_neg c2] at g1'
        rw [mq_ra_plain (q := (9, 2)) (k1 8) (show ¬ 1 + mq_dn (mq_tx len t) 8 (p + 2) < 2 by omega) (by decide)]
        refine ⟨i', qe_Mod_readsAll L _ _ i l _ ?_, ?_, f1.trans g5, g6.trans w50, g7.trans w51, fun _ => ⟨fun _ => (by rw [g8, v1, hx1]), (fun z => (by rcases z with z | z <;> exact absurd z (by decide))), fun z => absurd z (by decide), fun z => absurd z (by decide), fun z => absurd z (by decide), fun _ => ⟨g2, g3⟩⟩⟩
        · rw [if_neg (by decide), if_neg (by decide), if_neg (by decide), if_neg (by decide), if_neg (by decide), if_neg (by decide), if_neg (by decide), if_neg (by decide), if_neg (by decide), if_neg (by decide), if_neg (by decide), if_neg (by decide), if_neg (by decide), if_neg (by decide), d1, Option.bind_some]
          dsimp only
          rw [if_neg (by decide), g1', Option.bind_some]
          exact if_neg (show ¬ (1 : Int32) = 0 by decide)
        · rw [g4]
          exact congrArg nI (by show p + 2 + _ = p + 1 + (1 + _); omega)
  rw [if_neg h98] at hq
  by_cases h103 : h = 103
  · subst h103
    cases hq
    by_cases c1 : mq_dv x1 < 0
    · rw [if_pos c1] at d1
      rw [mq_ra_short (q := (1, 1)) (c := 0) (mq_dn_stop (by rw [hx1]; exact c1)) (by decide)]
      refine ⟨i, qe_Mod_readsAll L _ _ i l _ ?_, h20, mq_fs.refl i s, rfl, rfl, (fun z => by cases z)⟩
      rw [if_pos rfl, d1, Option.bind_some]
      exact if_pos rfl
    · rw [if_neg c1] at d1
      have k1 : ∀ m, mq_dn (mq_tx len t) (m + 1) (p + 1) = 1 + mq_dn (mq_tx len t) m (p + 2) := fun m => mq_dn_go (by rw [hx1]; exact c1)
      have sg := qs_readsSign L (k := 3 * s + 1) l (hT.fs f1) t1 (by omega) (by omega)
      by_cases c2 : mq_tx len t (p + 2) = 61 ∨ mq_tx len t (p + 2) = 43
      · rw [if_pos c2] at sg
        rw [mq_ra_sign (q := (1, 1)) (c := 1) (k1 0) (by decide) c2]
        refine ⟨mj_up (mj_up j 52 (3 * s + 1) (if mq_tx len t (p + 2) = 43 then (1 : Int32) else 0)) 42 20 (nI (p + 2 + 1)), qe_Mod_readsAll L _ _ i l _ ?_, ?_, f1.trans ((mq_fs.told j _ (by omega)).trans (mq_fs.at _ _ _)), ?_, ?_, fun _ => ⟨fun _ => ?_, (fun z => (by rcases z with z | z <;> exact absurd z (by decide))), fun z => absurd z (by decide), fun _ => ?_, fun z => absurd z (by decide), fun z => absurd z (by decide)⟩⟩
        · rw [if_pos rfl, d1, Option.bind_some]
          dsimp only
          rw [if_neg (by decide), e1, sg, Option.bind_some]
          exact if_neg (show ¬ (1 : Int32) = 0 by decide)
        · rw [mq_upi_at, if_pos rfl] <;> rfl
        · rw [mq_upn (by omega), mq_upn (by omega)]; exact w50
        · rw [mq_upn (by omega), mq_upn (by omega)]; exact w51
        · rw [mq_upn (by omega), mq_upi_at, if_neg (by omega), v1, hx1]
        · rw [mq_upn (by omega), mq_upi_at, if_pos rfl]
      · rw [if_neg c2] at sg
        rw [mq_ra_none (q := (1, 1)) (c := 1) (k1 0) (by decide) c2]
        refine ⟨j, qe_Mod_readsAll L _ _ i l _ ?_, t1, f1, w50, w51, (fun z => by cases z)⟩
        rw [if_pos rfl, d1, Option.bind_some]
        dsimp only
        rw [if_neg (by decide), e1, sg, Option.bind_some]
        exact if_pos rfl
  rw [if_neg h103] at hq
  by_cases h107 : h = 107
  · subst h107
    cases hq
    by_cases c1 : mq_dv x1 < 0
    · rw [if_pos c1] at d1
      rw [mq_ra_short (q := (3, 3)) (c := 0) (mq_dn_stop (by rw [hx1]; exact c1)) (by decide)]
      refine ⟨i, qe_Mod_readsAll L _ _ i l _ ?_, h20, mq_fs.refl i s, rfl, rfl, (fun z => by cases z)⟩
      rw [if_neg (by decide), if_neg (by decide), if_neg (by decide), if_neg (by decide), if_pos rfl, d1, Option.bind_some]
      exact if_pos rfl
    · rw [if_neg c1] at d1
      have k1 : ∀ m, mq_dn (mq_tx len t) (m + 1) (p + 1) = 1 + mq_dn (mq_tx len t) m (p + 2) := fun m => mq_dn_go (by rw [hx1]; exact c1)
      have d2 := qs_readsDigit L (k := 3 * s + 1) l (hT.fs f1) t1 (by omega) (by omega)
      by_cases c2 : mq_dv (mq_tx len t (p + 2)) < 0
      · rw [if_pos c2] at d2
        rw [mq_ra_short (q := (3, 3)) (c := 1) ((k1 2).trans (by rw [mq_dn_stop c2])) (by decide)]
        refine ⟨j, qe_Mod_readsAll L _ _ i l _ ?_, t1, f1, w50, w51, (fun z => by cases z)⟩
        rw [if_neg (by decide), if_neg (by decide), if_neg (by decide), if_neg (by decide), if_pos rfl, d1, Option.bind_some]
        dsimp only
        rw [if_neg (by decide), e1, d2, Option.bind_some]
        exact if_pos rfl
      · rw [if_neg c2] at d2
        have k2 : ∀ m, mq_dn (mq_tx len t) (m + 1) (p + 2) = 1 + mq_dn (mq_tx len t) m (p + 3) := fun m => mq_dn_go c2
        have f2 : mq_fs i (mj_up (mj_up j 52 (3 * s + 1) (mq_dv (mq_tx len t (p + 2)))) 42 20 (nI (p + 2 + 1))) s := f1.trans ((mq_fs.told j _ (by omega)).trans (mq_fs.at _ _ _))
        have t2 : mj_up (mj_up j 52 (3 * s + 1) (mq_dv (mq_tx len t (p + 2)))) 42 20 (nI (p + 2 + 1)) 42 20 = nI (p + 3) := by rw [mq_upi_at, if_pos rfl]
        have v2 : mj_up (mj_up j 52 (3 * s + 1) (mq_dv (mq_tx len t (p + 2)))) 42 20 (nI (p + 2 + 1)) 52 (3 * s) = mq_dv x1 := by rw [mq_upn (by omega), mq_upi_at, if_neg (by omega)]; exact v1
        have v3 : mj_up (mj_up j 52 (3 * s + 1) (mq_dv (mq_tx len t (p + 2)))) 42 20 (nI (p + 2 + 1)) 52 (3 * s + 1) = mq_dv (mq_tx len t (p + 2)) := by rw [mq_upn (by omega), mq_upi_at, if_pos rfl]
        have y50 : mj_up (mj_up j 52 (3 * s + 1) (mq_dv (mq_tx len t (p + 2)))) 42 20 (nI (p + 2 + 1)) 50 = i 50 := by rw [mq_upn (by omega), mq_upn (by omega)]; exact w50
        have y51 : mj_up (mj_up j 52 (3 * s + 1) (mq_dv (mq_tx len t (p + 2)))) 42 20 (nI (p + 2 + 1)) 51 = i 51 := by rw [mq_upn (by omega), mq_upn (by omega)]; exact w51
        generalize hj2 : mj_up (mj_up j 52 (3 * s + 1) (mq_dv (mq_tx len t (p + 2)))) 42 20 (nI (p + 2 + 1)) = j2 at d2 f2 t2 v2 v3 y50 y51
        have d3 := qs_readsDigit L (k := 3 * s + 2) l (hT.fs f2) t2 (by omega) (by omega)
        by_cases c3 : mq_dv (mq_tx len t (p + 3)) < 0
        · rw [if_pos c3] at d3
          rw [mq_ra_short (q := (3, 3)) (c := 2) ((k1 2).trans (by rw [k2 1, mq_dn_stop c3])) (by decide)]
          refine ⟨j2, qe_Mod_readsAll L _ _ i l _ ?_, t2, f2, y50, y51, (fun z => by cases z)⟩
          rw [if_neg (by decide), if_neg (by decide), if_neg (by decide), if_neg (by decide), if_pos rfl, d1, Option.bind_some]
          dsimp only
          rw [if_neg (by decide), e1, d2, Option.bind_some]
          dsimp only
          rw [if_neg (by decide), e2, d3, Option.bind_some]
          exact if_pos rfl
        · rw [if_neg c3] at d3
          rw [mq_ra_plain (q := (3, 3)) (c := 3) ((k1 2).trans (by rw [k2 1, mq_dn_go c3] <;> rfl)) (by decide) (by decide)]
          refine ⟨mj_up (mj_up j2 52 (3 * s + 2) (mq_dv (mq_tx len t (p + 3)))) 42 20 (nI (p + 3 + 1)), qe_Mod_readsAll L _ _ i l _ ?_, ?_, f2.trans ((mq_fs.told j2 _ (by omega)).trans (mq_fs.at _ _ _)), ?_, ?_, fun _ => ⟨fun _ => ?_, fun _ => ?_, fun _ => ?_, fun z => absurd z (by decide), fun z => absurd z (by decide), fun z => absurd z (by decide)⟩⟩
          · rw [if_neg (by decide), if_neg (by decide), if_neg (by decide), if_neg (by decide), if_pos rfl, d1, Option.bind_some]
            dsimp only
            rw [if_neg (by decide), e1, d2, Option.bind_some]
            dsimp only
            rw [if_neg (by decide), e2, d3, Option.bind_some]
            exact if_neg (show ¬ (1 : Int32) = 0 by decide)
          · rw [mq_upi_at, if_pos rfl] <;> rfl
          · rw [mq_upn (by omega), mq_upn (by omega)]; exact y50
          · rw [mq_upn (by omega), mq_upn (by omega)]; exact y51
          · rw [mq_upn (by omega), mq_upi_at, if_neg (by omega), v2, hx1]
          · rw [mq_upn (by omega), mq_upi_at, if_neg (by omega), v3]
          · rw [mq_upn (by omega), mq_upi_at, if_pos rfl]
  rw [if_neg h107] at hq
  by_cases h108 : h = 108
  · subst h108
    cases hq
    by_cases c1 : mq_dv x1 < 0
    · rw [if_pos c1] at d1
      rw [mq_ra_short (q := (2, 2)) (c := 0) (mq_dn_stop (by rw [hx1]; exact c1)) (by decide)]
      refine ⟨i, qe_Mod_readsAll L _ _ i l _ ?_, h20, mq_fs.refl i s, rfl, rfl, (fun z => by cases z)⟩
      rw [if_neg (by decide), if_neg (by decide), if_neg (by decide), if_neg (by decide), if_neg (by decide), if_pos rfl, d1, Option.bind_some]
      exact if_pos rfl
    · rw [if_neg c1] at d1
      have k1 : ∀ m, mq_dn (mq_tx len t) (m + 1) (p + 1) = 1 + mq_dn (mq_tx len t) m (p + 2) := fun m => mq_dn_go (by rw [hx1]; exact c1)
      have d2 := qs_readsDigit L (k := 3 * s + 1) l (hT.fs f1) t1 (by omega) (by omega)
      by_cases c2 : mq_dv (mq_tx len t (p + 2)) < 0
      · rw [if_pos c2] at d2
        rw [mq_ra_short (q := (2, 2)) (c := 1) ((k1 1).trans (by rw [mq_dn_stop c2])) (by decide)]
        refine ⟨j, qe_Mod_readsAll L _ _ i l _ ?_, t1, f1, w50, w51, (fun z => by cases z)⟩
        rw [if_neg (by decide), if_neg (by decide), if_neg (by decide), if_neg (by decide), if_neg (by decide), if_pos rfl, d1, Option.bind_some]
        dsimp only
        rw [if_neg (by decide), e1, d2, Option.bind_some]
        exact if_pos rfl
      · rw [if_neg c2] at d2
        have k2 : ∀ m, mq_dn (mq_tx len t) (m + 1) (p + 2) = 1 + mq_dn (mq_tx len t) m (p + 3) := fun m => mq_dn_go c2
        have f2 : mq_fs i (mj_up (mj_up j 52 (3 * s + 1) (mq_dv (mq_tx len t (p + 2)))) 42 20 (nI (p + 2 + 1))) s := f1.trans ((mq_fs.told j _ (by omega)).trans (mq_fs.at _ _ _))
        have t2 : mj_up (mj_up j 52 (3 * s + 1) (mq_dv (mq_tx len t (p + 2)))) 42 20 (nI (p + 2 + 1)) 42 20 = nI (p + 3) := by rw [mq_upi_at, if_pos rfl]
        have v2 : mj_up (mj_up j 52 (3 * s + 1) (mq_dv (mq_tx len t (p + 2)))) 42 20 (nI (p + 2 + 1)) 52 (3 * s) = mq_dv x1 := by rw [mq_upn (by omega), mq_upi_at, if_neg (by omega)]; exact v1
        have v3 : mj_up (mj_up j 52 (3 * s + 1) (mq_dv (mq_tx len t (p + 2)))) 42 20 (nI (p + 2 + 1)) 52 (3 * s + 1) = mq_dv (mq_tx len t (p + 2)) := by rw [mq_upn (by omega), mq_upi_at, if_pos rfl]
        have y50 : mj_up (mj_up j 52 (3 * s + 1) (mq_dv (mq_tx len t (p + 2)))) 42 20 (nI (p + 2 + 1)) 50 = i 50 := by rw [mq_upn (by omega), mq_upn (by omega)]; exact w50
        have y51 : mj_up (mj_up j 52 (3 * s + 1) (mq_dv (mq_tx len t (p + 2)))) 42 20 (nI (p + 2 + 1)) 51 = i 51 := by rw [mq_upn (by omega), mq_upn (by omega)]; exact w51
        generalize hj2 : mj_up (mj_up j 52 (3 * s + 1) (mq_dv (mq_tx len t (p + 2)))) 42 20 (nI (p + 2 + 1)) = j2 at d2 f2 t2 v2 v3 y50 y51
        rw [mq_ra_plain (q := (2, 2)) (c := 2) ((k1 1).trans (by rw [k2 0] <;> rfl)) (by decide) (by decide)]
        refine ⟨j2, qe_Mod_readsAll L _ _ i l _ ?_, t2, f2, y50, y51, fun _ => ⟨fun _ => (by rw [v2, hx1]), fun _ => v3, fun z => absurd z (by decide), fun z => absurd z (by decide), fun z => absurd z (by decide), fun z => absurd z (by decide)⟩⟩
        rw [if_neg (by decide), if_neg (by decide), if_neg (by decide), if_neg (by decide), if_neg (by decide), if_pos rfl, d1, Option.bind_some]
        dsimp only
        rw [if_neg (by decide), e1, d2, Option.bind_some]
        exact if_neg (show ¬ (1 : Int32) = 0 by decide)
  rw [if_neg h108] at hq
  by_cases h110 : h = 110
  · subst h110
    cases hq
    by_cases c1 : mq_dv x1 < 0
    · rw [if_pos c1] at d1
      rw [mq_ra_short (q := (1, 1)) (c := 0) (mq_dn_stop (by rw [hx1]; exact c1)) (by decide)]
      refine ⟨i, qe_Mod_readsAll L _ _ i l _ ?_, h20, mq_fs.refl i s, rfl, rfl, (fun z => by cases z)⟩
      rw [if_neg (by decide), if_neg (by decide), if_neg (by decide), if_neg (by decide), if_neg (by decide), if_neg (by decide), if_neg (by decide), if_pos rfl, d1, Option.bind_some]
      exact if_pos (Or.inl rfl)
    · rw [if_neg c1] at d1
      have k1 : ∀ m, mq_dn (mq_tx len t) (m + 1) (p + 1) = 1 + mq_dn (mq_tx len t) m (p + 2) := fun m => mq_dn_go (by rw [hx1]; exact c1)
      rw [mq_ra_plain (q := (1, 1)) (c := 1) (k1 0) (by decide) (by decide)]
      refine ⟨j, qe_Mod_readsAll L _ _ i l _ ?_, t1, f1, w50, w51, fun _ => ⟨fun _ => (by rw [v1, hx1]), (fun z => (by rcases z with z | z <;> exact absurd z (by decide))), fun z => absurd z (by decide), fun z => absurd z (by decide), fun z => absurd z (by decide), fun z => absurd z (by decide)⟩⟩
      rw [if_neg (by decide), if_neg (by decide), if_neg (by decide), if_neg (by decide), if_neg (by decide), if_neg (by decide), if_neg (by decide), if_pos rfl, d1, Option.bind_some]
      exact if_pos (Or.inr rfl)
  rw [if_neg h110] at hq
  by_cases h116 : h = 116
  · subst h116
    cases hq
    obtain ⟨i', g1, g2, g3, g4, g5, g6, g7, g8⟩ := qs_readsMany L (m := 0) l hT h20 h21 (by omega) hs (by omega)
    have g1' : qf_Mod_readsMany L (0 : Int32) i l = some (if mq_dn (mq_tx len t) 8 (p + 1) < 0 then (0 : Int32) else 1, i', l) := g1
    rw [if_neg (by omega)] at g1'
    rw [mq_ra_plain (q := (8, 0)) rfl (show ¬ _ < 0 by omega) (by decide)]
    refine ⟨i', qe_Mod_readsAll L _ _ i l _ ?_, g4, g5, g6, g7, fun _ => ⟨fun z => absurd rfl z, (fun z => (by rcases z with z | z <;> exact absurd z (by decide))), fun z => absurd z (by decide), fun z => absurd z (by decide), fun _ => ⟨g2, g3⟩, fun z => absurd z (by decide)⟩⟩
    rw [if_neg (by decide), if_neg (by decide), if_neg (by decide), if_neg (by decide), if_neg (by decide), if_neg (by decide), if_neg (by decide), if_neg (by decide), if_neg (by decide), if_neg (by decide), if_neg (by decide), if_neg (by decide), if_neg (by decide), if_pos rfl, g1', Option.bind_some]
    exact if_pos (Or.inr rfl)
  rw [if_neg h116] at hq
  cases hq
end
