/-! The model's statements, one and all. -/
def mq_rc (tx : Nat → Int32) (i : mMI) (u p : Nat) : Prop := i 50 u = tx p ∧ i 51 u = nI p ∧ mq_no tx i u p (tx p) ∧ (mq_se tx p).1 = true
theorem mq_rc.fs {tx : Nat → Int32} {i i' : mMI} {u p s : Nat} (h : mq_rc tx i u p) (g : mq_fs i i' s) (hu : u < s) : mq_rc tx i' u p := by
  obtain ⟨h1, h2, ⟨n1, n2, n3, n4, n5, n6⟩, h4⟩ := h
  have a : ∀ b, (b = 50 ∨ b = 51 ∨ b = 53 ∨ b = 54) → i' b u = i b u := fun b hb => g.2.2.1 b u hb (by omega)
  have b0 : i' 52 (3 * u) = i 52 (3 * u) := g.2.2.2 _ (by omega)
  have b1 : i' 52 (3 * u + 1) = i 52 (3 * u + 1) := g.2.2.2 _ (by omega)
  have b2 : i' 52 (3 * u + 2) = i 52 (3 * u + 2) := g.2.2.2 _ (by omega)
  refine ⟨by rw [a 50 (by omega)]; exact h1, by rw [a 51 (by omega)]; exact h2, ⟨?_, ?_, ?_, ?_, ?_, ?_⟩, h4⟩
  · rw [b0]; exact n1
  · rw [b1]; exact n2
  · rw [b2]; exact n3
  · rw [b1]; exact n4
  · rw [a 53 (by omega), a 54 (by omega)]; exact n5
  · rw [a 53 (by omega), a 54 (by omega)]; exact n6
theorem mq_rc.of42 {tx : Nat → Int32} {i : mMI} {u p k : Nat} {v : Int32} (h : mq_rc tx i u p) : mq_rc tx (mj_up i 42 k v) u p := by
  unfold mq_rc mq_no at h ⊢
  rw [mq_upn (show 50 ≠ 42 by omega), mq_upn (show 51 ≠ 42 by omega), mq_upn (show 52 ≠ 42 by omega), mq_upn (show 53 ≠ 42 by omega), mq_upn (show 54 ≠ 42 by omega)]
  exact h
section
variable {i : mMI} {len : Nat} {t : Nat → Nat}
theorem qs_statement (L : Nat) {p s : Nat} (l : mML) (hT : mq_MT i len t) (h20 : i 42 20 = nI p) (h21 : i 42 21 = nI s) (hp : p ≤ 96) (hs : s < 48) : ∃ i', qf_Mod_statement L i l = some (mq_b (mq_se (mq_tx len t) p).1, i', l) ∧ i' 42 20 = nI (mq_se (mq_tx len t) p).2 ∧ mq_fs i i' s ∧ ((mq_se (mq_tx len t) p).1 = true → mq_rc (mq_tx len t) i' s p) := by
  have nx := qs_next L l hT h20 (by omega)
  cases hq : mq_hd (mq_tx len t p) with
  | none =>
    have es : mq_se (mq_tx len t) p = (false, p) := by
      unfold mq_se
      rw [hq]
    rw [es]
    refine ⟨i, qe_Mod_statement L i l _ ?_, h20, mq_fs.refl i s, fun z => by cases z⟩
    rw [nx, Option.bind_some]
    dsimp only
    unfold mq_hd at hq
    have no : ∀ c : Int32, (c = 98 ∨ c = 103 ∨ c = 107 ∨ c = 108 ∨ c = 110 ∨ c = 116) → ¬ mq_tx len t p = c := by
      intro c hc e
      rw [e] at hq
      rcases hc with rfl | rfl | rfl | rfl | rfl | rfl <;> cases hq
    rw [if_neg (no 110 (by simp)), if_neg (no 107 (by simp)), if_neg (no 116 (by simp)), if_neg (no 103 (by simp)), if_neg (no 108 (by simp)), if_neg (no 98 (by simp))]
    rfl
  | some q =>
    have es := mq_se_ra hq
    generalize hh : mq_tx len t p = h at nx hq es
    have g1 : mq_fs i (mj_up (mj_up (mj_up i 50 s h) 51 s (nI p)) 42 20 (nI (p + 1))) s := (mq_fs.up i _ (by omega)).trans ((mq_fs.up _ _ (by omega)).trans (mq_fs.at _ _ _))
    have a20 : mj_up (mj_up (mj_up i 50 s h) 51 s (nI p)) 42 20 (nI (p + 1)) 42 20 = nI (p + 1) := by rw [mq_upi_at, if_pos rfl]
    have a50 : mj_up (mj_up (mj_up i 50 s h) 51 s (nI p)) 42 20 (nI (p + 1)) 50 s = h := by rw [mq_upn (by omega), mq_upn (by omega), mq_upi_at, if_pos rfl]
    have a51 : mj_up (mj_up (mj_up i 50 s h) 51 s (nI p)) 42 20 (nI (p + 1)) 51 s = nI p := by rw [mq_upn (by omega), mq_upi_at, if_pos rfl]
    obtain ⟨i1, b1, b2, b3, b4, b5, b6⟩ := qs_readsAll L (h := h) (q := q) l (hT.fs g1) hq a20 ((g1.2.1 21 (by omega)).trans h21) (by omega) hs
    have go : ∀ r, (if mq_b (mq_ra (mq_tx len t) p h q).1 = (0 : Int32) then (some ((0 : Int32), i1, l)) else ((qf_Mod_next L i1 l).bind fun q2 => (if (q2.1 : Int32) = (59 : Int32) then (some ((1 : Int32), (mj_up q2.2.1 42 20 ((q2.2.1 42 20) + (1 : Int32))), q2.2.2)) else (some ((0 : Int32), q2.2.1, q2.2.2))))) = some r → qf_Mod_statement L i l = some r := by
      intro r hr
      have h43 : qf_Mod_statement_p43 L h i l = some r := by
        refine qe_Mod_statement_p43 L h i l _ ?_
        rw [h21, if_neg (nI_in hs (by omega)), if_neg (nI_in hs (by omega)), nI_clamp (by omega), h20, nI_1, show (3 : Int32) * nI s = nI (3 * s) from pk_mul 3 s, b1, Option.bind_some]
        exact hr
      refine qe_Mod_statement L i l _ ?_
      rw [nx, Option.bind_some]
      dsimp only
      unfold mq_hd at hq
      by_cases c1 : h = 110
      · rw [if_pos c1]; exact h43
      by_cases c2 : h = 107
      · rw [if_neg c1, if_pos c2]; exact h43
      by_cases c3 : h = 116
      · rw [if_neg c1, if_neg c2, if_pos c3]; exact h43
      by_cases c4 : h = 103
      · rw [if_neg c1, if_neg c2, if_neg c3, if_pos c4]; exact h43
      by_cases c5 : h = 108
      · rw [if_neg c1, if_neg c2, if_neg c3, if_neg c4, if_pos c5]; exact h43
      by_cases c6 : h = 98
      · rw [if_neg c1, if_neg c2, if_neg c3, if_neg c4, if_neg c5, if_pos c6]; exact h43
      rw [if_neg c6, if_neg c4, if_neg c2, if_neg c5, if_neg c1, if_neg c3] at hq
      cases hq
    have es1 : (mq_se (mq_tx len t) p).1 = true → (mq_se (mq_tx len t) p).1 = true := fun z => z
    rw [es]
    have hse : (mq_af (mq_tx len t) (mq_ra (mq_tx len t) p h q)).1 = true → (mq_se (mq_tx len t) p).1 = true := fun z => by rw [es]; exact z
    have bound : (mq_ra (mq_tx len t) p h q).2 < 2 ^ 31 := by
      obtain ⟨q1, q2⟩ := mq_hd_le hq
      have hd := mq_dn_le (mq_tx len t) q.1 (p + 1)
      unfold mq_ra
      (repeat' split) <;> dsimp only <;> omega
    generalize mq_ra (mq_tx len t) p h q = ra at go b2 b6 hse bound
    obtain ⟨bo, qq⟩ := ra
    cases bo with
    | false =>
      refine ⟨i1, go _ ?_, b2, g1.trans b3, fun z => by cases z⟩
      exact if_pos rfl
    | true =>
      have nx2 := qs_next L l ((hT.fs g1).fs b3) b2 bound
      by_cases h59 : mq_tx len t qq = 59
      · have e : mq_af (mq_tx len t) (true, qq) = (true, qq + 1) := by
          unfold mq_af
          rw [if_pos rfl, if_pos h59]
        rw [e] at hse ⊢
        refine ⟨mj_up i1 42 20 (nI (qq + 1)), go _ ?_, by rw [mq_upi_at, if_pos rfl], (g1.trans b3).trans (mq_fs.at _ _ _), fun _ => mq_rc.of42 ⟨?_, ?_, ?_, hse rfl⟩⟩
        · rw [if_neg (show ¬ mq_b true = (0 : Int32) by decide), nx2, Option.bind_some]
          dsimp only
          rw [if_pos h59, b2, nI_1]
          rfl
        · rw [b4, hh]; exact a50
        · rw [b5]; exact a51
        · rw [hh]; exact b6 rfl
      · have e : mq_af (mq_tx len t) (true, qq) = (false, qq) := by
          unfold mq_af
          rw [if_pos rfl, if_neg h59]
        rw [e]
        refine ⟨i1, go _ ?_, b2, g1.trans b3, fun z => by cases z⟩
        rw [if_neg (show ¬ mq_b true = (0 : Int32) by decide), nx2, Option.bind_some]
        dsimp only
        rw [if_neg h59]
        rfl
end
def mq_rs (tx : Nat → Int32) (i : mMI) (ds : List Nat) : Prop := ∀ u p, ds[u]? = some p → mq_rc tx i u p
/-- what the reading of all leaves as it was -/
def mq_ft (i0 i : mMI) : Prop := (∀ a, a ≠ 42 → ¬ (50 ≤ a ∧ a ≤ 54) → i a = i0 a) ∧ ∀ j, j ≠ 20 → j ≠ 21 → i 42 j = i0 42 j
theorem mq_readAll (L : Nat) {len : Nat} {t : Nat → Nat} (l : mML) (ht : ∀ j, j < len → t j ≤ 255) (i0 : mMI) : ∀ (f p s : Nat) (ds : List Nat) (i : mMI), s + f = 49 → 2 * s ≤ p → p ≤ 96 → (p < len ∨ s = 0 ∧ p = 0) → ds.length = s → mq_MT i len t → i 42 20 = nI p → i 42 21 = nI s → mq_rs (mq_tx len t) i ds → mq_ft i0 i →
    ∃ i', (∀ r, qf_Mod_drawer_p60 L (mq_b (mq_pa (mq_tx len t) len f p).1) i' l = some r → qf_Mod_drawer_p34 L i l = some r) ∧ mq_ft i0 i' ∧ ((mq_pa (mq_tx len t) len f p).1 = false → i' 42 20 = nI (mq_pa (mq_tx len t) len f p).2.1) ∧ ((mq_pa (mq_tx len t) len f p).1 = true → i' 42 21 = nI (ds ++ (mq_pa (mq_tx len t) len f p).2.2).length ∧ mq_rs (mq_tx len t) i' (ds ++ (mq_pa (mq_tx len t) len f p).2.2)) := by
  intro f
  induction f with
  | zero =>
    intro p s ds i hs h2 hp
    omega
  | succ f ih =>
    intro p s ds i hs h2 hp hlt hds hT h20 h21 hrs hft
    have h96 := hT.2.2
    obtain ⟨i1, e1, e2, e3, e4⟩ := qs_statement L l hT h20 h21 hp (by omega)
    have hin := mq_se_in ht (p := p)
    rw [mq_pa_s]
    have f1 : mq_ft i0 i1 := ⟨fun a a1 a2 => (e3.1 a a1 a2).trans (hft.1 a a1 a2), fun j j1 j2 => (e3.2.1 j j1).trans (hft.2 j j1 j2)⟩
    have b21 : i1 42 21 = nI s := (e3.2.1 21 (by omega)).trans h21
    have hT1 := hT.fs e3
    generalize hse : mq_se (mq_tx len t) p = r at hin e1 e2 e4
    obtain ⟨bo, v⟩ := r
    dsimp only at hin e1 e2 e4 ⊢
    cases bo with
    | false =>
      rw [if_neg (by decide)]
      refine ⟨mj_up i1 42 21 (nI s + (0 : Int32)), fun r hr => qe_Mod_drawer_p34 L i l _ ?_, ?_, fun _ => ?_, fun z => by cases z⟩
      · rw [e1, Option.bind_some]
        dsimp only
        rw [if_pos (show mq_b false = (0 : Int32) from rfl), b21]
        refine qe_Mod_drawer_p12 L _ _ l _ ?_
        rw [if_pos (show mq_b false = (0 : Int32) from rfl)]
        exact hr
      · exact ⟨fun a a1 a2 => by rw [mq_upn a1]; exact f1.1 a a1 a2, fun j j1 j2 => by rw [mq_upi_at, if_neg j2]; exact f1.2 j j1 j2⟩
      · rw [mq_upi_at, if_neg (by omega)]
        exact e2
    | true =>
      obtain ⟨c1, c2, c3⟩ := hin rfl
      rw [if_pos rfl]
      have hT2 : mq_MT (mj_up i1 42 21 (nI (s + 1))) len t := ⟨by rw [mq_upi_at, if_neg (by omega)]; exact hT1.1, by rw [mq_upn (by omega)]; exact hT1.2.1, h96⟩
      have d20 : mj_up i1 42 21 (nI (s + 1)) 42 20 = nI v := by rw [mq_upi_at, if_neg (by omega)]; exact e2
      have d21 : mj_up i1 42 21 (nI (s + 1)) 42 21 = nI (s + 1) := by rw [mq_upi_at, if_pos rfl]
      have f2 : mq_ft i0 (mj_up i1 42 21 (nI (s + 1))) := ⟨fun a a1 a2 => by rw [mq_upn a1]; exact f1.1 a a1 a2, fun j j1 j2 => by rw [mq_upi_at, if_neg j2]; exact f1.2 j j1 j2⟩
      have rs2 : mq_rs (mq_tx len t) (mj_up i1 42 21 (nI (s + 1))) (ds ++ [p]) := by
        intro u pos hu
        refine mq_rc.of42 ?_
        by_cases hus : u < ds.length
        · rw [List.getElem?_append_left hus] at hu
          exact (hrs u pos hu).fs e3 (by omega)
        · by_cases hus2 : u = ds.length
          · subst hus2
            rw [List.getElem?_append_right (Nat.le_refl _), Nat.sub_self] at hu
            cases hu
            rw [hds]
            exact e4 rfl
          · rw [List.getElem?_eq_none (by rw [List.length_append, List.length_singleton]; omega)] at hu
            cases hu
      have hlen2 : (ds ++ [p]).length = s + 1 := by rw [List.length_append, List.length_singleton, hds]
      have go : ∀ r, qf_Mod_drawer_p12 L (1 : Int32) (mj_up i1 42 21 (nI (s + 1))) l = some r → qf_Mod_drawer_p34 L i l = some r := by
        intro r hr
        refine qe_Mod_drawer_p34 L i l _ ?_
        rw [e1, Option.bind_some]
        dsimp only
        rw [if_neg (show ¬ mq_b true = (0 : Int32) by decide), b21, nI_1]
        exact hr
      by_cases hl : v < len
      · rw [if_pos hl]
        obtain ⟨i', r1, r2, r3, r4⟩ := ih v (s + 1) (ds ++ [p]) (mj_up i1 42 21 (nI (s + 1))) (by omega) (by omega) (by omega) (Or.inl hl) hlen2 hT2 d20 d21 rs2 f2
        refine ⟨i', fun r hr => go r (qe_Mod_drawer_p12 L _ _ l _ ?_), r2, r3, fun z => ?_⟩
        · rw [if_neg (by decide), d20, hT2.1, if_pos (nI_lt hl (by omega))]
          exact r1 r hr
        · have := r4 z
          rw [List.append_assoc] at this
          exact this
      · rw [if_neg hl]
        refine ⟨mj_up i1 42 21 (nI (s + 1)), fun r hr => go r (qe_Mod_drawer_p12 L _ _ l _ ?_), f2, (fun z => by cases z), fun _ => ⟨?_, rs2⟩⟩
        · rw [if_neg (by decide), d20, hT2.1, if_neg (nI_nlt (by omega) (by omega)), d21, if_neg (nI_ne0 (by omega) (by omega))]
          exact hr
        · rw [hlen2]; exact d21
