/-! The evening of the model; trier. -/
theorem qs_Mod_has (L : Nat) {w b : Nat} (i : mMI) (l : mML) (hw : w < 1024) (hb : b < 8) : qf_Mod_has L (nI w) (nI b) i l = some (mq_b (w.testBit b), i, l) := by
  refine qe_Mod_has L _ _ i l _ ?_
  have eb := (mq_bit1 hw hb).trans mq_tb1
  cases h : w.testBit b with
  | true => rw [if_pos (eb.mpr h)]; rfl
  | false => rw [if_neg (fun q => by have := eb.mp q; rw [h] at this; cases this)]; rfl
theorem qs_isLeft (L : Nat) {k n g F a b : Nat} {dk : Nat → Nat} (i : mMI) (l : mML) (hk : k ≤ 5) (hn : n ≤ 8) (hg : g ≤ n) (hF : F < 256) (ha : a < 8) (hb : b < 8) (h6 : i 42 6 = nI n) (h8 : i 42 8 = nI g) (h43 : i 42 43 = nI F) (h1 : i 67 a = nI (mq_pop (dk a))) (h2 : i 67 b = nI (mq_pop (dk b))) : qf_Mod_isLeft L (nI k) (nI a) (nI b) i l = some (mq_b (mq_lt k n g F dk a || mq_lt k n g F dk b), i, l) := by
  have e4 : nI k = (4 : Int32) ↔ k = 4 := nI_eq (b := 4) (by omega) (by omega)
  have e5 : nI k = (5 : Int32) ↔ k = 5 := nI_eq (b := 5) (by omega) (by omega)
  have p1 := mq_pop_le (dk a)
  have p2 := mq_pop_le (dk b)
  refine qe_Mod_isLeft L _ _ _ i l _ ?_
  unfold mq_lt
  by_cases hk4 : k = 4
  · rw [if_pos (e4.mpr hk4), if_pos hk4, if_pos hk4, if_neg (nI_in ha (by omega)), nI_clamp (by omega), h6, h8, pk_sub hg, h1]
    by_cases hc : n - g < mq_pop (dk a)
    · rw [if_pos (nI_lt hc (by omega)), decide_eq_true hc]
      rfl
    · rw [if_neg (nI_nlt (by omega) (by omega)), if_neg (nI_in hb (by omega)), nI_clamp (by omega), h2, decide_eq_false hc, Bool.false_or]
      by_cases hd : n - g < mq_pop (dk b)
      · rw [if_neg (nI_ge hd (by omega)), decide_eq_true hd]
        rfl
      · rw [if_pos (nI_le (by omega) (by omega)), decide_eq_false hd]
        rfl
  · rw [if_neg (fun q => hk4 (e4.mp q)), if_neg hk4, if_neg hk4]
    by_cases hk5 : k = 5
    · rw [if_pos (e5.mpr hk5), if_pos hk5, if_pos hk5]
      simp only [h43, qs_Mod_has L i l (show F < 1024 by omega) ha, qs_Mod_has L i l (show F < 1024 by omega) hb, Option.bind_some]
      cases F.testBit a with
      | true =>
        rw [if_neg (by decide)]
        rfl
      | false =>
        rw [if_pos (by decide), Bool.false_or]
        cases F.testBit b with
        | true => rw [if_neg (by decide)]; rfl
        | false => rw [if_pos (by decide)]; rfl
    · rw [if_neg (fun q => hk5 (e5.mp q)), if_neg hk5, if_neg hk5]
      rfl
section
variable {D : mq_D}
theorem qs_triesOf (L : Nat) {k F W : Nat} {lie : Nat → Nat} (i : mMI) (l : mML) (hO : mq_Ok D) (hk : k ≤ 5) (hF : F < 256) (hW : W < 256) (hl1 : ∀ j, j < D 0 0 → lie j < D 0 0) (hl2 : ∀ a b, a < D 0 0 → b < D 0 0 → lie a = lie b → a = b) (h6 : i 42 6 = nI (D 0 0)) (h8 : i 42 8 = nI (D 5 0)) (h43 : i 42 43 = nI F) (h46 : ∀ p, p < D 0 0 → i 46 p = nI (lie p)) :
    ∃ i', qf_Mod_triesOf L (nI k) (nI W) i l = some (mq_an (mq_res D k F W lie).1 (mq_res D k F W lie).2.2.1, i', l) ∧ i' 42 42 = nI (mq_pl (D 0 0) (D 5 0) k).length ∧ mq_h2 (i' 64) (i' 65) (mq_pl (D 0 0) (D 5 0) k) ∧ i' 42 44 = nI (mq_res D k F W lie).2.1 ∧ i' 42 45 = mq_l1 (mq_res D k F W lie).2.2.1 ∧ i' 42 46 = mq_l2 (mq_res D k F W lie).2.2.1 ∧ (∀ c, c ≠ 42 → c ≠ 64 → c ≠ 65 → c ≠ 66 → c ≠ 67 → i' c = i c) ∧ ∀ j, j ≠ 42 → j ≠ 44 → j ≠ 45 → j ≠ 46 → i' 42 j = i 42 j := by
  have hn := hO.1
  have hg := hO.2.2.2.2.2.1
  obtain ⟨i0, e0, E1, E2, E3, E4⟩ := qs_laysPairs L (k := k) i l hn hg hk h6 h8
  have hlen := mq_pl_len hn.2 hg hk
  have hnew := mq_pl_new hn.2 hg hk
  have hin := mq_newb_in _ hnew
  have hfr0 := mq_fr_new hn.2 hl1 hl2 _ hnew
  unfold mq_res
  generalize hPL : mq_pl (D 0 0) (D 5 0) k = PL at E1 E2 hlen hnew hin hfr0
  have g6 : i0 42 6 = nI (D 0 0) := (E4 6 (by omega)).trans h6
  have g8 : i0 42 8 = nI (D 5 0) := (E4 8 (by omega)).trans h8
  have g43 : i0 42 43 = nI F := (E4 43 (by omega)).trans h43
  have g46 : ∀ p, p < D 0 0 → i0 46 p = nI (lie p) := fun p hp => by rw [E3 46 (by omega) (by omega) (by omega) (by omega)]; exact h46 p hp
  have loop : ∀ (t p : List (Nat × Nat)) (m la : Nat) (dk : Nat → Nat) (i1 : mMI), p ++ t = PL → mq_fr dk (mq_mp lie t) → (∀ x, dk x < 256) → i1 42 44 = nI la → (∀ x, x < 8 → i1 67 x = nI (mq_pop (dk x))) → (∀ c, c ≠ 42 → c ≠ 67 → i1 c = i0 c) → (∀ j, j ≠ 44 → j ≠ 45 → j ≠ 46 → i1 42 j = i0 42 j) →
      ∃ i', qf_Mod_triesOf_p36 L (nI k) (nI W) (nI m) (nI p.length) i1 l = some (mq_an (mq_run k (D 0 0) (D 5 0) F W (mq_mp lie t) m la dk).1 (mq_run k (D 0 0) (D 5 0) F W (mq_mp lie t) m la dk).2.2.1, i', l) ∧ i' 42 44 = nI (mq_run k (D 0 0) (D 5 0) F W (mq_mp lie t) m la dk).2.1 ∧ i' 42 45 = mq_l1 (mq_run k (D 0 0) (D 5 0) F W (mq_mp lie t) m la dk).2.2.1 ∧ i' 42 46 = mq_l2 (mq_run k (D 0 0) (D 5 0) F W (mq_mp lie t) m la dk).2.2.1 ∧ (∀ c, c ≠ 42 → c ≠ 67 → i' c = i0 c) ∧ ∀ j, j ≠ 44 → j ≠ 45 → j ≠ 46 → i' 42 j = i0 42 j := by
    intro t
    induction t with
    | nil =>
      intro p m la dk i1 hp hfr hdk s1 s4 s5 s6
      rw [List.append_nil] at hp
      refine ⟨mj_up (mj_up i1 42 45 (-9 : Int32)) 42 46 (-9 : Int32), qe_Mod_triesOf_p36 L _ _ _ _ i1 l _ ?_, ?_, ?_, ?_, fun c c1 c2 => ?_, fun j j1 j2 j3 => ?_⟩
      · rw [s6 42 (by omega) (by omega) (by omega), E1, hp, if_pos (nI_le (Nat.le_refl _) (by omega))]
        rfl
      · rw [mq_upi_at, if_neg (by omega), mq_upi_at, if_neg (by omega)]; exact s1
      · rw [mq_upi_at, if_neg (by omega), mq_upi_at, if_pos rfl]; rfl
      · rw [mq_upi_at, if_pos rfl]; rfl
      · rw [mq_upn c1, mq_upn c1]; exact s5 c c1 c2
      · rw [mq_upi_at, if_neg j3, mq_upi_at, if_neg j2]; exact s6 j j1 j2 j3
    | cons q t ih =>
      intro p m la dk i1 hp hfr hdk s1 s4 s5 s6
      have hmem : q ∈ PL := by rw [← hp]; exact List.mem_append_right _ (List.mem_cons_self ..)
      have hget : PL[p.length]? = some (q.1, q.2) := by
        rw [← hp, List.getElem?_append_right (Nat.le_refl _), Nat.sub_self]
        rfl
      have hlt : p.length < PL.length := by
        rw [← hp, List.length_append, List.length_cons]
        omega
      obtain ⟨q1, q2⟩ := hin q hmem
      obtain ⟨r1, r2⟩ := E2 p.length q.1 q.2 hget
      have e64 : i1 64 p.length = nI q.1 := by rw [s5 64 (by omega) (by omega)]; exact r1
      have e65 : i1 65 p.length = nI q.2 := by rw [s5 65 (by omega) (by omega)]; exact r2
      have e46a : i1 46 q.1 = nI (lie q.1) := by rw [s5 46 (by omega) (by omega)]; exact g46 _ q1
      have e46b : i1 46 q.2 = nI (lie q.2) := by rw [s5 46 (by omega) (by omega)]; exact g46 _ q2
      have hl := hl1 _ q1
      have hl' := hl1 _ q2
      have hm : mq_mp lie (q :: t) = (lie q.1, lie q.2) :: mq_mp lie t := rfl
      rw [hm] at hfr ⊢
      obtain ⟨u1, u2, u3, u4, u5⟩ := hfr.1 _ (List.mem_cons_self ..)
      have u3 : lie q.1 ≠ lie q.2 := u3
      have w1 := mq_popor (dk (lie q.1)) (hdk _) (lie q.2) u2 u4
      have w2 := mq_popor (dk (lie q.2)) (hdk _) (lie q.1) u1 u5
      have lo := qs_isLeft L (k := k) (n := D 0 0) (g := D 5 0) (F := F) (a := lie q.1) (b := lie q.2) (dk := dk) i1 l hk hn.2 hg hF u1 u2 ((s6 6 (by omega) (by omega) (by omega)).trans g6) ((s6 8 (by omega) (by omega) (by omega)).trans g8) ((s6 43 (by omega) (by omega) (by omega)).trans g43) (s4 _ (by omega)) (s4 _ (by omega))
      have hp1 : (p ++ [q]).length = p.length + 1 := by rw [List.length_append, List.length_singleton]
      have hpt : (p ++ [q]) ++ t = PL := by rw [List.append_assoc]; exact hp
      generalize hi2 : mj_up i1 42 44 (nI (2 ^ lie q.1 ||| 2 ^ lie q.2)) = i2
      have hs1 := qs_Mod_has L (w := W) (b := lie q.1) i2 l (by omega) u1
      have hs2 := qs_Mod_has L (w := W) (b := lie q.2) i2 l (by omega) u2
      have go : ∀ r, (if mq_b (mq_lt k (D 0 0) (D 5 0) F dk (lie q.1) || mq_lt k (D 0 0) (D 5 0) F dk (lie q.2)) = (0 : Int32) then (if mq_b (W.testBit (lie q.1)) = (0 : Int32) then (qf_Mod_triesOf_p136 L (nI k) (nI W) (nI (m + 1)) (nI p.length) (nI (lie q.1)) (nI (lie q.2)) i2 l) else (if mq_b (W.testBit (lie q.2)) = (0 : Int32) then (qf_Mod_triesOf_p136 L (nI k) (nI W) (nI (m + 1)) (nI p.length) (nI (lie q.1)) (nI (lie q.2)) i2 l) else (some (nI (m + 1), (mj_up (mj_up i2 42 45 (nI (lie q.1))) 42 46 (nI (lie q.2))), l)))) else (qf_Mod_triesOf_p36 L (nI k) (nI W) (nI m) (nI (p.length + 1)) i1 l)) = some r → qf_Mod_triesOf_p36 L (nI k) (nI W) (nI m) (nI p.length) i1 l = some r := by
        intro r hr
        refine qe_Mod_triesOf_p36 L _ _ _ _ i1 l _ ?_
        rw [s6 42 (by omega) (by omega) (by omega), E1, if_neg (nI_ge hlt (by omega)), if_neg (nI_in (show p.length < 28 by omega) (by omega)), nI_clamp (by omega), e64, if_neg (nI_in (show q.1 < 8 by omega) (by omega)), if_neg (mq_in (show p.length < 28 by omega) (by omega)), e65, if_neg (nI_in (show q.2 < 8 by omega) (by omega)), nI_clamp (by omega), nI_clamp (by omega), e46a, e46b, lo, Option.bind_some]
        simp only [mq_shl (show lie q.1 < 31 by omega), mq_shl (show lie q.2 < 31 by omega), mq_or, hi2, hs1, hs2, Option.bind_some, nI_1]
        exact hr
      by_cases hleft : (mq_lt k (D 0 0) (D 5 0) F dk (lie q.1) || mq_lt k (D 0 0) (D 5 0) F dk (lie q.2)) = true
      · have er : mq_run k (D 0 0) (D 5 0) F W ((lie q.1, lie q.2) :: mq_mp lie t) m la dk = mq_run k (D 0 0) (D 5 0) F W (mq_mp lie t) m la dk := by
          simp only [mq_run]
          rw [if_pos hleft]
        obtain ⟨i', g1, g2⟩ := ih (p ++ [q]) m la dk i1 hpt (mq_fr_tail hfr) hdk s1 s4 s5 s6
        rw [hp1] at g1
        rw [er]
        refine ⟨i', go _ ?_, g2⟩
        rw [hleft, if_neg (by decide)]
        exact g1
      · have hleft' : (mq_lt k (D 0 0) (D 5 0) F dk (lie q.1) || mq_lt k (D 0 0) (D 5 0) F dk (lie q.2)) = false := by
          cases h : (mq_lt k (D 0 0) (D 5 0) F dk (lie q.1) || mq_lt k (D 0 0) (D 5 0) F dk (lie q.2)) with
          | true => exact absurd h hleft
          | false => rfl
        rw [hleft'] at go
        cases hlit : (W.testBit (lie q.1) && W.testBit (lie q.2)) with
        | true =>
          have er : mq_run k (D 0 0) (D 5 0) F W ((lie q.1, lie q.2) :: mq_mp lie t) m la dk = (m + 1, 2 ^ lie q.1 ||| 2 ^ lie q.2, some (lie q.1, lie q.2), dk) := by
            simp only [mq_run]
            rw [if_neg hleft, if_pos hlit]
          rw [er]
          obtain ⟨b1, b2⟩ := (Bool.and_eq_true _ _).mp hlit
          refine ⟨mj_up (mj_up i2 42 45 (nI (lie q.1))) 42 46 (nI (lie q.2)), go _ ?_, ?_, ?_, ?_, fun c c1 c2 => ?_, fun j j1 j2 j3 => ?_⟩
          · rw [if_pos (by decide), b1, b2, if_neg (by decide), if_neg (by decide)]
            rfl
          · rw [mq_upi_at, if_neg (by omega), mq_upi_at, if_neg (by omega), ← hi2, mq_upi_at, if_pos rfl]
          · rw [mq_upi_at, if_neg (by omega), mq_upi_at, if_pos rfl]; rfl
          · rw [mq_upi_at, if_pos rfl]; rfl
          · rw [mq_upn c1, mq_upn c1, ← hi2, mq_upn c1]; exact s5 c c1 c2
          · rw [mq_upi_at, if_neg j3, mq_upi_at, if_neg j2, ← hi2, mq_upi_at, if_neg j1]; exact s6 j j1 j2 j3
        | false =>
          have er : mq_run k (D 0 0) (D 5 0) F W ((lie q.1, lie q.2) :: mq_mp lie t) m la dk = mq_run k (D 0 0) (D 5 0) F W (mq_mp lie t) (m + 1) (2 ^ lie q.1 ||| 2 ^ lie q.2) (mq_dd dk (lie q.1) (lie q.2)) := by
            simp only [mq_run]
            rw [if_neg hleft, if_neg (by rw [hlit]; decide)]
          rw [er]
          have v67 : ∀ x, i2 67 x = i1 67 x := fun x => by rw [← hi2, mq_upn (by omega)]
          obtain ⟨i', g1, g2⟩ := ih (p ++ [q]) (m + 1) (2 ^ lie q.1 ||| 2 ^ lie q.2) (mq_dd dk (lie q.1) (lie q.2)) (mj_up (mj_up i2 67 (lie q.1) (nI (mq_pop (dk (lie q.1)) + 1))) 67 (lie q.2) (nI (mq_pop (dk (lie q.2)) + 1))) hpt (mq_fr_dd hfr) (mq_dd_lt hdk u1 u2)
            (by rw [mq_upn (by omega), mq_upn (by omega), ← hi2, mq_upi_at, if_pos rfl])
            (fun x hx => by
              rw [mq_upi_at, mq_upi_at]
              unfold mq_dd
              by_cases x1 : x = lie q.1
              · rw [if_neg (fun z => u3 (x1.symm.trans z)), if_pos x1, if_pos x1, w1]
              · rw [if_neg x1, if_neg x1]
                by_cases x2 : x = lie q.2
                · rw [if_pos x2, if_pos x2, w2]
                · rw [if_neg x2, if_neg x2, v67]
                  exact s4 x hx)
            (fun c c1 c2 => by rw [mq_upn c2, mq_upn c2, ← hi2, mq_upn c1]; exact s5 c c1 c2)
            (fun j j1 j2 j3 => by rw [mq_upn (by omega), mq_upn (by omega), ← hi2, mq_upi_at, if_neg j1]; exact s6 j j1 j2 j3)
          rw [hp1] at g1
          have g136 : qf_Mod_triesOf_p136 L (nI k) (nI W) (nI (m + 1)) (nI p.length) (nI (lie q.1)) (nI (lie q.2)) i2 l = some (mq_an (mq_run k (D 0 0) (D 5 0) F W (mq_mp lie t) (m + 1) (2 ^ lie q.1 ||| 2 ^ lie q.2) (mq_dd dk (lie q.1) (lie q.2))).1 (mq_run k (D 0 0) (D 5 0) F W (mq_mp lie t) (m + 1) (2 ^ lie q.1 ||| 2 ^ lie q.2) (mq_dd dk (lie q.1) (lie q.2))).2.2.1, i', l) := by
            refine qe_Mod_triesOf_p136 L _ _ _ _ _ _ i2 l _ ?_
            have z2 : mj_up i2 67 (lie q.1) (nI (mq_pop (dk (lie q.1)) + 1)) 67 (lie q.2) = nI (mq_pop (dk (lie q.2))) := by
              rw [mq_upi_at, if_neg (fun z => u3 z.symm), v67]
              exact s4 _ (by omega)
            rw [if_neg (nI_in u1 (by omega)), if_neg (nI_in u1 (by omega)), if_neg (nI_in u2 (by omega)), if_neg (nI_in u2 (by omega)), nI_clamp (by have : lie q.1 < 8 := u1; omega), nI_clamp (by have : lie q.2 < 8 := u2; omega), v67, s4 _ (by omega)]
            simp only [nI_1, z2]
            exact g1
          refine ⟨i', go _ ?_, g2⟩
          rw [if_pos (by decide)]
          cases b1 : W.testBit (lie q.1) with
          | false => rw [if_pos (by decide)]; exact g136
          | true =>
            rw [b1, Bool.true_and] at hlit
            rw [if_neg (by decide), hlit, if_pos (by decide)]
            exact g136
  have init : ∀ (m v : Nat), v + m = 8 → ∀ i1 : mMI, (∀ x, x < v → i1 67 x = nI 0) → (∀ c, c ≠ 42 → c ≠ 67 → i1 c = i0 c) → (∀ j, j ≠ 44 → j ≠ 45 → j ≠ 46 → i1 42 j = i0 42 j) → ∃ i', qf_Mod_triesOf_p7 L (nI k) (nI W) (nI v) i1 l = some (mq_an (mq_run k (D 0 0) (D 5 0) F W (mq_mp lie PL) 0 0 (fun _ => 0)).1 (mq_run k (D 0 0) (D 5 0) F W (mq_mp lie PL) 0 0 (fun _ => 0)).2.2.1, i', l) ∧ i' 42 44 = nI (mq_run k (D 0 0) (D 5 0) F W (mq_mp lie PL) 0 0 (fun _ => 0)).2.1 ∧ i' 42 45 = mq_l1 (mq_run k (D 0 0) (D 5 0) F W (mq_mp lie PL) 0 0 (fun _ => 0)).2.2.1 ∧ i' 42 46 = mq_l2 (mq_run k (D 0 0) (D 5 0) F W (mq_mp lie PL) 0 0 (fun _ => 0)).2.2.1 ∧ (∀ c, c ≠ 42 → c ≠ 67 → i' c = i0 c) ∧ ∀ j, j ≠ 44 → j ≠ 45 → j ≠ 46 → i' 42 j = i0 42 j := by
    intro m
    induction m with
    | zero =>
      intro v hv i1 s4 s5 s6
      have hv : v = 8 := hv
      subst hv
      obtain ⟨i', g1, g2⟩ := loop PL [] 0 0 (fun _ => 0) (mj_up i1 42 44 (0 : Int32)) rfl hfr0 (fun _ => by omega) (by rw [mq_upi_at, if_pos rfl]; rfl) (fun x hx => by rw [mq_upn (by omega)]; exact s4 x hx) (fun c c1 c2 => by rw [mq_upn c1]; exact s5 c c1 c2) (fun j j1 j2 j3 => by rw [mq_upi_at, if_neg j1]; exact s6 j j1 j2 j3)
      refine ⟨i', qe_Mod_triesOf_p7 L _ _ _ i1 l _ ?_, g2⟩
      rw [if_pos (show (8 : Int32) ≤ nI 8 from nI_le (Nat.le_refl _) (by omega))]
      exact g1
    | succ m ih =>
      intro v hv i1 s4 s5 s6
      obtain ⟨i', g1, g2⟩ := ih (v + 1) (by omega) (mj_up i1 67 v (0 : Int32)) (fun x hx => by
        rw [mq_upi_at]
        by_cases e : x = v
        · rw [if_pos e]; rfl
        · rw [if_neg e]; exact s4 x (by omega)) (fun c c1 c2 => by rw [mq_upn c2]; exact s5 c c1 c2) (fun j j1 j2 j3 => by rw [mq_upn (by omega)]; exact s6 j j1 j2 j3)
      refine ⟨i', qe_Mod_triesOf_p7 L _ _ _ i1 l _ ?_, g2⟩
      rw [if_neg (show ¬ (8 : Int32) ≤ nI v from nI_ge (a := v) (b := 8) (by omega) (by omega)), if_neg (nI_in (show v < 8 by omega) (by omega)), nI_clamp (by omega), nI_1]
      exact g1
  obtain ⟨i', g1, g2, g3, g4, g5, g6'⟩ := init 8 0 rfl i0 (fun x hx => absurd hx (by omega)) (fun _ _ _ => rfl) (fun _ _ _ _ => rfl)
  refine ⟨i', qe_Mod_triesOf L _ _ i l _ ?_, (g6' 42 (by omega) (by omega) (by omega)).trans E1, ?_, g2, g3, g4, fun c c1 c2 c3 c4 c5 => (g5 c c1 c5).trans (E3 c c1 c2 c3 c4), fun j j1 j2 j3 j4 => (g6' j j2 j3 j4).trans (E4 j j1)⟩
  · rw [e0, Option.bind_some]
    exact g1
  · rw [g5 64 (by omega) (by omega), g5 65 (by omega) (by omega)]
    exact E2
end
section
variable {i : mMI} {l : mML} {D P M : mq_D} {R : Nat → Int32}
noncomputable def mq_Fl (D : mq_D) : Nat := mq_sure (mq_Wm D) true (D 0 0)
theorem mq_Fl_lt (hO : mq_Ok D) : mq_Fl D < 256 := by
  have hp := mq_pow hO.1.2
  unfold mq_Fl mq_sure
  split
  · omega
  · have := mq_sg_lt (fun b => decide (mq_sw (mq_Wm D) (2 ^ b) 256 = if true = true then 0 else mq_sw (mq_Wm D) 0 256)) (D 0 0)
    omega
theorem qs_findFlat (L : Nat) (i : mMI) (l : mML) (hM : mq_RM i D P M R) (hO : mq_OkS D P M) : ∃ i', qf_Mod_findFlat L i l = some (i', l) ∧ mq_RM i' D P M R ∧ i' 42 43 = nI (mq_Fl D) ∧ ∀ k, k < 42 → i' k = i k := by
  obtain ⟨i1, e1, eM, ek, eG, -⟩ := mq_fm L i l hM hO
  have e2 : qf_Mod_surely L (1 : Int32) i1 l = some (nI (mq_Fl D), i1, l) := qs_surely L true i1 l (mq_Wm D) eG eM.1.1 ⟨by have := hO.1.1; omega, hO.1.1.2⟩
  refine ⟨mj_up i1 42 43 (nI (mq_Fl D)), qe_Mod_findFlat L i l _ ?_, eM.congr (fun j hj => by rw [mq_upi_at, if_neg (by omega)]) (fun k h => mq_upn (by omega)), by rw [mq_upi_at, if_pos rfl], fun k h => (mq_upn (by omega)).trans (ek k h)⟩
  rw [e1, Option.bind_some]
  dsimp only
  rw [e2, Option.bind_some]
theorem qs_prepareEvening (L : Nat) {k : Nat} (i : mMI) (l : mML) (hC : mq_RC i D P M R) (hO : mq_OkS D P M) (hk : k ≤ 5) : ∃ i' l', qf_Two_prepareEvening L (nI k) i l = some (i', l') ∧ mq_EV i' D k (mq_sh k (mq_Fl D)) ∧ (∀ p, p < 8 → i' 39 p = nI (D 3 p)) ∧ mq_RC i' D P M R ∧ ∀ c, 42 ≤ c → i' c = i c := by
  have e5 : nI k = (5 : Int32) ↔ k = 5 := nI_eq (b := 5) (by omega) (by omega)
  by_cases hk5 : k = 5
  · obtain ⟨i1, l1, g, gC, gk, g7, g8, g9, gH, g27, g25, -⟩ := mq_look L i l hC hO
    have e2 := qs_surelyFlat L i1 l1 (mq_Wm D) (mq_Wm_lt hO.1) g7 g9 hO.1.1.2 gH
    obtain ⟨i2, e3, f1, f2, f3⟩ := qs_prepare L (k := k) (F := mq_Fl D) i1 l1 gC.1 hO.1 hk
    have es : mq_sh k (mq_Fl D) = mq_Fl D := if_pos hk5
    rw [es]
    refine ⟨i2, l1, qe_Two_prepareEvening L _ i l _ ?_, f1, f2, gC.congr (fun c hc => f3 c (by omega) (by omega) (by omega) (by omega) (by omega)), fun c hc => (f3 c (by omega) (by omega) (by omega) (by omega) (by omega)).trans (gk c hc)⟩
    rw [if_pos (e5.mpr hk5), g, Option.bind_some]
    dsimp only
    rw [e2, Option.bind_some]
    refine qe_Two_prepareEvening_p26 L _ _ i1 l1 _ ?_
    have e3' : qf_Evening_prepare_2 L (nI k) (nI (mq_sure (mq_Wm D) true (D 0 0))) i1 l1 = some (i2, l1) := e3
    rw [e3', Option.bind_some]
  · obtain ⟨i2, e3, f1, f2, f3⟩ := qs_prepare L (k := k) (F := 0) i l hC.1 hO.1 hk
    have es : mq_sh k (mq_Fl D) = 0 := if_neg hk5
    rw [es]
    refine ⟨i2, l, qe_Two_prepareEvening L _ i l _ ?_, f1, f2, hC.congr (fun c hc => f3 c (by omega) (by omega) (by omega) (by omega) (by omega)), fun c hc => f3 c (by omega) (by omega) (by omega) (by omega) (by omega)⟩
    rw [if_neg (fun q => hk5 (e5.mp q))]
    refine qe_Two_prepareEvening_p26 L _ _ i l _ ?_
    have e3' : qf_Evening_prepare_2 L (nI k) (0 : Int32) i l = some (i2, l) := e3
    rw [e3', Option.bind_some]
theorem qs_answer (L : Nat) (i : mMI) (l : mML) {m : Nat} {o : Option (Nat × Nat)} (h1 : i 35 11 = nI m) (h2 : i 35 13 = mq_ob o) : qf_Evening_answer L i l = some (mq_an m o, i, l) := by
  refine qe_Evening_answer L i l _ ?_
  rw [h1, h2]
  cases o with
  | none => rw [if_pos (by decide)]; rfl
  | some p => exact if_neg (show ¬ (1 : Int32) = 0 by decide)
theorem mq_kind5 {x : Int32} : (∃ k, k ≤ 5 ∧ x = nI k) ∨ (x < 0 ∨ 5 < x) := by
  rcases mq_in3 x 0 5 (n := 0) (m := 5) (by decide) (by decide) (by omega) with ⟨h1, _⟩ | ⟨h1, _⟩ | ⟨j, _, h2, h3, _⟩
  · exact Or.inr (Or.inl h1)
  · exact Or.inr (Or.inr h1)
  · exact Or.inl ⟨j, h2, h3⟩
theorem qs_in5 (L : Nat) {k : Nat} (i : mMI) (l : mML) (hk : k ≤ 5) : qf_Mod_isIn L (nI k) 0 5 i l = some (1, i, l) := qs_isIn_1 L i l (nI_pos (by omega)) (nI_nlt (b := k) (a := 5) hk (by omega))
theorem qs_out5 (L : Nat) {x : Int32} (i : mMI) (l : mML) (h : x < 0 ∨ 5 < x) : qf_Mod_isIn L x 0 5 i l = some (0, i, l) := by
  by_cases h0 : x < 0
  · exact qs_isIn_lo L i l h0
  · exact qs_isIn_hi L i l h0 (h.resolve_left h0)
theorem qp_trier (L : Nat) (x : Int32) (hC : mq_RC i D P M R) (hM : mq_RM i D P M R) (hO : mq_OkS D P M) : mq_P (fun i l => qf_Two_trier L x i l) (fun i l => qf_Mod_trier L x i l) i l := by
  have hp := mq_pow hO.1.1.2
  have hF := mq_Fl_lt hO.1
  have hW : D 4 0 < 256 := by have := hO.1.2.2.2.2.1; omega
  have hl := hO.1.2.2.2.1
  have hn := hO.1.1
  rcases mq_kind5 (x := x) with ⟨k, hk, rfl⟩ | hx
  · obtain ⟨i1, l1, e1, f1, f2, f3, f4⟩ := qs_prepareEvening L i l hC hO hk
    obtain ⟨i2, e2, s1, s2, s3, s4, s5, s6⟩ := qs_spend L (W := D 4 0) (lie := D 3) i1 l1 hO.1 hk hF hW hl.1 hl.2 f1 (fun p hp => f2 p (by omega))
    refine mq_P_scr (mq_an (mq_res D k (mq_Fl D) (D 4 0) (D 3)).1 (mq_res D k (mq_Fl D) (D 4 0) (D 3)).2.2.1) hM hO (qe_Two_trier L _ i l (mq_an (mq_res D k (mq_Fl D) (D 4 0) (D 3)).1 (mq_res D k (mq_Fl D) (D 4 0) (D 3)).2.2.1, i2, l1) ?_) (f3.congr (fun c hc => s5 c (by omega) (by omega))) (fun c hc => (s5 c (by omega) (by omega)).trans (f4 c hc)) (fun i0 h0 => ?_)
    · simp only [qs_noKind_0 L i l hk, Option.bind_some, ↓reduceIte, e1, f3.1.2.1, e2, qs_answer L i2 l1 s1 s3]
    · obtain ⟨j1, d1, d2, d3, d4⟩ := qs_findFlat L i0 l1 h0 hO
      obtain ⟨j2, t1, -, -, -, -, -, t2, t3⟩ := qs_triesOf L (k := k) (F := mq_Fl D) (W := D 4 0) (lie := D 3) j1 l1 hO.1 hk hF hW hl.1 hl.2 d2.1.1 d2.1.2.2.1 d3 (fun p hp => d2.1.2.2.2.2.2.2.2.2.2.1 p (by omega))
      refine ⟨j2, l1, qe_Mod_trier L _ i0 l1 _ ?_, d2.congr (fun j hj => t3 j (by omega) (by omega) (by omega) (by omega)) (fun c hc => t2 c (by omega) (by omega) (by omega) (by omega) (by omega)), fun c hc => (t2 c (by omega) (by omega) (by omega) (by omega) (by omega)).trans (d4 c hc)⟩
      simp only [qs_in5 L i0 l1 hk, Option.bind_some, mq_10, ↓reduceIte, d1, d2.1.2.1, t1]
  · refine mq_P_ref (r := -2) hC hM hO 2 (qe_Two_trier L x i l _ ?_) (fun i0 h => qe_Mod_trier L x i0 l _ ?_)
    · simp only [qs_noKind_1 L i l hx, Option.bind_some, mq_10, ↓reduceIte, qs_refuse L i l mq_r2 (show 2 < 7 by omega)]
    · simp only [qs_out5 L i0 l hx, Option.bind_some, ↓reduceIte, qs_no L i0 l mq_r2 (show 2 < 7 by omega)]
end
