/-! An evening on both sides. -/
def mq_ob : Option (Nat × Nat) → Int32
  | none => 0
  | some _ => 1
def mq_l1 : Option (Nat × Nat) → Int32
  | none => -9
  | some p => nI p.1
def mq_l2 : Option (Nat × Nat) → Int32
  | none => -9
  | some p => nI p.2
def mq_an (m : Nat) : Option (Nat × Nat) → Int32
  | none => -9
  | some _ => nI m
theorem mq_tb1 {w b : Nat} : w / 2 ^ b % 2 = 1 ↔ w.testBit b = true := by
  rw [Nat.testBit_eq_decide_div_mod_eq, decide_eq_true_eq]
theorem mq_b0 {f : Bool} : (mq_b f = (0 : Int32)) ↔ f = false := by
  cases f <;> decide
theorem mq_newb_in {n : Nat} : ∀ t, mq_newb n t = true → ∀ q ∈ t, q.1 < n ∧ q.2 < n
  | [], _, q, hq => by cases hq
  | p :: t, h, q, hq => by
    simp only [mq_newb, Bool.and_eq_true, decide_eq_true_eq, List.all_eq_true] at h
    obtain ⟨⟨⟨⟨a1, a2⟩, a3⟩, a4⟩, a5⟩ := h
    cases hq with
    | head => exact ⟨a1, a2⟩
    | tail _ hq => exact mq_newb_in t a5 q hq
theorem mq_sh_lt {k F : Nat} (hF : F < 256) : mq_sh k F < 256 := by
  unfold mq_sh
  split <;> omega
theorem qs_leftOut (L : Nat) {k n g F x : Nat} {dk : Nat → Nat} (i : mMI) (l : mML) (hx : x < 8) (hk : k ≤ 5) (hF : F < 256) (hng : n - g ≤ 8) (hdk : dk x < 256) (h7 : i 35 7 = nI k) (h9 : i 35 9 = nI (n - g)) (h10 : i 35 10 = nI (mq_sh k F)) (h41 : i 41 x = nI (dk x)) : qf_Evening_leftOut L (nI x) i l = some (mq_b (mq_lt k n g F dk x), i, l) := by
  have e4 : nI k = (4 : Int32) ↔ k = 4 := nI_eq (b := 4) (by omega) (by omega)
  have hpop := mq_pop_le (dk x)
  have hsh := mq_sh_lt (k := k) hF
  refine qe_Evening_leftOut L _ i l _ ?_
  rw [h7]
  unfold mq_lt
  by_cases hk4 : k = 4
  · rw [if_pos (e4.mpr hk4), if_pos hk4]
    simp only [qs_Two_at_41 L i l hx, Option.bind_some, h41, qs_bitCount L i l (show dk x < 1024 by omega), h9]
    by_cases hc : n - g < mq_pop (dk x)
    · rw [if_neg (nI_ge hc (by omega)), decide_eq_true hc]
      rfl
    · rw [if_pos (nI_le (by omega) (by omega)), decide_eq_false hc]
      rfl
  · rw [if_neg (fun q => hk4 (e4.mp q)), if_neg hk4, h10]
    have eb := (mq_bit1 (w := mq_sh k F) (b := x) (by omega) hx).trans mq_tb1
    by_cases hk5 : k = 5
    · rw [if_pos hk5]
      have es : mq_sh k F = F := if_pos hk5
      rw [es] at eb ⊢
      cases hb : F.testBit x with
      | true => rw [if_pos (eb.mpr hb)]; rfl
      | false => rw [if_neg (fun q => by have := eb.mp q; rw [hb] at this; cases this)]; rfl
    · rw [if_neg hk5]
      have es : mq_sh k F = 0 := if_neg hk5
      rw [es] at eb ⊢
      rw [if_neg (fun q => by have := eb.mp q; rw [Nat.zero_testBit] at this; cases this)]
      rfl
theorem mq_bothW {W a b : Nat} (hW : W < 256) (ha : a < 8) (hb : b < 8) : ((nI W &&& (((1 : Int32) <<< (nI a &&& 31)) ||| ((1 : Int32) <<< (nI b &&& 31)))) = (((1 : Int32) <<< (nI a &&& 31)) ||| ((1 : Int32) <<< (nI b &&& 31)))) ↔ (W.testBit a && W.testBit b) = true := by
  have pa := mq_pow_lt ha
  have pb := mq_pow_lt hb
  have po : 2 ^ a ||| 2 ^ b < 2 ^ 8 := Nat.or_lt_two_pow (n := 8) pa pb
  rw [mq_shl (by omega), mq_shl (by omega), mq_or, mq_and, nI_eq (Nat.lt_of_le_of_lt Nat.and_le_right (by omega)) (by omega), ← mq_bothbits W hW a ha b hb, decide_eq_true_eq]
theorem qs_tryPair (L : Nat) {W a b m : Nat} {dk : Nat → Nat} (i : mMI) (l : mML) (hW : W < 256) (ha : a < 8) (hb : b < 8) (hab : a ≠ b) (h11 : i 35 11 = nI m) (h1 : i 41 a = nI (dk a)) (h2 : i 41 b = nI (dk b)) :
    ((W.testBit a && W.testBit b) = true → qf_Evening_tryPair L (nI a) (nI b) (nI W) i l = some (mj_up (mj_up (mj_up i 35 11 (nI (m + 1))) 35 12 (nI (2 ^ a ||| 2 ^ b))) 35 13 1, l)) ∧
    ((W.testBit a && W.testBit b) = false → qf_Evening_tryPair L (nI a) (nI b) (nI W) i l = some (mj_up (mj_up (mj_up (mj_up (mj_up i 35 11 (nI (m + 1))) 35 12 (nI (2 ^ a ||| 2 ^ b))) 35 13 0) 41 a (nI (dk a ||| 2 ^ b))) 41 b (nI (dk b ||| 2 ^ a)), l)) := by
  have hc := mq_bothW hW ha hb
  constructor
  · intro h
    refine qe_Evening_tryPair L _ _ _ i l _ ?_
    rw [if_pos (hc.mpr h), if_neg (by decide), h11, nI_1, mq_shl (by omega), mq_shl (by omega), mq_or]
  · intro h
    refine qe_Evening_tryPair L _ _ _ i l _ ?_
    rw [if_neg (fun q => by rw [hc.mp q] at h; cases h), if_pos rfl, h11, nI_1, mq_shl (by omega), mq_shl (by omega), mq_or]
    generalize hj : mj_up (mj_up (mj_up i 35 11 (nI (m + 1))) 35 12 (nI (2 ^ a ||| 2 ^ b))) 35 13 0 = j
    have j1 : j 41 a = nI (dk a) := by rw [← hj, mq_upn (by omega), mq_upn (by omega), mq_upn (by omega)]; exact h1
    have j2 : mj_up j 41 a (nI (dk a ||| 2 ^ b)) 41 b = nI (dk b) := by rw [mq_upi_at, if_neg (fun q => hab q.symm), ← hj, mq_upn (by omega), mq_upn (by omega), mq_upn (by omega)]; exact h2
    simp only [qs_Two_at_41 L j l ha, Option.bind_some, j1, mq_or, qs_Two_store_41 L _ j l ha, qs_Two_at_41 L _ l hb, j2, qs_Two_store_41 L _ _ l hb]
def mq_mp (lie : Nat → Nat) (t : List (Nat × Nat)) : List (Nat × Nat) := t.map (fun p => (lie p.1, lie p.2))
def mq_res (D : mq_D) (k F W : Nat) (lie : Nat → Nat) : Nat × Nat × Option (Nat × Nat) × (Nat → Nat) := mq_run k (D 0 0) (D 5 0) F W (mq_mp lie (mq_pl (D 0 0) (D 5 0) k)) 0 0 (fun _ => 0)
section
variable {D : mq_D}
theorem qs_spend (L : Nat) {k F W : Nat} {lie : Nat → Nat} (i : mMI) (l : mML) (hO : mq_Ok D) (hk : k ≤ 5) (hF : F < 256) (hW : W < 256) (hl1 : ∀ j, j < D 0 0 → lie j < D 0 0) (hl2 : ∀ a b, a < D 0 0 → b < D 0 0 → lie a = lie b → a = b) (hE : mq_EV i D k (mq_sh k F)) (h39 : ∀ p, p < D 0 0 → i 39 p = nI (lie p)) :
    ∃ i', qf_Evening_spend L (nI W) i l = some (i', l) ∧ i' 35 11 = nI (mq_res D k F W lie).1 ∧ i' 35 12 = nI (mq_res D k F W lie).2.1 ∧ i' 35 13 = mq_ob (mq_res D k F W lie).2.2.1 ∧ (∀ x, x < 8 → i' 41 x = nI ((mq_res D k F W lie).2.2.2 x)) ∧ (∀ c, c ≠ 35 → c ≠ 41 → i' c = i c) ∧ ∀ j, j ≠ 11 → j ≠ 12 → j ≠ 13 → i' 35 j = i 35 j := by
  have hn := hO.1
  have hg := hO.2.2.2.2.2.1
  obtain ⟨E1, E2, E3, E4, E5, E6⟩ := hE
  have hlen := mq_pl_len hn.2 hg hk
  have hnew := mq_pl_new hn.2 hg hk
  have hin := mq_newb_in _ hnew
  have hfr0 := mq_fr_new hn.2 hl1 hl2 _ hnew
  generalize hPL : mq_pl (D 0 0) (D 5 0) k = PL at E1 E2 hlen hnew hin hfr0
  have loop : ∀ (t p : List (Nat × Nat)) (m la : Nat) (dk : Nat → Nat) (i1 : mMI), p ++ t = PL → mq_fr dk (mq_mp lie t) → (∀ x, dk x < 256) → i1 35 11 = nI m → i1 35 12 = nI la → i1 35 13 = 0 → (∀ x, x < 8 → i1 41 x = nI (dk x)) → (∀ c, c ≠ 35 → c ≠ 41 → i1 c = i c) → (∀ j, j ≠ 11 → j ≠ 12 → j ≠ 13 → i1 35 j = i 35 j) →
      ∃ i', qf_Evening_spend_p40 L (nI W) (nI p.length) i1 l = some (i', l) ∧ i' 35 11 = nI (mq_run k (D 0 0) (D 5 0) F W (mq_mp lie t) m la dk).1 ∧ i' 35 12 = nI (mq_run k (D 0 0) (D 5 0) F W (mq_mp lie t) m la dk).2.1 ∧ i' 35 13 = mq_ob (mq_run k (D 0 0) (D 5 0) F W (mq_mp lie t) m la dk).2.2.1 ∧ (∀ x, x < 8 → i' 41 x = nI ((mq_run k (D 0 0) (D 5 0) F W (mq_mp lie t) m la dk).2.2.2 x)) ∧ (∀ c, c ≠ 35 → c ≠ 41 → i' c = i c) ∧ ∀ j, j ≠ 11 → j ≠ 12 → j ≠ 13 → i' 35 j = i 35 j := by
    intro t
    induction t with
    | nil =>
      intro p m la dk i1 hp hfr hdk s1 s2 s3 s4 s5 s6
      rw [List.append_nil] at hp
      refine ⟨i1, qe_Evening_spend_p40 L _ _ i1 l _ ?_, s1, s2, s3, s4, s5, s6⟩
      rw [s6 2 (by omega) (by omega) (by omega), E1, hp, if_pos (nI_le (Nat.le_refl _) (by omega))]
    | cons q t ih =>
      intro p m la dk i1 hp hfr hdk s1 s2 s3 s4 s5 s6
      have hmem : q ∈ PL := by rw [← hp]; exact List.mem_append_right _ (List.mem_cons_self ..)
      have hget : PL[p.length]? = some (q.1, q.2) := by
        rw [← hp, List.getElem?_append_right (Nat.le_refl _), Nat.sub_self]
        rfl
      have hlt : p.length < PL.length := by
        rw [← hp, List.length_append, List.length_cons]
        omega
      obtain ⟨q1, q2⟩ := hin q hmem
      obtain ⟨r1, r2⟩ := E2 p.length q.1 q.2 hget
      have e36 : i1 36 p.length = nI q.1 := by rw [s5 36 (by omega) (by omega)]; exact r1
      have e37 : i1 37 p.length = nI q.2 := by rw [s5 37 (by omega) (by omega)]; exact r2
      have e39a : i1 39 q.1 = nI (lie q.1) := by rw [s5 39 (by omega) (by omega)]; exact h39 _ q1
      have e39b : i1 39 q.2 = nI (lie q.2) := by rw [s5 39 (by omega) (by omega)]; exact h39 _ q2
      have hl := hl1 _ q1
      have hl' := hl1 _ q2
      have hm : mq_mp lie (q :: t) = (lie q.1, lie q.2) :: mq_mp lie t := rfl
      rw [hm] at hfr ⊢
      obtain ⟨u1, u2, u3, u4, u5⟩ := hfr.1 _ (List.mem_cons_self ..)
      have u3 : lie q.1 ≠ lie q.2 := u3
      have f7 : i1 35 7 = nI k := (s6 7 (by omega) (by omega) (by omega)).trans E3
      have f9 : i1 35 9 = nI (D 0 0 - D 5 0) := (s6 9 (by omega) (by omega) (by omega)).trans E5
      have f10 : i1 35 10 = nI (mq_sh k F) := (s6 10 (by omega) (by omega) (by omega)).trans E6
      have lo1 := qs_leftOut L (k := k) (n := D 0 0) (g := D 5 0) (F := F) (x := lie q.1) (dk := dk) i1 l (by omega) hk hF (by omega) (hdk _) f7 f9 f10 (s4 _ (by omega))
      have lo2 := qs_leftOut L (k := k) (n := D 0 0) (g := D 5 0) (F := F) (x := lie q.2) (dk := dk) i1 l (by omega) hk hF (by omega) (hdk _) f7 f9 f10 (s4 _ (by omega))
      have hp1 : (p ++ [q]).length = p.length + 1 := by rw [List.length_append, List.length_singleton]
      have hpt : (p ++ [q]) ++ t = PL := by rw [List.append_assoc]; exact hp
      have go : ∀ r, (if mq_b (mq_lt k (D 0 0) (D 5 0) F dk (lie q.1)) = (0 : Int32) then (if mq_b (mq_lt k (D 0 0) (D 5 0) F dk (lie q.2)) = (0 : Int32) then ((qf_Evening_tryPair L (nI (lie q.1)) (nI (lie q.2)) (nI W) i1 l).bind fun q7 => (qf_Evening_spend_p40 L (nI W) (nI (p.length + 1)) q7.1 q7.2)) else (qf_Evening_spend_p40 L (nI W) (nI (p.length + 1)) i1 l)) else (qf_Evening_spend_p40 L (nI W) (nI (p.length + 1)) i1 l)) = some r → qf_Evening_spend_p40 L (nI W) (nI p.length) i1 l = some r := by
        intro r hr
        refine qe_Evening_spend_p40 L _ _ i1 l _ ?_
        rw [s6 2 (by omega) (by omega) (by omega), E1, if_neg (nI_ge hlt (by omega)), s3, if_pos rfl]
        simp only [qs_Two_at_36 L i1 l (show p.length < 28 by omega), qs_Two_at_37 L i1 l (show p.length < 28 by omega), Option.bind_some, e36, e37, qs_Two_at_39 L i1 l (show q.1 < 8 by omega), qs_Two_at_39 L i1 l (show q.2 < 8 by omega), e39a, e39b, lo1, lo2, nI_1]
        exact hr
      by_cases hleft : (mq_lt k (D 0 0) (D 5 0) F dk (lie q.1) || mq_lt k (D 0 0) (D 5 0) F dk (lie q.2)) = true
      · have er : mq_run k (D 0 0) (D 5 0) F W ((lie q.1, lie q.2) :: mq_mp lie t) m la dk = mq_run k (D 0 0) (D 5 0) F W (mq_mp lie t) m la dk := by
          simp only [mq_run]
          rw [if_pos hleft]
        obtain ⟨i', g1, g2⟩ := ih (p ++ [q]) m la dk i1 hpt (mq_fr_tail hfr) hdk s1 s2 s3 s4 s5 s6
        rw [hp1] at g1
        rw [er]
        refine ⟨i', go _ ?_, g2⟩
        cases h1 : mq_lt k (D 0 0) (D 5 0) F dk (lie q.1) with
        | true => rw [if_neg (by decide)]; exact g1
        | false =>
          rw [h1, Bool.false_or] at hleft
          rw [if_pos (by decide), hleft, if_neg (by decide)]
          exact g1
      · have h1 : mq_lt k (D 0 0) (D 5 0) F dk (lie q.1) = false := by
          cases h : mq_lt k (D 0 0) (D 5 0) F dk (lie q.1) with
          | true => rw [h] at hleft; exact absurd rfl hleft
          | false => rfl
        have h2 : mq_lt k (D 0 0) (D 5 0) F dk (lie q.2) = false := by
          cases h : mq_lt k (D 0 0) (D 5 0) F dk (lie q.2) with
          | true => rw [h, Bool.or_true] at hleft; exact absurd rfl hleft
          | false => rfl
        obtain ⟨tp1, tp2⟩ := qs_tryPair L (W := W) (a := lie q.1) (b := lie q.2) (m := m) (dk := dk) i1 l hW (by omega) (by omega) u3 s1 (s4 _ (by omega)) (s4 _ (by omega))
        rw [h1, h2] at go
        cases hlit : (W.testBit (lie q.1) && W.testBit (lie q.2)) with
        | true =>
          have er : mq_run k (D 0 0) (D 5 0) F W ((lie q.1, lie q.2) :: mq_mp lie t) m la dk = (m + 1, 2 ^ lie q.1 ||| 2 ^ lie q.2, some (lie q.1, lie q.2), dk) := by
            simp only [mq_run]
            rw [if_neg hleft, if_pos hlit]
          rw [er]
          have c13 : mj_up (mj_up (mj_up i1 35 11 (nI (m + 1))) 35 12 (nI (2 ^ lie q.1 ||| 2 ^ lie q.2))) 35 13 1 35 13 = 1 := by rw [mq_upi_at, if_pos rfl]
          refine ⟨mj_up (mj_up (mj_up i1 35 11 (nI (m + 1))) 35 12 (nI (2 ^ lie q.1 ||| 2 ^ lie q.2))) 35 13 1, go _ ?_, ?_, ?_, c13, fun x hx => ?_, fun c c1 c2 => ?_, fun j j1 j2 j3 => ?_⟩
          · rw [if_pos (by decide), if_pos (by decide), tp1 hlit, Option.bind_some]
            refine qe_Evening_spend_p40 L _ _ _ l _ ?_
            simp only [c13]
            by_cases hz : mj_up (mj_up (mj_up i1 35 11 (nI (m + 1))) 35 12 (nI (2 ^ lie q.1 ||| 2 ^ lie q.2))) 35 13 1 35 2 ≤ nI (p.length + 1)
            · rw [if_pos hz]
            · rw [if_neg hz, if_neg (by decide)]
          · rw [mq_upi_at, if_neg (by omega), mq_upi_at, if_neg (by omega), mq_upi_at, if_pos rfl]
          · rw [mq_upi_at, if_neg (by omega), mq_upi_at, if_pos rfl]
          · rw [mq_upn (by omega), mq_upn (by omega), mq_upn (by omega)]; exact s4 x hx
          · rw [mq_upn c1, mq_upn c1, mq_upn c1]; exact s5 c c1 c2
          · rw [mq_upi_at, if_neg j3, mq_upi_at, if_neg j2, mq_upi_at, if_neg j1]; exact s6 j j1 j2 j3
        | false =>
          have er : mq_run k (D 0 0) (D 5 0) F W ((lie q.1, lie q.2) :: mq_mp lie t) m la dk = mq_run k (D 0 0) (D 5 0) F W (mq_mp lie t) (m + 1) (2 ^ lie q.1 ||| 2 ^ lie q.2) (mq_dd dk (lie q.1) (lie q.2)) := by
            simp only [mq_run]
            rw [if_neg hleft, if_neg (by rw [hlit]; decide)]
          rw [er]
          obtain ⟨i', g1, g2⟩ := ih (p ++ [q]) (m + 1) (2 ^ lie q.1 ||| 2 ^ lie q.2) (mq_dd dk (lie q.1) (lie q.2)) (mj_up (mj_up (mj_up (mj_up (mj_up i1 35 11 (nI (m + 1))) 35 12 (nI (2 ^ lie q.1 ||| 2 ^ lie q.2))) 35 13 0) 41 (lie q.1) (nI (dk (lie q.1) ||| 2 ^ lie q.2))) 41 (lie q.2) (nI (dk (lie q.2) ||| 2 ^ lie q.1))) hpt (mq_fr_dd hfr) (mq_dd_lt hdk u1 u2)
            (by rw [mq_upn (by omega), mq_upn (by omega), mq_upi_at, if_neg (by omega), mq_upi_at, if_neg (by omega), mq_upi_at, if_pos rfl])
            (by rw [mq_upn (by omega), mq_upn (by omega), mq_upi_at, if_neg (by omega), mq_upi_at, if_pos rfl])
            (by rw [mq_upn (by omega), mq_upn (by omega), mq_upi_at, if_pos rfl])
            (fun x hx => by
              rw [mq_upi_at, mq_upi_at]
              unfold mq_dd
              by_cases x1 : x = lie q.1
              · rw [if_neg (fun z => u3 (x1.symm.trans z)), if_pos x1, if_pos x1]
              · rw [if_neg x1, if_neg x1]
                by_cases x2 : x = lie q.2
                · rw [if_pos x2, if_pos x2]
                · rw [if_neg x2, if_neg x2, mq_upn (by omega), mq_upn (by omega), mq_upn (by omega)]
                  exact s4 x hx)
            (fun c c1 c2 => by rw [mq_upn c2, mq_upn c2, mq_upn c1, mq_upn c1, mq_upn c1]; exact s5 c c1 c2)
            (fun j j1 j2 j3 => by rw [mq_upn (by omega), mq_upn (by omega), mq_upi_at, if_neg j3, mq_upi_at, if_neg j2, mq_upi_at, if_neg j1]; exact s6 j j1 j2 j3)
          rw [hp1] at g1
          refine ⟨i', go _ ?_, g2⟩
          rw [if_pos (by decide), if_pos (by decide), tp2 hlit, Option.bind_some]
          exact g1
  have init : ∀ (m v : Nat), v + m = 8 → ∀ i1 : mMI, i1 35 11 = nI 0 → i1 35 12 = nI 0 → i1 35 13 = 0 → (∀ x, x < v → i1 41 x = nI 0) → (∀ c, c ≠ 35 → c ≠ 41 → i1 c = i c) → (∀ j, j ≠ 11 → j ≠ 12 → j ≠ 13 → i1 35 j = i 35 j) → ∃ i', qf_Evening_spend_p17 L (nI W) (nI v) i1 l = some (i', l) ∧ i' 35 11 = nI (mq_res D k F W lie).1 ∧ i' 35 12 = nI (mq_res D k F W lie).2.1 ∧ i' 35 13 = mq_ob (mq_res D k F W lie).2.2.1 ∧ (∀ x, x < 8 → i' 41 x = nI ((mq_res D k F W lie).2.2.2 x)) ∧ (∀ c, c ≠ 35 → c ≠ 41 → i' c = i c) ∧ ∀ j, j ≠ 11 → j ≠ 12 → j ≠ 13 → i' 35 j = i 35 j := by
    intro m
    induction m with
    | zero =>
      intro v hv i1 s1 s2 s3 s4 s5 s6
      have hv : v = 8 := hv
      subst hv
      obtain ⟨i', g1, g2⟩ := loop PL [] 0 0 (fun _ => 0) i1 rfl hfr0 (fun _ => by omega) s1 s2 s3 s4 s5 s6
      unfold mq_res
      rw [hPL]
      refine ⟨i', qe_Evening_spend_p17 L _ _ i1 l _ ?_, g2⟩
      rw [if_pos (show (8 : Int32) ≤ nI 8 from nI_le (Nat.le_refl _) (by omega))]
      exact g1
    | succ m ih =>
      intro v hv i1 s1 s2 s3 s4 s5 s6
      obtain ⟨i', g1, g2⟩ := ih (v + 1) (by omega) (mj_up i1 41 v (0 : Int32)) (by rw [mq_upn (by omega)]; exact s1) (by rw [mq_upn (by omega)]; exact s2) (by rw [mq_upn (by omega)]; exact s3) (fun x hx => by
        rw [mq_upi_at]
        by_cases e : x = v
        · rw [if_pos e]; rfl
        · rw [if_neg e]; exact s4 x (by omega)) (fun c c1 c2 => by rw [mq_upn c2]; exact s5 c c1 c2) (fun j j1 j2 j3 => by rw [mq_upn (by omega)]; exact s6 j j1 j2 j3)
      refine ⟨i', qe_Evening_spend_p17 L _ _ i1 l _ ?_, g2⟩
      rw [if_neg (show ¬ (8 : Int32) ≤ nI v from nI_ge (a := v) (b := 8) (by omega) (by omega)), qs_Two_store_41 L _ i1 l (by omega), Option.bind_some, nI_1]
      exact g1
  obtain ⟨i', g1, g2⟩ := init 8 0 rfl (mj_up (mj_up (mj_up i 35 11 (0 : Int32)) 35 12 (0 : Int32)) 35 13 (0 : Int32)) (by rw [mq_upi_at, if_neg (by omega), mq_upi_at, if_neg (by omega), mq_upi_at, if_pos rfl]; rfl) (by rw [mq_upi_at, if_neg (by omega), mq_upi_at, if_pos rfl]; rfl) (by rw [mq_upi_at, if_pos rfl]) (fun x hx => absurd hx (by omega)) (fun c c1 c2 => by rw [mq_upn c1, mq_upn c1, mq_upn c1]) (fun j j1 j2 j3 => by rw [mq_upi_at, if_neg j3, mq_upi_at, if_neg j2, mq_upi_at, if_neg j1])
  exact ⟨i', qe_Evening_spend L _ i l _ g1, g2⟩
end
