/-! The pair worst. -/
theorem mw_nth {A : Nat → Bool} {q : Nat} : ∀ m, q < mq_ct A m → ∃ p, p < m ∧ A p = true ∧ mq_ct A p = q
  | 0, h => absurd h (Nat.not_lt_zero _)
  | m + 1, h => by
    have e : mq_ct A (m + 1) = mq_ct A m + (if A m = true then 1 else 0) := rfl
    by_cases h2 : q < mq_ct A m
    · obtain ⟨p, p1, p2⟩ := mw_nth m h2
      exact ⟨p, by omega, p2⟩
    · cases hA : A m with
      | false =>
        rw [e, hA] at h
        exact absurd h h2
      | true =>
        rw [e, hA, if_pos rfl] at h
        exact ⟨m, by omega, hA, by omega⟩
theorem mw_ct_lt {A : Nat → Bool} {p m : Nat} (hp : p < m) (hA : A p = true) : mq_ct A p < mq_ct A m := by
  have e : mq_ct A (p + 1) = mq_ct A p + (if A p = true then 1 else 0) := rfl
  rw [hA, if_pos rfl] at e
  have e2 := mq_ct_shift A (p + 1) (m - (p + 1))
  rw [show p + 1 + (m - (p + 1)) = m by omega] at e2
  omega
/-- where the tries are lit -/
def mw_li (D : mq_D) (j w : Nat) : Bool := mw_lt D (mw_at (mw_tl D 64) j) w
theorem mw_li_all {D : mq_D} {j w : Nat} (h : mw_li D j w = true) : mw_my D w = true := by
  unfold mw_li mw_lt at h
  rw [Bool.and_eq_true] at h
  exact h.1
theorem qs_findFewest (L : Nat) {D : mq_D} (i : mMI) (l : mML) (hO : mq_Ok D) (h6 : D 0 0 ≤ 6) (h8 : i 24 8 = nI (2 ^ D 0 0)) (h9 : i 24 9 = nI (mq_cnt (mq_Wm D) 256)) (h27 : ∀ w, w < 2 ^ D 0 0 → mq_may D w = true → i 27 (mq_mc D w) = nI w) : ∃ i' l', qf_Cover_findFewest_24 L (nI (D 8 0)) i l = some (i', l') ∧ (∀ k, k ≠ 31 → k ≠ 32 → i' k = i k) ∧ i' 31 3 = nI (mw_tl D 64).length ∧ (∀ j, j < (mw_tl D 64).length → i' 32 j = nI (mw_at (mw_tl D 64) j)) ∧ ((∃ C, C < 2 ^ 20 ∧ i' 31 4 = nI C ∧ mw_best (mw_li D) (mw_tl D 64).length (mw_my D) (mw_tb C)) ∨ (i' 31 4 = -1 ∧ ∀ B, ¬ mw_cov (mw_li D) (mw_tl D 64).length 0 (mw_my D) B)) := by
  have hN := mw_p6 h6
  have h20 := mw_tl_len hO h6 (Nat.le_refl 64)
  rw [mq_cnt_mc D hO] at h9
  have hmcN := mq_mc_le D (2 ^ D 0 0)
  have loop : ∀ (f w : Nat), w + f = 2 ^ D 0 0 → ∀ y, (∀ v, v < 64 → mq_h y v = (decide (v < w) && mw_my D v)) → ∃ y', (∀ v, v < 64 → mq_h y' v = mw_my D v) ∧ ∀ r, ((qf_Cover_listTries L (nI (2 ^ D 0 0)) (nI (D 8 0)) y' i l).bind fun q1 => ((qf_Cover_forcedTries L y' q1.1 q1.2).bind fun q2 => ((qf_Cover_litInAny L q2.1 q2.2.1 q2.2.2).bind fun q3 => (qf_Cover_findFewest_24_p73 L q2.1 (y' &&& (q3.1 ^^^ (-1 : Int64))) (0 : Int32) (mj_up q3.2.1 31 4 (-1 : Int32)) q3.2.2)))) = some r → qf_Cover_findFewest_24_p5 L (nI (D 8 0)) y (nI (mq_mc D w)) i l = some r := by
    intro f
    induction f with
    | zero =>
      intro w hw y hy
      have hw : w = 2 ^ D 0 0 := hw
      subst hw
      refine ⟨y, fun v hv => ?_, fun r hr => qe_Cover_findFewest_24_p5 L _ _ _ i l _ ?_⟩
      · rw [hy v hv]
        unfold mw_my
        cases decide (v < 2 ^ D 0 0) <;> rfl
      · rw [h9, if_pos (nI_le (Nat.le_refl _) (by omega)), h8]
        exact hr
    | succ f ih =>
      intro w hw y hy
      have e1 : mq_mc D (w + 1) = mq_mc D w + (if mq_may D w = true then 1 else 0) := rfl
      cases hm : mq_may D w with
      | false =>
        rw [hm] at e1
        have e1 : mq_mc D (w + 1) = mq_mc D w := e1
        have hmy : mw_my D w = false := by unfold mw_my; rw [hm, Bool.and_false]
        obtain ⟨y', y1, y2⟩ := ih (w + 1) (by omega) y (mw_h_skip hy hmy)
        rw [e1] at y2
        exact ⟨y', y1, y2⟩
      | true =>
        rw [hm, if_pos rfl] at e1
        have hmy : mw_my D w = true := by unfold mw_my; rw [hm, decide_eq_true (show w < 2 ^ D 0 0 by omega)]; rfl
        have hmono := mq_mc_mono D (show w + 1 ≤ 2 ^ D 0 0 by omega)
        obtain ⟨y', y1, y2⟩ := ih (w + 1) (by omega) _ (mw_h_put (by omega) hy hmy)
        refine ⟨y', y1, fun r hr => qe_Cover_findFewest_24_p5 L _ _ _ i l _ ?_⟩
        rw [h9, if_neg (nI_ge (by omega) (by omega)), qs_Two_at_27 L i l (by omega), Option.bind_some]
        dsimp only
        rw [h27 w (by omega) hm, nI_1, ← e1]
        exact y2 r hr
  obtain ⟨y, y1, y2⟩ := loop (2 ^ D 0 0) 0 (by omega) 0 (fun v _ => by rw [mq_h_0, decide_eq_false (by omega), Bool.false_and])
  obtain ⟨i2, l2, g1, ⟨g2, g3, g4, g5⟩, g6⟩ := qs_listTries L i l hO h6 y1
  have hS : mw_S (mw_li D) (mw_tl D 64).length i2 l2 := ⟨g2, h20, g4, g5⟩
  obtain ⟨F, f1, f2, f3⟩ := qs_forced L y hS
  obtain ⟨z, z1, z2⟩ := qs_litInAny L f1 hS
  have hZ : ∀ w, w < 64 → mq_h (y &&& (z ^^^ (-1 : Int64))) w = (mw_my D w && !mw_any (mw_li D) (mw_tb F) (mw_tl D 64).length w) := fun w hw => by rw [mq_h_and, mq_h_not _ hw, y1 w hw, z2 w hw]
  obtain ⟨v, v1, v2⟩ := qs_fewest73 L f1 (y &&& (z ^^^ (-1 : Int64))) ((mw_tl D 64).length + 1) 0 (mj_up i2 31 4 (-1 : Int32)) (by omega) (hS.up _) (by rw [mq_upi_at, if_pos rfl]) (fun B _ => Nat.zero_le _)
  have go : ∀ r, qf_Cover_findFewest_24_p5 L (nI (D 8 0)) 0 (nI (mq_mc D 0)) i l = some r → qf_Cover_findFewest_24 L (nI (D 8 0)) i l = some r := fun r hr => qe_Cover_findFewest_24 L _ i l r hr
  refine ⟨mj_up (mj_up i2 31 4 (-1 : Int32)) 31 4 v, l2, go _ (y2 _ ?_), fun k h1 h2 => ?_, ?_, fun j hj => ?_, ?_⟩
  · rw [g1, Option.bind_some]
    dsimp only
    rw [f2, Option.bind_some]
    dsimp only
    rw [z1, Option.bind_some]
    exact v1
  · rw [mq_upn h1, mq_upn h1]; exact g6 k h1 h2
  · rw [mq_upi_at, if_neg (by omega), mq_upi_at, if_neg (by omega)]; exact g2
  · rw [mq_upn (by omega), mq_upn (by omega)]; exact g3 j hj
  · rcases v2 with ⟨k, g, k1, k2, k3, k4⟩ | ⟨k1, k2⟩
    · refine Or.inl ⟨g ||| F, Nat.or_lt_two_pow k1 f1, by rw [mq_upi_at, if_pos rfl]; exact k2, ?_⟩
      have hb := mw_best_forced (Y := mw_my D) (F := mw_tb F) (fun j hj => by
        obtain ⟨a1, w, a2, a3, a4⟩ := f3 j hj
        exact ⟨a1, w, a2, mw_li_all a3, a3, a4⟩) hZ k3 k4
      have e : (fun j => mw_tb g j || mw_tb F j) = mw_tb (g ||| F) := by
        funext j
        unfold mw_tb
        rw [Nat.testBit_or]
      rw [e] at hb
      exact hb
    · exact Or.inr ⟨by rw [mq_upi_at, if_pos rfl]; exact k1, mw_none_forced hZ k2⟩
section
variable {i : mMI} {l : mML} {D P M : mq_D} {R : Nat → Int32}
theorem qs_findWorst (L : Nat) (i : mMI) (l : mML) (hM : mq_RM i D P M R) (hO : mq_OkS D P M) (h6 : D 0 0 ≤ 6) : ∃ (i' : mMI) (l' : mML), mq_RM i' D P M R ∧ (∀ k, k < 42 → i' k = i k) ∧ (∀ j, j < (mw_tl D 64).length → i' 58 j = nI (mw_at (mw_tl D 64) j)) ∧ ((∃ A, qf_Mod_findWorst L i l = some (nI (mq_ct A (mw_tl D 64).length), i', l') ∧ mw_best (mw_li D) (mw_tl D 64).length (mw_my D) A ∧ ∀ j, A j = true → i' 59 (mq_ct A j) = nI j) ∨ (qf_Mod_findWorst L i l = some (-9, i', l') ∧ ∀ B, ¬ mw_cov (mw_li D) (mw_tl D 64).length 0 (mw_my D) B)) := by
  have h20 := mw_tl_len hO.1 h6 (Nat.le_refl 64)
  obtain ⟨i1, m1, m2, m3, m4, m5⟩ := mq_fm L i l hM hO
  obtain ⟨y, i2, l2, g1, ⟨g2, g3, g4⟩, g5, g6, g7⟩ := qs_findLights L i1 l m2.1 hO.1 h6 m4
  have hR : mw_R (mw_li D) (mw_tl D 64).length i2 l2 := ⟨g2, h20, g4⟩
  have fin : ∀ i3 : mMI, (∀ a, a ≠ 59 → i3 a = i2 a) → mq_RM i3 D P M R ∧ (∀ k, k < 42 → i3 k = i k) ∧ ∀ j, j < (mw_tl D 64).length → i3 58 j = nI (mw_at (mw_tl D 64) j) := by
    intro i3 h3
    refine ⟨m2.congr (fun j hj => ?_) (fun k hk => ?_), fun k hk => ?_, fun j hj => ?_⟩
    · rw [h3 42 (by omega)]; exact g7 j (by omega)
    · rw [h3 k (by omega)]; exact g6 k (by omega) (by omega)
    · rw [h3 k (by omega), g6 k (by omega) (by omega)]; exact m3 k hk
    · rw [h3 58 (by omega)]; exact g3 j hj
  have go : ∀ r, qf_Mod_findWorst_p14 L y 0 (nI 0) i2 l2 = some r → qf_Mod_findWorst L i l = some r := by
    intro r hr
    refine qe_Mod_findWorst L i l _ ?_
    rw [m1, Option.bind_some]
    dsimp only
    rw [g1, Option.bind_some]
    exact hr
  rcases qs_findWorst14 L g5 (fun j _ w _ h => mw_li_all h) i2 l2 hR with ⟨A, i3, l3, a1, a2, a3, a4⟩ | ⟨a1, a2⟩
  · obtain ⟨b1, b2, b3⟩ := fin i3 a3
    exact ⟨i3, l3, b1, b2, b3, Or.inl ⟨A, go _ a1, a2, a4⟩⟩
  · obtain ⟨b1, b2, b3⟩ := fin i2 (fun _ _ => rfl)
    exact ⟨i2, l2, b1, b2, b3, Or.inr ⟨go _ a1, a2⟩⟩
theorem mw_lb {x : Int32} (h : (-1 : Int32) ≤ x) (h2 : ¬ x = -1) : ∃ q, q < 2 ^ 31 ∧ x = nI q := by
  rw [Int32.le_iff_toInt_le] at h
  have h1 : (-1 : Int32).toInt = -1 := by decide
  have h3 : x.toInt ≠ -1 := fun z => h2 (Int32.toInt_inj.mp (z.trans h1.symm))
  have h4 := Int32.toInt_lt x
  refine ⟨x.toInt.toNat, by omega, Int32.toInt_inj.mp ?_⟩
  rw [nI_toInt (by omega)]
  omega
theorem qp_worst (L : Nat) (x : Int32) (hC : mq_RC i D P M R) (hM : mq_RM i D P M R) (hO : mq_OkS D P M) : mq_P (fun i l => qf_Two_worst L x i l) (fun i l => qf_Mod_worst L x i l) i l := by
  have h8 := hO.1.1.2
  by_cases hx : (-1 : Int32) ≤ x
  case neg =>
    refine mq_P_ref (r := -4) hC hM hO 4 (qe_Two_worst L x i l _ ?_) (fun i0 h => qe_Mod_worst L x i0 l _ ?_)
    · rw [if_neg hx, qs_refuse L i l mq_r4 (by omega), Option.bind_some]
    · rw [if_neg hx, if_neg (by decide), qs_no L i0 l mq_r4 (by omega), Option.bind_some]
  by_cases h6 : D 0 0 ≤ 6
  case neg =>
    have e6 : ∀ k : Nat, k = D 0 0 → ¬ nI k ≤ (6 : Int32) := fun k hk => nI_ge (a := 6) (b := k) (by omega) (by omega)
    refine mq_P_ref (r := -3) hC hM hO 3 (qe_Two_worst L x i l _ ?_) (fun i0 h => qe_Mod_worst L x i0 l _ ?_)
    · rw [if_pos hx, hC.1.1, if_neg (e6 _ rfl), qs_refuse L i l mq_r3 (by omega), Option.bind_some]
    · rw [if_pos hx, h.1.1, if_neg (e6 _ rfl), if_neg (by decide), qs_no L i0 l mq_r3 (by omega), Option.bind_some]
  have e6 : nI (D 0 0) ≤ (6 : Int32) := nI_le (a := D 0 0) (b := 6) h6 (by omega)
  have h20 := mw_tl_len hO.1 h6 (Nat.le_refl 64)
  have hat := mw_tl_lt D 64
  obtain ⟨i1, l1, k1, k2, k3, k4, k5, k6, k7, k8, k9, k10⟩ := mq_look L i l hC hO
  obtain ⟨i2, l2, c1, c2, c3, c4, c5⟩ := qs_findFewest L i1 l1 hO.1 h6 k5 k6 k8
  have hC2 : mq_RC i2 D P M R := k2.congr fun k hk => c2 k (by omega) (by omega)
  have f2 : ∀ k, 42 ≤ k → i2 k = i k := fun k hk => (c2 k (by omega) (by omega)).trans (k3 k hk)
  have clsA : ∀ r, (if (x : Int32) = (-1 : Int32) then ((qf_Cover_size L i2 l2).bind fun q3 => (some (q3.1, q3.2.1, q3.2.2))) else ((qf_Cover_member L x i2 l2).bind fun q4 => (some (q4.1, q4.2.1, q4.2.2)))) = some r → qf_Two_worst L x i l = some r := by
    intro r hr
    refine qe_Two_worst L x i l _ ?_
    rw [if_pos hx, hC.1.1, if_pos e6, k1, Option.bind_some]
    dsimp only
    rw [k2.1.2.2.2.2.2.1, c1, Option.bind_some]
    exact hr
  have modA : ∀ (i0 i3 : mMI) (v : Int32) (l0 l3 : mML), mq_RM i0 D P M R → qf_Mod_findWorst L i0 l0 = some (v, i3, l3) → ∀ r, (if (0 : Int32) ≤ (x : Int32) then (if v ≤ (x : Int32) then (some ((-9 : Int32), i3, l3)) else (if (x : Int32) < 0 ∨ 21 ≤ Int32.toNatClampNeg x then none else (if ((i3 59 (Int32.toNatClampNeg x)) : Int32) < 0 ∨ 20 ≤ Int32.toNatClampNeg (i3 59 (Int32.toNatClampNeg x)) then none else (some ((i3 58 (Int32.toNatClampNeg (i3 59 (Int32.toNatClampNeg x)))), i3, l3))))) else (some (v, i3, l3))) = some r → qf_Mod_worst L x i0 l0 = some r := by
    intro i0 i3 v l0 l3 h0 hv r hr
    refine qe_Mod_worst L x i0 l0 _ ?_
    rw [if_pos hx, h0.1.1, if_pos e6, if_pos rfl, hv, Option.bind_some]
    exact hr
  rcases c5 with ⟨C, C1, C2, C3⟩ | ⟨C2, C3⟩
  · have Cm : ∀ j, mw_tb C j = true → j < (mw_tl D 64).length := fun j hj => (C3.1.1 j hj).2
    have cl := mq_ct_le (mw_tb C) (mw_tl D 64).length
    -- the model's cover is the class's
    have mod : ∀ i0, mq_RM i0 D P M R → ∃ (i3 : mMI) (l3 : mML), mq_RM i3 D P M R ∧ (∀ k, k < 42 → i3 k = i0 k) ∧ (∀ j, j < (mw_tl D 64).length → i3 58 j = nI (mw_at (mw_tl D 64) j)) ∧ qf_Mod_findWorst L i0 l2 = some (nI (mq_ct (mw_tb C) (mw_tl D 64).length), i3, l3) ∧ ∀ j, mw_tb C j = true → i3 59 (mq_ct (mw_tb C) j) = nI j := by
      intro i0 h0
      obtain ⟨i3, l3, a1, a2, a3, a4⟩ := qs_findWorst L i0 l2 h0 hO h6
      rcases a4 with ⟨A, b1, b2, b3⟩ | ⟨b1, b2⟩
      · have e : A = mw_tb C := funext (mw_best_one b2 C3)
        rw [e] at b1 b3
        exact ⟨i3, l3, a1, a2, a3, b1, b3⟩
      · exact absurd C3.1 (b2 _)
    by_cases hx1 : x = -1
    · refine mq_P_scr (i1 := i2) (l1 := l2) (nI (mq_ct (mw_tb C) (mw_tl D 64).length)) hM hO (clsA _ ?_) hC2 f2 (fun i0 h0 => ?_)
      · rw [if_pos hx1, qs_size L C1 C2 Cm h20, Option.bind_some]
      · obtain ⟨i3, l3, a1, a2, a3, a4, a5⟩ := mod i0 h0
        refine ⟨i3, l3, modA i0 i3 _ l2 l3 h0 a4 _ ?_, a1, a2⟩
        rw [hx1, if_neg (by decide)]
    · obtain ⟨q, q1, q2⟩ := mw_lb hx hx1
      obtain ⟨mem1, mem2⟩ := qs_member (l := l2) L (q := q) C1 c3 C2 h20 c4 q1
      by_cases hq : q < mq_ct (mw_tb C) (mw_tl D 64).length
      · obtain ⟨p, p1, p2, p3⟩ := mw_nth _ hq
        refine mq_P_scr (i1 := i2) (l1 := l2) (nI (mw_at (mw_tl D 64) p)) hM hO (clsA _ ?_) hC2 f2 (fun i0 h0 => ?_)
        · rw [if_neg hx1, q2, mem1 p p1 p2 p3, Option.bind_some]
        · obtain ⟨i3, l3, a1, a2, a3, a4, a5⟩ := mod i0 h0
          have e59 : i3 59 q = nI p := by rw [← p3]; exact a5 p p2
          refine ⟨i3, l3, modA i0 i3 _ l2 l3 h0 a4 _ ?_, a1, a2⟩
          rw [q2, if_pos (show (0 : Int32) ≤ nI q from nI_pos' (by omega)), if_neg (nI_ge hq (by omega)), if_neg (nI_in (show q < 21 by omega) (by omega)), nI_clamp (by omega), e59, if_neg (nI_in (show p < 20 by omega) (by omega)), nI_clamp (by omega), a3 p p1]
      · refine mq_P_scr (i1 := i2) (l1 := l2) (-9) hM hO (clsA _ ?_) hC2 f2 (fun i0 h0 => ?_)
        · rw [if_neg hx1, q2, mem2 (fun p p1 p2 p3 => hq (by rw [← p3]; exact mw_ct_lt p1 p2)), Option.bind_some]
        · obtain ⟨i3, l3, a1, a2, a3, a4, a5⟩ := mod i0 h0
          refine ⟨i3, l3, modA i0 i3 _ l2 l3 h0 a4 _ ?_, a1, a2⟩
          rw [q2, if_pos (show (0 : Int32) ≤ nI q from nI_pos' (by omega)), if_pos (nI_le (by omega) q1)]
  · have mod : ∀ i0, mq_RM i0 D P M R → ∃ (i3 : mMI) (l3 : mML), mq_RM i3 D P M R ∧ (∀ k, k < 42 → i3 k = i0 k) ∧ qf_Mod_findWorst L i0 l2 = some (-9, i3, l3) := by
      intro i0 h0
      obtain ⟨i3, l3, a1, a2, a3, a4⟩ := qs_findWorst L i0 l2 h0 hO h6
      rcases a4 with ⟨A, b1, b2, b3⟩ | ⟨b1, b2⟩
      · exact absurd b2.1 (C3 _)
      · exact ⟨i3, l3, a1, a2, b1⟩
    refine mq_P_scr (i1 := i2) (l1 := l2) (-9) hM hO (clsA _ ?_) hC2 f2 (fun i0 h0 => ?_)
    · by_cases hx1 : x = -1
      · rw [if_pos hx1, qs_size_none L C2, Option.bind_some]
      · rw [if_neg hx1, qs_member_none L c3 C2, Option.bind_some]
    · obtain ⟨i3, l3, a1, a2, a4⟩ := mod i0 h0
      refine ⟨i3, l3, modA i0 i3 _ l2 l3 h0 a4 _ ?_, a1, a2⟩
      by_cases hx1 : x = -1
      · rw [hx1, if_neg (by decide)]
      · obtain ⟨q, q1, q2⟩ := mw_lb hx hx1
        have h1 : (0 : Int32) ≤ nI q := nI_pos' (by omega)
        have h2 : (-9 : Int32) ≤ nI q := by
          rw [Int32.le_iff_toInt_le] at h1 ⊢
          have : (-9 : Int32).toInt = -9 := by decide
          have : (0 : Int32).toInt = 0 := by decide
          omega
        rw [q2, if_pos h1, if_pos h2]
end
