/-! Evenings by seeds. -/
theorem mq_EV.congr {i i' : mMI} {D : mq_D} {k F : Nat} (h : mq_EV i D k F) (h36 : i' 36 = i 36) (h37 : i' 37 = i 37) (h35 : ∀ j, j ≠ 11 → j ≠ 12 → j ≠ 13 → i' 35 j = i 35 j) : mq_EV i' D k F := by
  unfold mq_EV
  rw [h36, h37, h35 2 (by omega) (by omega) (by omega), h35 7 (by omega) (by omega) (by omega), h35 8 (by omega) (by omega) (by omega), h35 9 (by omega) (by omega) (by omega), h35 10 (by omega) (by omega) (by omega)]
  exact h
section
variable {i : mMI} {l : mML} {D P M : mq_D} {R : Nat → Int32}
theorem mq_res_le (hO : mq_Ok D) {k : Nat} (hk : k ≤ 5) (F W : Nat) (lie : Nat → Nat) : (mq_res D k F W lie).1 ≤ 28 := by
  have h := mq_run_le k (D 0 0) (D 5 0) F W (mq_mp lie (mq_pl (D 0 0) (D 5 0) k)) 0 0 (fun _ => 0)
  have h2 := mq_pl_len (k := k) hO.1.2 hO.2.2.2.2.2.1 hk
  have h3 : (mq_mp lie (mq_pl (D 0 0) (D 5 0) k)).length = (mq_pl (D 0 0) (D 5 0) k).length := List.length_map ..
  unfold mq_res
  omega
theorem mq_lots (L : Nat) (hO : mq_Ok D) : ∀ (m b : Nat), b + m = D 0 0 → ∀ (z : Int32) (w : Nat), w < 2 ^ b → ∃ (z' : Int32) (w' : Nat), w' < 2 ^ D 0 0 ∧
    (∀ x2 x4 x6 x7 x8 i l r, mq_CD 2 3 4 5 6 7 i D → qf_Two_seededEvenings_p29 L x2 x4 z' x6 x7 x8 (nI w') (nI (D 0 0)) i l = some r → qf_Two_seededEvenings_p29 L x2 x4 z x6 x7 x8 (nI w) (nI b) i l = some r) ∧
    (∀ x1 x2 x4 x7 x8 x9 i l r, mq_MD i D → qf_Mod_seeds_p82 L x1 x2 x4 z' x7 x8 x9 (nI w') (nI (D 0 0)) i l = some r → qf_Mod_seeds_p82 L x1 x2 x4 z x7 x8 x9 (nI w) (nI b) i l = some r) := by
  have hn := hO.1
  intro m
  induction m with
  | zero =>
    intro b hb z w hw
    have hb : b = D 0 0 := hb
    subst hb
    exact ⟨z, w, hw, fun _ _ _ _ _ _ _ _ _ h => h, fun _ _ _ _ _ _ _ _ _ _ h => h⟩
  | succ m ih =>
    intro b hb z w hw
    have hlt : b < D 0 0 := by omega
    have hpb : (2 : Nat) ^ b < 2 ^ (b + 1) := mq_pow_lt (by omega)
    by_cases hc : nI (mq_ten (D 1 b) (D 2 b)) ≤ ((((((z * (1103515245 : Int32)) + (12345 : Int32)) &&& (2147483647 : Int32)) / (65536 : Int32)) - ((((z * (1103515245 : Int32)) + (12345 : Int32)) &&& (2147483647 : Int32)) / (65536 : Int32)) / (10 : Int32) * (10 : Int32)) : Int32)
    · obtain ⟨z', w', h1, h2, h3⟩ := ih (b + 1) (by omega) ((z * (1103515245 : Int32)) + (12345 : Int32)) w (by omega)
      refine ⟨z', w', h1, fun x2 x4 x6 x7 x8 i l r hC hr => qe_Two_seededEvenings_p29 L _ _ _ _ _ _ _ _ i l _ ?_, fun x1 x2 x4 x7 x8 x9 i l r hM hr => qe_Mod_seeds_p82 L _ _ _ _ _ _ _ _ _ i l _ ?_⟩
      · rw [hC.1, if_neg (nI_ge hlt (by omega)), if_neg (by decide), if_neg (by decide), qs_Drawer_tenths_2 L i l hC hO (by omega), Option.bind_some]
        dsimp only
        rw [if_pos hc, nI_1]
        exact h2 _ _ _ _ _ i l r hC hr
      · rw [hM.1, if_neg (nI_ge hlt (by omega)), if_neg (by decide), if_neg (by decide), qs_Mod_tenthsOf L i l hM hO (by omega), Option.bind_some]
        dsimp only
        rw [if_pos hc, nI_1, show nI w ||| (0 : Int32) = nI w from by rw [show (0 : Int32) = nI 0 from rfl, mq_or, Nat.or_zero]]
        exact h3 _ _ _ _ _ _ i l r hM hr
    · obtain ⟨z', w', h1, h2, h3⟩ := ih (b + 1) (by omega) ((z * (1103515245 : Int32)) + (12345 : Int32)) (w ||| 2 ^ b) (Nat.or_lt_two_pow (by omega) hpb)
      refine ⟨z', w', h1, fun x2 x4 x6 x7 x8 i l r hC hr => qe_Two_seededEvenings_p29 L _ _ _ _ _ _ _ _ i l _ ?_, fun x1 x2 x4 x7 x8 x9 i l r hM hr => qe_Mod_seeds_p82 L _ _ _ _ _ _ _ _ _ i l _ ?_⟩
      · rw [hC.1, if_neg (nI_ge hlt (by omega)), if_neg (by decide), if_neg (by decide), qs_Drawer_tenths_2 L i l hC hO (by omega), Option.bind_some]
        dsimp only
        rw [if_neg hc, nI_1, mq_shl (by omega), mq_or]
        exact h2 _ _ _ _ _ i l r hC hr
      · rw [hM.1, if_neg (nI_ge hlt (by omega)), if_neg (by decide), if_neg (by decide), qs_Mod_tenthsOf L i l hM hO (by omega), Option.bind_some]
        dsimp only
        rw [if_neg hc, nI_1, mq_shl (by omega), mq_or]
        exact h3 _ _ _ _ _ _ i l r hM hr
theorem mq_an_nn {m : Nat} (hm : m < 2 ^ 31) (o : Option (Nat × Nat)) : ((0 : Int32) ≤ mq_an m o ∧ mq_ob o = 1 ∧ mq_an m o = nI m) ∨ (¬ (0 : Int32) ≤ mq_an m o ∧ mq_ob o = 0) := by
  cases o with
  | none => exact Or.inr ⟨by show ¬ (0 : Int32) ≤ -9; decide, rfl⟩
  | some p => exact Or.inl ⟨nI_pos' hm, rfl, rfl⟩
theorem mq_evenings (L : Nat) {k N : Nat} (y : Int32) (l : mML) (hO : mq_OkS D P M) (hk : k ≤ 5) (hN : N ≤ 20) : ∀ (m e : Nat), e + m = N → ∀ (z s t : Int32), ∃ r,
    (∀ i, mq_RC i D P M R → mq_EV i D k (mq_sh k (mq_Fl D)) → (∀ p, p < D 0 0 → i 39 p = nI (D 3 p)) → ∃ i', qf_Two_seededEvenings_p17 L (nI N) y z s t (nI e) i l = some (r, i', l) ∧ mq_RC i' D P M R ∧ ∀ c, 42 ≤ c → i' c = i c) ∧
    (∀ i, mq_RM i D P M R → i 42 43 = nI (mq_Fl D) → ∃ i', qf_Mod_seeds_p70 L (nI k) (nI N) y z s t (nI e) i l = some (r, i', l) ∧ mq_RM i' D P M R ∧ ∀ c, c < 42 → i' c = i c) := by
  have hp := mq_pow hO.1.1.2
  have hF := mq_Fl_lt hO.1
  have hl := hO.1.2.2.2.1
  have hn := hO.1.1
  intro m
  induction m with
  | zero =>
    intro e he z s t
    have he : e = N := he
    subst he
    refine ⟨if y = 0 then s else t, fun i hC _ _ => ⟨i, qe_Two_seededEvenings_p17 L _ _ _ _ _ _ i l _ ?_, hC, fun _ _ => rfl⟩, fun i hM _ => ⟨i, qe_Mod_seeds_p70 L _ _ _ _ _ _ _ i l _ ?_, hM, fun _ _ => rfl⟩⟩
    · rw [if_pos (nI_le (Nat.le_refl _) (by omega))]
      by_cases hy : y = 0
      · rw [if_pos hy, if_pos hy]
      · rw [if_neg hy, if_neg hy]
    · rw [if_pos (nI_le (Nat.le_refl _) (by omega))]
      by_cases hy : y = 0
      · rw [if_pos hy, if_pos hy]
      · rw [if_neg hy, if_neg hy]
  | succ m ih =>
    intro e he z s t
    have hlt : e < N := by omega
    obtain ⟨z', w', hw, lc, lm⟩ := mq_lots L hO.1 (D 0 0) 0 (by omega) z 0 (by decide)
    have hW : w' < 256 := by omega
    have hrl := mq_res_le hO.1 hk (mq_Fl D) w' (D 3)
    obtain ⟨r, cl, mo⟩ := ih (e + 1) (by omega) z' (if mq_ob (mq_res D k (mq_Fl D) w' (D 3)).2.2.1 = 0 then s else s + nI (mq_res D k (mq_Fl D) w' (D 3)).1) (if mq_ob (mq_res D k (mq_Fl D) w' (D 3)).2.2.1 = 0 then t else t + 1)
    refine ⟨r, fun i hC hE h39 => ?_, fun i hM h43 => ?_⟩
    · obtain ⟨i2, e2, s1, s2, s3, s4, s5, s6⟩ := qs_spend L (W := w') (lie := D 3) i l hO.1 hk hF hW hl.1 hl.2 hE h39
      have hC2 : mq_RC i2 D P M R := hC.congr (fun c hc => s5 c (by omega) (by omega))
      obtain ⟨i', g1, g2, g3⟩ := cl i2 hC2 (hE.congr (s5 36 (by omega) (by omega)) (s5 37 (by omega) (by omega)) s6) (fun p hp => by rw [s5 39 (by omega) (by omega)]; exact h39 p hp)
      refine ⟨i', qe_Two_seededEvenings_p17 L _ _ _ _ _ _ i l _ ?_, g2, fun c hc => (g3 c hc).trans (s5 c (by omega) (by omega))⟩
      rw [if_neg (nI_ge hlt (by omega))]
      refine lc _ _ _ _ _ i l _ hC.1 ?_
      refine qe_Two_seededEvenings_p29 L _ _ _ _ _ _ _ _ i l _ ?_
      rw [hC.1.1, if_pos (nI_le (Nat.le_refl _) (by omega)), e2, Option.bind_some]
      simp only [s1, s3, nI_1]
      by_cases hb : mq_ob (mq_res D k (mq_Fl D) w' (D 3)).2.2.1 = 0
      · rw [if_pos hb, if_pos hb] at g1
        rw [if_pos hb]
        exact g1
      · rw [if_neg hb, if_neg hb] at g1
        rw [if_neg hb]
        exact g1
    · obtain ⟨i2, e2, -, -, -, -, -, t2, t3⟩ := qs_triesOf L (k := k) (F := mq_Fl D) (W := w') (lie := D 3) i l hO.1 hk hF hW hl.1 hl.2 hM.1.1 hM.1.2.2.1 h43 (fun p hp => hM.1.2.2.2.2.2.2.2.2.2.1 p (by omega))
      have hM2 : mq_RM i2 D P M R := hM.congr (fun j hj => t3 j (by omega) (by omega) (by omega) (by omega)) (fun c hc => t2 c (by omega) (by omega) (by omega) (by omega) (by omega))
      obtain ⟨i', g1, g2, g3⟩ := mo i2 hM2 ((t3 43 (by omega) (by omega) (by omega) (by omega)).trans h43)
      refine ⟨i', qe_Mod_seeds_p70 L _ _ _ _ _ _ _ i l _ ?_, g2, fun c hc => (g3 c hc).trans (t2 c (by omega) (by omega) (by omega) (by omega) (by omega))⟩
      rw [if_neg (nI_ge hlt (by omega))]
      refine lm _ _ _ _ _ _ i l _ hM.1 ?_
      refine qe_Mod_seeds_p82 L _ _ _ _ _ _ _ _ _ i l _ ?_
      rw [hM.1.1, if_pos (nI_le (Nat.le_refl _) (by omega)), e2, Option.bind_some]
      dsimp only
      rcases mq_an_nn (m := (mq_res D k (mq_Fl D) w' (D 3)).1) (by omega) (mq_res D k (mq_Fl D) w' (D 3)).2.2.1 with ⟨b1, b2, b3⟩ | ⟨b1, b2⟩
      · rw [if_neg (by rw [b2]; decide), if_neg (by rw [b2]; decide)] at g1
        rw [if_pos b1, if_pos b1, b3, nI_1]
        exact g1
      · rw [if_pos b2, if_pos b2] at g1
        rw [if_neg b1, if_neg b1, nI_1, Int32.add_zero, Int32.add_zero]
        exact g1
theorem qp_seeds (L : Nat) (x y z w : Int32) (hC : mq_RC i D P M R) (hM : mq_RM i D P M R) (hO : mq_OkS D P M) : mq_P (fun i l => qf_Two_seeds L x y z w i l) (fun i l => qf_Mod_seeds L x y z w i l) i l := by
  have hn := hO.1.1
  have p42 : ∀ i0, ∀ k (v : Int32), -v = nI k → k < 7 → (¬ v = 0) → qf_Mod_seeds_p42 L x y z w v i0 l = some (v, mq_ref 43 i0 k, l) := by
    intro i0 k v hv hk h0
    refine qe_Mod_seeds_p42 L x y z w v i0 l _ ?_
    rw [if_neg h0, qs_no L i0 l hv hk, Option.bind_some]
  rcases mq_kind5 (x := x) with ⟨k, hk, hxk⟩ | hx
  · have n0 : qf_Two_noKind L x i l = some (0, i, l) := by rw [hxk]; exact qs_noKind_0 L i l hk
    have in5 : ∀ i0, qf_Mod_isIn L x 0 5 i0 l = some (1, i0, l) := fun i0 => by rw [hxk]; exact qs_in5 L i0 l hk
    rcases mq_in3 y 1 20 (n := 1) (m := 20) (by decide) (by decide) (by omega) with ⟨h1, h2⟩ | ⟨h1, h2, h3, h4⟩ | ⟨N, hj1, hj2, hyN, h3, h4, h5, h6⟩
    · refine mq_P_ref (r := -4) hC hM hO 4 (qe_Two_seeds L x y z w i l _ ?_) (fun i0 h => qe_Mod_seeds L x y z w i0 l _ ?_)
      · simp only [n0, Option.bind_some, ↓reduceIte]
        rw [if_neg h2, qs_refuse L i l mq_r4 (by omega), Option.bind_some]
      · simp only [in5 i0, Option.bind_some, mq_10, ↓reduceIte, qs_bound_lo L i0 l h2, mq_n4]
        exact p42 i0 4 (-4) mq_r4 (by omega) (by decide)
    · refine mq_P_ref (r := -6) hC hM hO 6 (qe_Two_seeds L x y z w i l _ ?_) (fun i0 h => qe_Mod_seeds L x y z w i0 l _ ?_)
      · simp only [n0, Option.bind_some, ↓reduceIte]
        rw [if_pos h3, if_neg h2, qs_refuse L i l mq_r6 (by omega), Option.bind_some]
      · simp only [in5 i0, Option.bind_some, mq_10, ↓reduceIte, qs_bound_hi L i0 l h3 h2, mq_n6]
        exact p42 i0 6 (-6) mq_r6 (by omega) (by decide)
    · by_cases hw : w = 0 ∨ w = 1
      · subst hxk
        subst hyN
        obtain ⟨i1, l1, e1, f1, f2, f3, f4⟩ := qs_prepareEvening L i l hC hO hk
        obtain ⟨r, cl, mo⟩ := mq_evenings (R := R) L w l1 hO hk (N := N) (by omega) N 0 (by omega) z 0 0
        obtain ⟨i2, g1, g2, g3⟩ := cl i1 f3 f1 (fun p hp => f2 p (by omega))
        have hc : ∀ r, qf_Two_seeds_p57 L (nI k) (nI N) z w i l = some r → qf_Two_seeds L (nI k) (nI N) z w i l = some r := by
          intro r hr
          refine qe_Two_seeds L _ _ _ _ i l _ ?_
          simp only [n0, Option.bind_some, ↓reduceIte]
          rw [if_pos h3, if_pos h4]
          by_cases h0 : w = 0
          · rw [if_pos h0]; exact hr
          · rw [if_neg h0, if_pos (hw.resolve_left h0)]; exact hr
        refine mq_P_scr r hM hO (i1 := i2) (l1 := l1) (hc _ (qe_Two_seeds_p57 L _ _ _ _ i l _ ?_)) g2 (fun c hc => (g3 c hc).trans (f4 c hc)) (fun i0 h0 => ?_)
        · have es : qf_Two_seededEvenings L (nI k) (nI N) z w i l = some (r, i2, l1) := by
            refine qe_Two_seededEvenings L _ _ _ _ i l _ ?_
            rw [e1, Option.bind_some]
            exact g1
          rw [es, Option.bind_some]
        · obtain ⟨j1, d1, d2, d3, d4⟩ := qs_findFlat L i0 l1 h0 hO
          obtain ⟨j2, t1, t2, t3⟩ := mo j1 d2 d3
          refine ⟨j2, l1, qe_Mod_seeds L _ _ _ _ i0 l1 _ ?_, t2, fun c hc => (t3 c hc).trans (d4 c hc)⟩
          simp only [qs_in5 L i0 l1 hk, Option.bind_some, mq_10, ↓reduceIte, qs_bound_in L i0 l1 h3 h4, (qs_part01 L i0 l1).1 hw]
          refine qe_Mod_seeds_p42 L _ _ _ _ _ i0 l1 _ ?_
          rw [if_pos rfl, d1, Option.bind_some]
          exact t1
      · refine mq_P_ref (r := -2) hC hM hO 2 (qe_Two_seeds L x y z w i l _ ?_) (fun i0 h => qe_Mod_seeds L x y z w i0 l _ ?_)
        · simp only [n0, Option.bind_some, ↓reduceIte]
          rw [if_pos h3, if_pos h4, if_neg (fun q => hw (Or.inl q)), if_neg (fun q => hw (Or.inr q)), qs_refuse L i l mq_r2 (by omega), Option.bind_some]
        · simp only [in5 i0, Option.bind_some, mq_10, ↓reduceIte, qs_bound_in L i0 l h3 h4, (qs_part01 L i0 l).2 hw]
          exact p42 i0 2 (-2) mq_r2 (by omega) (by decide)
  · refine mq_P_ref (r := -2) hC hM hO 2 (qe_Two_seeds L x y z w i l _ ?_) (fun i0 h => qe_Mod_seeds L x y z w i0 l _ ?_)
    · simp only [qs_noKind_1 L i l hx, Option.bind_some, mq_10, ↓reduceIte, qs_refuse L i l mq_r2 (show 2 < 7 by omega)]
    · simp only [qs_out5 L i0 l hx, Option.bind_some, ↓reduceIte, mq_n2]
      exact p42 i0 2 (-2) mq_r2 (by omega) (by decide)
end
