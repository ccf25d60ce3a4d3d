/-! put, back, bestRule. -/
def mq_lied (D : mq_D) (v : Nat → Nat) : mq_D := fun a b => if a = 3 ∧ b < D 0 0 then v b else D a b
theorem mq_lied_3 (D : mq_D) (v : Nat → Nat) (j : Nat) : mq_lied D v 3 j = if j < D 0 0 then v j else D 3 j := by
  unfold mq_lied
  by_cases h : j < D 0 0
  · rw [if_pos ⟨rfl, h⟩, if_pos h]
  · rw [if_neg (fun q => h q.2), if_neg h]
theorem mq_lied_n {D : mq_D} {v : Nat → Nat} {a : Nat} (h : a ≠ 3) (b : Nat) : mq_lied D v a b = D a b := if_neg (fun q => h q.1)
theorem mq_Ok_lied {D : mq_D} {v : Nat → Nat} (h : mq_Ok D) (h1 : ∀ j, j < D 0 0 → v j < D 0 0) (h2 : ∀ a b, a < D 0 0 → b < D 0 0 → v a = v b → a = b) : mq_Ok (mq_lied D v) := by
  obtain ⟨a0, a1, a2, a3, a4, a5, a6, a7, a8, a9, a10⟩ := h
  have e : ∀ j, j < D 0 0 → mq_lied D v 3 j = v j := fun j hj => by rw [mq_lied_3, if_pos hj]
  exact ⟨a0, a1, a2, ⟨fun j hj => by rw [e j hj]; exact h1 j hj, fun a b ha hb q => h2 a b ha hb (by rw [← e a ha, ← e b hb]; exact q)⟩, a4, a5, a6, a7, a8, a9, a10⟩
section
variable {i i' : mMI} {l : mML} {D P M : mq_D} {R : Nat → Int32} {v : Nat → Nat}
theorem mq_RC.lied (h : mq_RC i D P M R) (hk : ∀ k, k < 24 → k ≠ 5 → i' k = i k) (h5 : ∀ j, j < 8 → i' 5 j = nI (mq_lied D v 3 j)) : mq_RC i' (mq_lied D v) P M R := by
  obtain ⟨⟨c0, c4, c5, c6, c7, c8, c9, d1, d2, d3, d4, d5⟩, a1, a2, a3, a4, a5, a6, a7⟩ := h
  unfold mq_RC mq_CD
  rw [hk 1 (by omega) (by omega), hk 2 (by omega) (by omega), hk 3 (by omega) (by omega), hk 4 (by omega) (by omega), hk 6 (by omega) (by omega), hk 7 (by omega) (by omega), hk 8 (by omega) (by omega), hk 9 (by omega) (by omega), hk 10 (by omega) (by omega), hk 11 (by omega) (by omega), hk 12 (by omega) (by omega), hk 13 (by omega) (by omega), hk 20 (by omega) (by omega), hk 21 (by omega) (by omega), hk 22 (by omega) (by omega), hk 23 (by omega) (by omega)]
  exact ⟨⟨c0, c4, c5, c6, c7, c8, c9, d1, d2, h5, d4, d5⟩, a1, a2, a3, a4, a5, a6, a7⟩
theorem mq_RM.lied (h : mq_RM i D P M R) (h42 : ∀ j, (6 ≤ j ∧ j ≤ 12 ∨ j = 19 ∨ j = 25 ∨ j = 53) → i' 42 j = i 42 j) (hk : ∀ k, (43 ≤ k ∧ k ≤ 49 ∨ k = 55 ∨ k = 68 ∨ k = 69 ∨ k = 72) → k ≠ 46 → i' k = i k) (h46 : ∀ j, j < 8 → i' 46 j = nI (mq_lied D v 3 j)) : mq_RM i' (mq_lied D v) P M R := by
  obtain ⟨⟨c0, c4, c5, c6, c7, c8, c9, d1, d2, d3, d4, d5⟩, a1, a2, a3, a4, a5, a6, a7⟩ := h
  unfold mq_RM mq_MD mq_KD
  rw [hk 43 (by omega) (by omega), hk 44 (by omega) (by omega), hk 45 (by omega) (by omega), hk 47 (by omega) (by omega), hk 48 (by omega) (by omega), hk 49 (by omega) (by omega), hk 55 (by omega) (by omega), hk 68 (by omega) (by omega), hk 69 (by omega) (by omega), hk 72 (by omega) (by omega), h42 6 (by omega), h42 7 (by omega), h42 8 (by omega), h42 9 (by omega), h42 10 (by omega), h42 11 (by omega), h42 12 (by omega), h42 19 (by omega), h42 25 (by omega), h42 53 (by omega)]
  exact ⟨⟨c0, c4, c5, c6, c7, c8, c9, d1, d2, h46, d4, d5⟩, a1, a2, a3, a4, a5, a6, a7⟩
/-- who lies where behind an evening and its rule -/
noncomputable def mq_nv (D : mq_D) (k r : Nat) : Nat → Nat := mq_nl (D 3) (D 0 0) r (mq_ff r (mq_res D k (mq_Fl D) (D 4 0) (D 3)).2.1 (mq_res D k (mq_Fl D) (D 4 0) (D 3)).2.2.1) (mq_tt r (mq_res D k (mq_Fl D) (D 4 0) (D 3)).2.2.2 (mq_res D k (mq_Fl D) (D 4 0) (D 3)).2.2.1)
theorem mq_nv_ok (hO : mq_Ok D) {k : Nat} (hk : k ≤ 5) (r : Nat) : (∀ j, j < D 0 0 → mq_nv D k r j < D 0 0) ∧ ∀ a b, a < D 0 0 → b < D 0 0 → mq_nv D k r a = mq_nv D k r b → a = b := by
  have hl := hO.2.2.2.1
  exact mq_nl_ok hl.1 hl.2 (mq_ff_tt hO (F := mq_Fl D) (W := D 4 0) hk hl.1 hl.2 r).2.2 r
/-- spending an evening and putting back, on the class's side -/
theorem qs_spendBack (L : Nat) {k r : Nat} (i : mMI) (l : mML) (hO : mq_Ok D) (hk : k ≤ 5) (hr : r ≤ 5) (hE : mq_EV i D k (mq_sh k (mq_Fl D))) (h39 : ∀ p, p < D 0 0 → i 39 p = nI (D 3 p)) :
    ∃ i1 i2, qf_Evening_spend L (nI (D 4 0)) i l = some (i1, l) ∧ qf_Evening_answer L i1 l = some (mq_an (mq_res D k (mq_Fl D) (D 4 0) (D 3)).1 (mq_res D k (mq_Fl D) (D 4 0) (D 3)).2.2.1, i1, l) ∧ qf_Evening_layBack L (nI r) i1 l = some (i2, l) ∧ mq_EV i2 D k (mq_sh k (mq_Fl D)) ∧ (∀ p, p < D 0 0 → i2 39 p = nI (mq_nv D k r p)) ∧ (∀ p, D 0 0 ≤ p → i2 39 p = i 39 p) ∧ (∀ c, c ≠ 35 → c ≠ 41 → i1 c = i c) ∧ ∀ c, c ≠ 35 → c ≠ 39 → c ≠ 40 → c ≠ 41 → i2 c = i c := by
  have hp := mq_pow hO.1.2
  have hF := mq_Fl_lt hO
  have hW : D 4 0 < 256 := by have := hO.2.2.2.2.1; omega
  have hl := hO.2.2.2.1
  obtain ⟨i1, e1, s1, s2, s3, s4, s5, s6⟩ := qs_spend L (W := D 4 0) (lie := D 3) i l hO hk hF hW hl.1 hl.2 hE h39
  obtain ⟨ok1, ok2, ok3⟩ := mq_res_ok hO (F := mq_Fl D) (W := D 4 0) hk hl.1 hl.2
  obtain ⟨hf, ht, hd⟩ := mq_ff_tt hO (F := mq_Fl D) (W := D 4 0) hk hl.1 hl.2 r
  have b39 : ∀ p, i1 39 p = i 39 p := fun p => by rw [s5 39 (by omega) (by omega)]
  obtain ⟨i2, e2, g1, g2, g3⟩ := qs_layBack L (r := r) i1 l hr hO.1 hl.1 ((s6 8 (by omega) (by omega) (by omega)).trans hE.2.2.2.1) s2 s3 s4 (fun p hp => by rw [b39]; exact h39 p hp) (fun p hp => by
    obtain ⟨o1, o2, o3, o4, _⟩ := ok3 p hp
    exact ⟨o1, o2, o3, o4⟩) hf ht hd
  refine ⟨i1, i2, e1, qs_answer L i1 l s1 s3, e2, hE.congr ?_ ?_ (fun j j1 j2 j3 => ?_), g1, fun p hp => by rw [g2 p hp, b39], s5, fun c c1 c2 c3 c4 => by rw [g3 c c2 c3, s5 c c1 c4]⟩
  · rw [g3 36 (by omega) (by omega), s5 36 (by omega) (by omega)]
  · rw [g3 37 (by omega) (by omega), s5 37 (by omega) (by omega)]
  · rw [g3 35 (by omega) (by omega)]
    exact s6 j j1 j2 j3
theorem qp_put (L : Nat) (x y : Int32) (hC : mq_RC i D P M R) (hM : mq_RM i D P M R) (hO : mq_OkS D P M) : mq_P (fun i l => qf_Two_put L x y i l) (fun i l => qf_Mod_put L x y i l) i l := by
  have hF := mq_Fl_lt hO.1
  have hl := hO.1.2.2.2.1
  have hn := hO.1.1
  rcases mq_kind5 (x := x) with ⟨k, hk, hxk⟩ | hx
  · rcases mq_kind5 (x := y) with ⟨r, hr, hyr⟩ | hy
    · subst hxk
      subst hyr
      obtain ⟨n1, n2⟩ := mq_nv_ok hO.1 hk r
      obtain ⟨i1, l1, e1, f1, f2, f3, f4⟩ := qs_prepareEvening L i l hC hO hk
      obtain ⟨i2, i3, g1, g2, g3, g4, g5, g6, g7, g8⟩ := qs_spendBack L i1 l1 hO.1 hk hr f1 (fun p hp => f2 p (by omega))
      have el : qf_Drawer_lieAs_2_39 L i3 l1 = some (mq_cp i3 39 5 8, l1) := by
        refine qe_Drawer_lieAs_2_39 L i3 l1 _ ?_
        rw [qs_Two_copy_39_5 L i3 l1, Option.bind_some]
      have e39 : ∀ j, j < 8 → i3 39 j = nI (mq_lied D (mq_nv D k r) 3 j) := by
        intro j hj
        rw [mq_lied_3]
        by_cases h : j < D 0 0
        · rw [if_pos h]; exact g5 j h
        · rw [if_neg h, g6 j (by omega)]; exact f2 j hj
      refine mq_P_mk (D' := mq_lied D (mq_nv D k r)) (P' := P) (M' := M) (R' := R) (r := mq_an (mq_res D k (mq_Fl D) (D 4 0) (D 3)).1 (mq_res D k (mq_Fl D) (D 4 0) (D 3)).2.2.1) (i1 := mq_cp i3 39 5 8) (l1 := l1) hM (qe_Two_put L _ _ i l _ ?_) (f3.lied (fun c h1 h2 => by rw [mq_cp_ne h2, g8 c (by omega) (by omega) (by omega) (by omega)]) (fun j hj => by rw [mq_cp_at hj]; exact e39 j hj)) (fun c hc => by rw [mq_cp_ne (by omega), g8 c (by omega) (by omega) (by omega) (by omega)]; exact f4 c hc) ⟨mq_Ok_lied hO.1 n1 n2, hO.2⟩ (fun i0 h0 => ?_)
      · simp only [qs_noKind_0 L i l hk, qs_noRule_0 L i l hr, Option.bind_some, ↓reduceIte, e1, f3.1.2.1, g1, g2, g3, el]
      · obtain ⟨j1, d1, d2, d3, d4⟩ := qs_findFlat L i0 l1 h0 hO
        obtain ⟨j2, t1, t2, t3, t4, t5⟩ := qs_goesBack L (k := k) (r := r) (F := mq_Fl D) (lie := D 3) j1 l1 hO.1 hk hr hF hl.1 hl.2 d2.1.1 d2.1.2.1 d2.1.2.2.1 d3 (fun p hp => d2.1.2.2.2.2.2.2.2.2.2.1 p (by omega))
        refine ⟨j2, l1, qe_Mod_put L _ _ i0 l1 _ ?_, d2.lied (fun j hj => t5 j (by omega) (by omega) (by omega) (by omega) (by omega)) (fun c h1 h2 => t4 c (by omega) h2 (by omega) (by omega) (by omega) (by omega) (by omega) (by omega)) (fun j hj => ?_), fun c hc => (t4 c (by omega) (by omega) (by omega) (by omega) (by omega) (by omega) (by omega) (by omega)).trans (d4 c hc)⟩
        · simp only [qs_in5 L i0 l1 hk, qs_in5 L i0 l1 hr, Option.bind_some, mq_10, ↓reduceIte, d1, t1]
        · rw [mq_lied_3]
          by_cases h : j < D 0 0
          · rw [if_pos h]; exact (t2 j h).1
          · rw [if_neg h, t3 j (by omega)]; exact d2.1.2.2.2.2.2.2.2.2.2.1 j hj
    · have n0 : qf_Two_noKind L x i l = some (0, i, l) := by rw [hxk]; exact qs_noKind_0 L i l hk
      have in5 : ∀ i0, qf_Mod_isIn L x 0 5 i0 l = some (1, i0, l) := fun i0 => by rw [hxk]; exact qs_in5 L i0 l hk
      refine mq_P_ref (r := -2) hC hM hO 2 (qe_Two_put L x y i l _ ?_) (fun i0 h => qe_Mod_put L x y i0 l _ ?_)
      · simp only [n0, qs_noRule_1 L i l hy, Option.bind_some, mq_10, ↓reduceIte, qs_refuse L i l mq_r2 (show 2 < 7 by omega)]
      · simp only [in5 i0, qs_out5 L i0 l hy, Option.bind_some, mq_10, ↓reduceIte, qs_no L i0 l mq_r2 (show 2 < 7 by omega)]
  · refine mq_P_ref (r := -2) hC hM hO 2 (qe_Two_put L x y i l _ ?_) (fun i0 h => qe_Mod_put L x y i0 l _ ?_)
    · simp only [qs_noKind_1 L i l hx, Option.bind_some, mq_10, ↓reduceIte, qs_refuse L i l mq_r2 (show 2 < 7 by omega)]
    · simp only [qs_out5 L i0 l hx, Option.bind_some, ↓reduceIte, qs_no L i0 l mq_r2 (show 2 < 7 by omega)]
/-- the next evening behind a rule, on the class's side -/
theorem qs_nextEvening (L : Nat) {k r : Nat} (i : mMI) (l : mML) (hC : mq_RC i D P M R) (hO : mq_OkS D P M) (hk : k ≤ 5) (hr : r ≤ 5) (hE : mq_EV i D k (mq_sh k (mq_Fl D))) : ∃ i', qf_Two_nextEvening L (nI r) i l = some (mq_an (mq_res D k (mq_Fl D) (D 4 0) (mq_nv D k r)).1 (mq_res D k (mq_Fl D) (D 4 0) (mq_nv D k r)).2.2.1, i', l) ∧ mq_RC i' D P M R ∧ mq_EV i' D k (mq_sh k (mq_Fl D)) ∧ ∀ c, 42 ≤ c → i' c = i c := by
  have hp := mq_pow hO.1.1.2
  have hF := mq_Fl_lt hO.1
  have hW : D 4 0 < 256 := by have := hO.1.2.2.2.2.1; omega
  have hn := hO.1.1
  obtain ⟨n1, n2⟩ := mq_nv_ok hO.1 hk r
  have el : qf_Evening_lieAs_5 L i l = some (mq_cp i 5 39 8, l) := by
    refine qe_Evening_lieAs_5 L i l _ ?_
    rw [qs_Two_copy_5_39 L i l, Option.bind_some]
  have hE1 : mq_EV (mq_cp i 5 39 8) D k (mq_sh k (mq_Fl D)) := hE.congr (mq_cp_ne (by omega)) (mq_cp_ne (by omega)) (fun j _ _ _ => by rw [mq_cp_ne (by omega)])
  obtain ⟨i2, i3, g1, g2, g3, g4, g5, g6, g7, g8⟩ := qs_spendBack L (r := r) (mq_cp i 5 39 8) l hO.1 hk hr hE1 (fun p hp => by rw [mq_cp_at (by omega)]; exact hC.1.2.2.2.2.2.2.2.2.2.1 p (by omega))
  obtain ⟨i4, e4, s1, s2, s3, s4, s5, s6⟩ := qs_spend L (W := D 4 0) (lie := mq_nv D k r) i3 l hO.1 hk hF hW n1 n2 g4 g5
  have h24 : (mq_cp i 5 39 8) 2 4 = nI (D 4 0) := by rw [mq_cp_ne (by omega)]; exact hC.1.2.1
  have h24' : i3 2 4 = nI (D 4 0) := by rw [g8 2 (by omega) (by omega) (by omega) (by omega)]; exact h24
  refine ⟨i4, qe_Two_nextEvening L _ i l _ ?_, hC.congr (fun c hc => by rw [s5 c (by omega) (by omega), g8 c (by omega) (by omega) (by omega) (by omega), mq_cp_ne (by omega)]), g4.congr (s5 36 (by omega) (by omega)) (s5 37 (by omega) (by omega)) s6, fun c hc => by rw [s5 c (by omega) (by omega), g8 c (by omega) (by omega) (by omega) (by omega), mq_cp_ne (by omega)]⟩
  simp only [el, Option.bind_some, h24, g1, g3, h24', e4, qs_answer L i4 l s1 s3]
theorem qs_triesBehind (L : Nat) {k r : Nat} (i : mMI) (l : mML) (hM : mq_RM i D P M R) (hO : mq_OkS D P M) (hk : k ≤ 5) (hr : r ≤ 5) (h43 : i 42 43 = nI (mq_Fl D)) : ∃ i', qf_Mod_triesBehind L (nI k) (nI r) i l = some (mq_an (mq_res D k (mq_Fl D) (D 4 0) (mq_nv D k r)).1 (mq_res D k (mq_Fl D) (D 4 0) (mq_nv D k r)).2.2.1, i', l) ∧ mq_RM i' D P M R ∧ i' 42 43 = nI (mq_Fl D) ∧ ∀ c, c < 42 → i' c = i c := by
  have hp := mq_pow hO.1.1.2
  have hF := mq_Fl_lt hO.1
  have hW : D 4 0 < 256 := by have := hO.1.2.2.2.2.1; omega
  have hn := hO.1.1
  have hl := hO.1.2.2.2.1
  obtain ⟨n1, n2⟩ := mq_nv_ok hO.1 hk r
  have d3 := hM.1.2.2.2.2.2.2.2.2.2.1
  obtain ⟨j1, t1, t2, t3, t4, t5⟩ := qs_goesBack L (k := k) (r := r) (F := mq_Fl D) (lie := D 3) i l hO.1 hk hr hF hl.1 hl.2 hM.1.1 hM.1.2.1 hM.1.2.2.1 h43 (fun p hp => d3 p (by omega))
  have last : ∀ (x : Int32) (m j : Nat), j + m = D 0 0 → ∀ a : mMI, a 42 6 = nI (D 0 0) → (∀ p, p < D 0 0 → a 71 p = nI (D 3 p)) → (∀ p, p < j → a 46 p = nI (D 3 p)) → ∃ i', qf_Mod_triesBehind_p48 L x (nI j) a l = some (x, i', l) ∧ (∀ p, p < D 0 0 → i' 46 p = nI (D 3 p)) ∧ (∀ p, D 0 0 ≤ p → i' 46 p = a 46 p) ∧ ∀ c, c ≠ 46 → i' c = a c := by
    intro x m
    induction m with
    | zero =>
      intro j hj a h6 h71 h46
      have hj : j = D 0 0 := hj
      subst hj
      refine ⟨a, qe_Mod_triesBehind_p48 L _ _ a l _ ?_, h46, fun _ _ => rfl, fun _ _ => rfl⟩
      rw [h6, if_pos (nI_le (Nat.le_refl _) (by omega))]
    | succ m ih =>
      intro j hj a h6 h71 h46
      have hlt : j < D 0 0 := by omega
      obtain ⟨i', g1, g2, g3, g4⟩ := ih (j + 1) (by omega) (mj_up a 46 j (a 71 j)) (by rw [mq_upn (by omega)]; exact h6) (fun p hp => by rw [mq_upn (by omega)]; exact h71 p hp) (fun p hp => by
        rw [mq_upi_at]
        by_cases e : p = j
        · rw [if_pos e, e]; exact h71 j hlt
        · rw [if_neg e]; exact h46 p (by omega))
      refine ⟨i', qe_Mod_triesBehind_p48 L _ _ a l _ ?_, g2, fun p hp => by rw [g3 p hp, mq_upi_at, if_neg (by omega)], fun c hc => by rw [g4 c hc, mq_upn hc]⟩
      rw [h6, if_neg (nI_ge hlt (by omega)), if_neg (nI_in (show j < 8 by omega) (by omega)), if_neg (nI_in (show j < 8 by omega) (by omega)), nI_clamp (by omega), nI_1]
      exact g1
  have first : ∀ (m j : Nat), j + m = D 0 0 → ∀ a : mMI, (∀ c, c ≠ 71 → a c = j1 c) → (∀ p, p < j → a 71 p = nI (D 3 p)) → ∃ i', qf_Mod_triesBehind_p9 L (nI k) (nI j) a l = some (mq_an (mq_res D k (mq_Fl D) (D 4 0) (mq_nv D k r)).1 (mq_res D k (mq_Fl D) (D 4 0) (mq_nv D k r)).2.2.1, i', l) ∧ (∀ p, p < D 0 0 → i' 46 p = nI (D 3 p)) ∧ (∀ p, D 0 0 ≤ p → i' 46 p = j1 46 p) ∧ (∀ c, c ≠ 42 → c ≠ 46 → c ≠ 64 → c ≠ 65 → c ≠ 66 → c ≠ 67 → c ≠ 71 → i' c = j1 c) ∧ ∀ j, j ≠ 42 → j ≠ 44 → j ≠ 45 → j ≠ 46 → i' 42 j = j1 42 j := by
    intro m
    induction m with
    | zero =>
      intro j hj a a1 a2
      have hj : j = D 0 0 := hj
      subst hj
      have b42 : ∀ j, a 42 j = j1 42 j := fun j => by rw [a1 42 (by omega)]
      have b46 : ∀ j, a 46 j = j1 46 j := fun j => by rw [a1 46 (by omega)]
      have c6 : a 42 6 = nI (D 0 0) := by rw [b42, t5 6 (by omega) (by omega) (by omega) (by omega) (by omega)]; exact hM.1.1
      obtain ⟨i2, q1, -, -, -, -, -, q2, q3⟩ := qs_triesOf L (k := k) (F := mq_Fl D) (W := D 4 0) (lie := mq_nv D k r) a l hO.1 hk hF hW n1 n2 c6 (by rw [b42, t5 8 (by omega) (by omega) (by omega) (by omega) (by omega)]; exact hM.1.2.2.1) (by rw [b42, t5 43 (by omega) (by omega) (by omega) (by omega) (by omega)]; exact h43) (fun p hp => by rw [b46]; exact (t2 p hp).1)
      have h7 : a 42 7 = nI (D 4 0) := by rw [b42, t5 7 (by omega) (by omega) (by omega) (by omega) (by omega)]; exact hM.1.2.1
      obtain ⟨i', g1, g2, g3, g4⟩ := last (mq_an (mq_res D k (mq_Fl D) (D 4 0) (mq_nv D k r)).1 (mq_res D k (mq_Fl D) (D 4 0) (mq_nv D k r)).2.2.1) (D 0 0) 0 (by omega) i2 (by rw [q3 6 (by omega) (by omega) (by omega) (by omega)]; exact c6) (fun p hp => by rw [q2 71 (by omega) (by omega) (by omega) (by omega) (by omega)]; exact a2 p hp) (fun p hp => absurd hp (by omega))
      refine ⟨i', qe_Mod_triesBehind_p9 L _ _ a l _ ?_, g2, fun p hp => ?_, fun c c1 c2 c3 c4 c5 c6 c7 => ?_, fun j j1 j2 j3 j4 => ?_⟩
      · rw [c6, if_pos (nI_le (Nat.le_refl _) (by omega)), h7, q1, Option.bind_some]
        exact g1
      · rw [g3 p hp, q2 46 (by omega) (by omega) (by omega) (by omega) (by omega), b46]
      · rw [g4 c c2, q2 c c1 c3 c4 c5 c6, a1 c c7]
      · rw [g4 42 (by omega), q3 j j1 j2 j3 j4, b42]
    | succ m ih =>
      intro j hj a a1 a2
      have hlt : j < D 0 0 := by omega
      have c6 : a 42 6 = nI (D 0 0) := by rw [a1 42 (by omega), t5 6 (by omega) (by omega) (by omega) (by omega) (by omega)]; exact hM.1.1
      have h70 : a 70 j = nI (D 3 j) := by rw [a1 70 (by omega)]; exact (t2 j hlt).2
      obtain ⟨i', g1, g2⟩ := ih (j + 1) (by omega) (mj_up a 71 j (a 70 j)) (fun c hc => by rw [mq_upn hc]; exact a1 c hc) (fun p hp => by
        rw [mq_upi_at]
        by_cases e : p = j
        · rw [if_pos e, e]; exact h70
        · rw [if_neg e]; exact a2 p (by omega))
      refine ⟨i', qe_Mod_triesBehind_p9 L _ _ a l _ ?_, g2⟩
      rw [c6, if_neg (nI_ge hlt (by omega)), if_neg (nI_in (show j < 8 by omega) (by omega)), if_neg (nI_in (show j < 8 by omega) (by omega)), nI_clamp (by omega), nI_1]
      exact g1
  obtain ⟨i', g1, g2, g3, g4, g5⟩ := first (D 0 0) 0 (by omega) j1 (fun _ _ => rfl) (fun p hp => absurd hp (by omega))
  have f46 : i' 46 = i 46 := by
    funext p
    by_cases h : p < D 0 0
    · rw [g2 p h, d3 p (by omega)]
    · rw [g3 p (by omega), t3 p (by omega)]
  refine ⟨i', qe_Mod_triesBehind L _ _ i l _ ?_, hM.congr (fun j hj => by rw [g5 j (by omega) (by omega) (by omega) (by omega), t5 j (by omega) (by omega) (by omega) (by omega) (by omega)]) (fun c hc => ?_), ?_, fun c hc => by rw [g4 c (by omega) (by omega) (by omega) (by omega) (by omega) (by omega) (by omega), t4 c (by omega) (by omega) (by omega) (by omega) (by omega) (by omega) (by omega) (by omega)]⟩
  · rw [t1, Option.bind_some]
    exact g1
  · by_cases e : c = 46
    · rw [e]; exact f46
    · rw [g4 c (by omega) e (by omega) (by omega) (by omega) (by omega) (by omega), t4 c (by omega) e (by omega) (by omega) (by omega) (by omega) (by omega) (by omega)]
  · rw [g5 43 (by omega) (by omega) (by omega) (by omega), t5 43 (by omega) (by omega) (by omega) (by omega) (by omega)]; exact h43
theorem qp_back (L : Nat) (x y : Int32) (hC : mq_RC i D P M R) (hM : mq_RM i D P M R) (hO : mq_OkS D P M) : mq_P (fun i l => qf_Two_back L x y i l) (fun i l => qf_Mod_back L x y i l) i l := by
  rcases mq_kind5 (x := x) with ⟨k, hk, hxk⟩ | hx
  · rcases mq_kind5 (x := y) with ⟨r, hr, hyr⟩ | hy
    · subst hxk
      subst hyr
      obtain ⟨i1, l1, e1, f1, f2, f3, f4⟩ := qs_prepareEvening L i l hC hO hk
      obtain ⟨i2, g1, g2, g3, g4⟩ := qs_nextEvening L (r := r) i1 l1 f3 hO hk hr f1
      refine mq_P_scr (mq_an (mq_res D k (mq_Fl D) (D 4 0) (mq_nv D k r)).1 (mq_res D k (mq_Fl D) (D 4 0) (mq_nv D k r)).2.2.1) hM hO (i1 := i2) (l1 := l1) (qe_Two_back L _ _ i l _ ?_) g2 (fun c hc => (g4 c hc).trans (f4 c hc)) (fun i0 h0 => ?_)
      · simp only [qs_noKind_0 L i l hk, qs_noRule_0 L i l hr, Option.bind_some, ↓reduceIte, e1, g1]
      · obtain ⟨j1, d1, d2, d3, d4⟩ := qs_findFlat L i0 l1 h0 hO
        obtain ⟨j2, t1, t2, t3, t4⟩ := qs_triesBehind L (r := r) j1 l1 d2 hO hk hr d3
        refine ⟨j2, l1, qe_Mod_back L _ _ i0 l1 _ ?_, t2, fun c hc => (t4 c hc).trans (d4 c hc)⟩
        simp only [qs_in5 L i0 l1 hk, qs_in5 L i0 l1 hr, Option.bind_some, mq_10, ↓reduceIte, d1, t1]
    · have n0 : qf_Two_noKind L x i l = some (0, i, l) := by rw [hxk]; exact qs_noKind_0 L i l hk
      have in5 : ∀ i0, qf_Mod_isIn L x 0 5 i0 l = some (1, i0, l) := fun i0 => by rw [hxk]; exact qs_in5 L i0 l hk
      refine mq_P_ref (r := -2) hC hM hO 2 (qe_Two_back L x y i l _ ?_) (fun i0 h => qe_Mod_back L x y i0 l _ ?_)
      · simp only [n0, qs_noRule_1 L i l hy, Option.bind_some, mq_10, ↓reduceIte, qs_refuse L i l mq_r2 (show 2 < 7 by omega)]
      · simp only [in5 i0, qs_out5 L i0 l hy, Option.bind_some, mq_10, ↓reduceIte, qs_no L i0 l mq_r2 (show 2 < 7 by omega)]
  · refine mq_P_ref (r := -2) hC hM hO 2 (qe_Two_back L x y i l _ ?_) (fun i0 h => qe_Mod_back L x y i0 l _ ?_)
    · simp only [qs_noKind_1 L i l hx, Option.bind_some, mq_10, ↓reduceIte, qs_refuse L i l mq_r2 (show 2 < 7 by omega)]
    · simp only [qs_out5 L i0 l hx, Option.bind_some, ↓reduceIte, qs_no L i0 l mq_r2 (show 2 < 7 by omega)]
theorem mq_rules (L : Nat) {k : Nat} (l : mML) (hO : mq_OkS D P M) (hk : k ≤ 5) : ∀ (m e : Nat), e + m = 6 → ∀ (b : Int32) (f g : Nat), (f = g ∧ f ≤ 99 ∨ f = 2147483647 ∧ g = 100) → ∃ r,
    (∀ i, mq_RC i D P M R → mq_EV i D k (mq_sh k (mq_Fl D)) → ∃ i', qf_Two_bestRule_p27 L b (nI f) (nI e) i l = some (r, i', l) ∧ mq_RC i' D P M R ∧ ∀ c, 42 ≤ c → i' c = i c) ∧
    (∀ i, mq_RM i D P M R → i 42 43 = nI (mq_Fl D) → ∃ i', qf_Mod_bestRule_p28 L (nI k) b (nI g) (nI e) i l = some (r, i', l) ∧ mq_RM i' D P M R ∧ ∀ c, c < 42 → i' c = i c) := by
  intro m
  induction m with
  | zero =>
    intro e he b f g hfg
    have he : e = 6 := he
    subst he
    refine ⟨b, fun i hC _ => ⟨i, qe_Two_bestRule_p27 L _ _ _ i l _ ?_, hC, fun _ _ => rfl⟩, fun i hM _ => ⟨i, qe_Mod_bestRule_p28 L _ _ _ _ i l _ ?_, hM, fun _ _ => rfl⟩⟩
    · rw [if_pos (show (6 : Int32) ≤ nI 6 from nI_le (Nat.le_refl _) (by omega))]
    · rw [if_pos (show (6 : Int32) ≤ nI 6 from nI_le (Nat.le_refl _) (by omega))]
  | succ m ih =>
    intro e he b f g hfg
    have he6 : ¬ (6 : Int32) ≤ nI e := nI_ge (a := e) (b := 6) (by omega) (by omega)
    have hr28 := mq_res_le hO.1 hk (mq_Fl D) (D 4 0) (mq_nv D k e)
    generalize hV : mq_res D k (mq_Fl D) (D 4 0) (mq_nv D k e) = V at hr28
    cases ho : V.2.2.1 with
    | none =>
      have e1 : nI f ≤ (99 : Int32) ↔ f ≤ 99 := nI_leI (b := 99) (by omega) (by omega)
      have e2 : (99 : Int32) < nI g ↔ 99 < g := nI_ltI (a := 99) (by omega) (by omega)
      by_cases hc : f ≤ 99
      · obtain ⟨r, cl, mo⟩ := ih (e + 1) (by omega) b f g hfg
        refine ⟨r, fun i hC hE => ?_, fun i hM h43 => ?_⟩
        · obtain ⟨i2, g1, g2, g3, g4⟩ := qs_nextEvening L (r := e) i l hC hO hk (by omega) hE
          rw [hV, ho] at g1
          obtain ⟨i', q1, q2, q3⟩ := cl i2 g2 g3
          refine ⟨i', qe_Two_bestRule_p27 L _ _ _ i l _ ?_, q2, fun c hc => (q3 c hc).trans (g4 c hc)⟩
          rw [if_neg he6, g1, Option.bind_some]
          dsimp only
          rw [if_pos (show mq_an V.1 none = (-9 : Int32) from rfl), if_pos (e1.mpr hc), nI_1]
          exact q1
        · obtain ⟨i2, g1, g2, g3, g4⟩ := qs_triesBehind L (r := e) i l hM hO hk (by omega) h43
          rw [hV, ho] at g1
          obtain ⟨i', q1, q2, q3⟩ := mo i2 g2 g3
          refine ⟨i', qe_Mod_bestRule_p28 L _ _ _ _ i l _ ?_, q2, fun c hc => (q3 c hc).trans (g4 c hc)⟩
          rw [if_neg he6, g1, Option.bind_some]
          dsimp only
          rw [if_neg (show ¬ (0 : Int32) ≤ mq_an V.1 none by show ¬ (0 : Int32) ≤ -9; decide), if_neg (fun q => by have := e2.mp q; omega), nI_1]
          exact q1
      · obtain ⟨r, cl, mo⟩ := ih (e + 1) (by omega) (nI e) 99 99 (Or.inl ⟨rfl, by omega⟩)
        refine ⟨r, fun i hC hE => ?_, fun i hM h43 => ?_⟩
        · obtain ⟨i2, g1, g2, g3, g4⟩ := qs_nextEvening L (r := e) i l hC hO hk (by omega) hE
          rw [hV, ho] at g1
          obtain ⟨i', q1, q2, q3⟩ := cl i2 g2 g3
          refine ⟨i', qe_Two_bestRule_p27 L _ _ _ i l _ ?_, q2, fun c hc => (q3 c hc).trans (g4 c hc)⟩
          rw [if_neg he6, g1, Option.bind_some]
          dsimp only
          rw [if_pos (show mq_an V.1 none = (-9 : Int32) from rfl), if_neg (fun q => hc (e1.mp q)), nI_1]
          exact q1
        · obtain ⟨i2, g1, g2, g3, g4⟩ := qs_triesBehind L (r := e) i l hM hO hk (by omega) h43
          rw [hV, ho] at g1
          obtain ⟨i', q1, q2, q3⟩ := mo i2 g2 g3
          refine ⟨i', qe_Mod_bestRule_p28 L _ _ _ _ i l _ ?_, q2, fun c hc => (q3 c hc).trans (g4 c hc)⟩
          rw [if_neg he6, g1, Option.bind_some]
          dsimp only
          rw [if_neg (show ¬ (0 : Int32) ≤ mq_an V.1 none by show ¬ (0 : Int32) ≤ -9; decide), if_pos (e2.mpr (by omega)), nI_1]
          exact q1
    | some p =>
      have e1 : nI f ≤ nI V.1 ↔ f ≤ V.1 := nI_leI (by omega) (by omega)
      have e2 : nI V.1 < nI g ↔ V.1 < g := nI_ltI (by omega) (by omega)
      have e9 : ¬ mq_an V.1 (some p) = (-9 : Int32) := fun q => by
        have h0 := nI_pos' (n := V.1) (by omega)
        have h1 : nI V.1 = (-9 : Int32) := q
        rw [h1] at h0
        exact absurd h0 (by decide)
      have e0 : (0 : Int32) ≤ mq_an V.1 (some p) := nI_pos' (by omega)
      by_cases hc : f ≤ V.1
      · obtain ⟨r, cl, mo⟩ := ih (e + 1) (by omega) b f g hfg
        refine ⟨r, fun i hC hE => ?_, fun i hM h43 => ?_⟩
        · obtain ⟨i2, g1, g2, g3, g4⟩ := qs_nextEvening L (r := e) i l hC hO hk (by omega) hE
          rw [hV, ho] at g1
          obtain ⟨i', q1, q2, q3⟩ := cl i2 g2 g3
          refine ⟨i', qe_Two_bestRule_p27 L _ _ _ i l _ ?_, q2, fun c hc => (q3 c hc).trans (g4 c hc)⟩
          rw [if_neg he6, g1, Option.bind_some]
          dsimp only
          rw [if_neg e9, if_pos (show nI f ≤ mq_an V.1 (some p) from e1.mpr hc), nI_1]
          exact q1
        · obtain ⟨i2, g1, g2, g3, g4⟩ := qs_triesBehind L (r := e) i l hM hO hk (by omega) h43
          rw [hV, ho] at g1
          obtain ⟨i', q1, q2, q3⟩ := mo i2 g2 g3
          refine ⟨i', qe_Mod_bestRule_p28 L _ _ _ _ i l _ ?_, q2, fun c hc => (q3 c hc).trans (g4 c hc)⟩
          rw [if_neg he6, g1, Option.bind_some]
          dsimp only
          rw [if_pos e0, if_neg (show ¬ mq_an V.1 (some p) < nI g from fun q => by have := e2.mp q; omega), nI_1]
          exact q1
      · obtain ⟨r, cl, mo⟩ := ih (e + 1) (by omega) (nI e) V.1 V.1 (Or.inl ⟨rfl, by omega⟩)
        refine ⟨r, fun i hC hE => ?_, fun i hM h43 => ?_⟩
        · obtain ⟨i2, g1, g2, g3, g4⟩ := qs_nextEvening L (r := e) i l hC hO hk (by omega) hE
          rw [hV, ho] at g1
          obtain ⟨i', q1, q2, q3⟩ := cl i2 g2 g3
          refine ⟨i', qe_Two_bestRule_p27 L _ _ _ i l _ ?_, q2, fun c hc => (q3 c hc).trans (g4 c hc)⟩
          rw [if_neg he6, g1, Option.bind_some]
          dsimp only
          rw [if_neg e9, if_neg (show ¬ nI f ≤ mq_an V.1 (some p) from fun q => hc (e1.mp q)), nI_1]
          exact q1
        · obtain ⟨i2, g1, g2, g3, g4⟩ := qs_triesBehind L (r := e) i l hM hO hk (by omega) h43
          rw [hV, ho] at g1
          obtain ⟨i', q1, q2, q3⟩ := mo i2 g2 g3
          refine ⟨i', qe_Mod_bestRule_p28 L _ _ _ _ i l _ ?_, q2, fun c hc => (q3 c hc).trans (g4 c hc)⟩
          rw [if_neg he6, g1, Option.bind_some]
          dsimp only
          rw [if_pos e0, if_pos (show mq_an V.1 (some p) < nI g from e2.mpr (by omega)), nI_1]
          exact q1
theorem qp_bestRule (L : Nat) (x : Int32) (hC : mq_RC i D P M R) (hM : mq_RM i D P M R) (hO : mq_OkS D P M) : mq_P (fun i l => qf_Two_bestRule L x i l) (fun i l => qf_Mod_bestRule L x i l) i l := by
  rcases mq_kind5 (x := x) with ⟨k, hk, rfl⟩ | hx
  · obtain ⟨i1, l1, e1, f1, f2, f3, f4⟩ := qs_prepareEvening L i l hC hO hk
    obtain ⟨r, cl, mo⟩ := mq_rules (R := R) L l1 hO hk 6 0 rfl 0 2147483647 100 (Or.inr ⟨rfl, rfl⟩)
    obtain ⟨i2, g1, g2, g3⟩ := cl i1 f3 f1
    refine mq_P_scr r hM hO (i1 := i2) (l1 := l1) (qe_Two_bestRule L _ i l _ ?_) g2 (fun c hc => (g3 c hc).trans (f4 c hc)) (fun i0 h0 => ?_)
    · simp only [qs_noKind_0 L i l hk, Option.bind_some, ↓reduceIte, e1]
      exact g1
    · obtain ⟨j1, d1, d2, d3, d4⟩ := qs_findFlat L i0 l1 h0 hO
      obtain ⟨j2, t1, t2, t3⟩ := mo j1 d2 d3
      refine ⟨j2, l1, qe_Mod_bestRule L _ i0 l1 _ ?_, t2, fun c hc => (t3 c hc).trans (d4 c hc)⟩
      simp only [qs_in5 L i0 l1 hk, Option.bind_some, mq_10, ↓reduceIte, d1]
      exact t1
  · refine mq_P_ref (r := -2) hC hM hO 2 (qe_Two_bestRule L x i l _ ?_) (fun i0 h => qe_Mod_bestRule L x i0 l _ ?_)
    · simp only [qs_noKind_1 L i l hx, Option.bind_some, mq_10, ↓reduceIte, qs_refuse L i l mq_r2 (show 2 < 7 by omega)]
    · simp only [qs_out5 L i0 l hx, Option.bind_some, ↓reduceIte, qs_no L i0 l mq_r2 (show 2 < 7 by omega)]
end
