/-! goesBack; put, back, bestRule. -/
theorem mq_lz_all {lie : Nat → Nat} {c : Nat → Bool} (h : ∀ b, c b = true) : ∀ (m p q : Nat), q < m → (mq_lz lie c m p)[q]? = some (lie (p + q))
  | 0, p, q, hq => absurd hq (by omega)
  | m + 1, p, q, hq => by
    rw [mq_lz_t (h _)]
    cases q with
    | zero => rfl
    | succ q =>
      have := mq_lz_all (lie := lie) h m (p + 1) q (by omega)
      rw [show p + 1 + q = p + (q + 1) by omega] at this
      rw [← this]
      simp
theorem mq_lz_no {lie : Nat → Nat} {c : Nat → Bool} (h : ∀ b, c b = false) : ∀ (m p : Nat), mq_lz lie c m p = []
  | 0, p => rfl
  | m + 1, p => by
    rw [mq_lz_f (h _)]
    exact mq_lz_no h m (p + 1)
section
variable {n : Nat}
theorem qs_p205 (L : Nat) {v lie : Nat → Nat} (x4 : Int32) (l : mML) (hn : n ≤ 8) : ∀ (m j : Nat), j + m = n → ∀ i : mMI, i 42 6 = nI n → (∀ p, j ≤ p → p < n → i 46 p = nI (lie p)) → (∀ p, p < n → i 71 p = nI (v p)) → ∃ i', qf_Mod_goesBack_p205 L x4 (nI j) i l = some (x4, i', l) ∧ (∀ p, j ≤ p → p < n → i' 46 p = nI (v p) ∧ i' 70 p = nI (lie p)) ∧ (∀ p, (p < j ∨ n ≤ p) → i' 46 p = i 46 p ∧ i' 70 p = i 70 p) ∧ ∀ c, c ≠ 46 → c ≠ 70 → i' c = i c := by
  intro m
  induction m with
  | zero =>
    intro j hj i h6 h46 h71
    have hj : j = n := hj
    subst hj
    refine ⟨i, qe_Mod_goesBack_p205 L _ _ i l _ ?_, fun p h1 h2 => absurd h1 (by omega), fun _ _ => ⟨rfl, rfl⟩, fun _ _ _ => rfl⟩
    rw [h6, if_pos (nI_le (Nat.le_refl _) (by omega))]
  | succ m ih =>
    intro j hj i h6 h46 h71
    have hlt : j < n := by omega
    obtain ⟨i', g1, g2, g3, g4⟩ := ih (j + 1) (by omega) (mj_up (mj_up i 70 j (i 46 j)) 46 j (i 71 j)) (by rw [mq_upn (by omega), mq_upn (by omega)]; exact h6) (fun p h1 h2 => by rw [mq_upi_at, if_neg (by omega), mq_upn (by omega)]; exact h46 p (by omega) h2) (fun p hp => by rw [mq_upn (by omega), mq_upn (by omega)]; exact h71 p hp)
    refine ⟨i', qe_Mod_goesBack_p205 L _ _ i l _ ?_, fun p h1 h2 => ?_, fun p hp => ?_, fun c c1 c2 => by rw [g4 c c1 c2, mq_upn c1, mq_upn c2]⟩
    · rw [h6, if_neg (nI_ge hlt (by omega)), if_neg (nI_in (show j < 8 by omega) (by omega)), if_neg (nI_in (show j < 8 by omega) (by omega)), if_neg (nI_in (show j < 8 by omega) (by omega)), if_neg (nI_in (show j < 8 by omega) (by omega)), nI_clamp (by omega), nI_1]
      exact g1
    · by_cases e : p = j
      · obtain ⟨y1, y2⟩ := g3 p (Or.inl (by omega))
        rw [y1, y2, mq_upi_at, if_pos e, mq_upn (by omega), mq_upi_at, if_pos e, e]
        exact ⟨h71 j hlt, h46 j (Nat.le_refl _) hlt⟩
      · exact g2 p (by omega) h2
    · obtain ⟨y1, y2⟩ := g3 p (by omega)
      rw [y1, y2, mq_upi_at, if_neg (by omega), mq_upn (by omega), mq_upn (by omega), mq_upi_at, if_neg (by omega)]
      exact ⟨rfl, rfl⟩
theorem qs_p151 (L : Nat) {r : Nat} {v w : Nat → Nat} (x4 : Int32) (l : mML) (hn : 2 ≤ n ∧ n ≤ 8) (hr : r ≤ 5) (hv : ∀ p, p < n → v p = if r = 5 then w (n - 1 - p) else w p) (R : Int32 × mMI → Prop) : ∀ (m j : Nat), j + m = n → ∀ i : mMI, i 42 6 = nI n → (∀ p, p < n → i 70 p = nI (w p)) → (∀ p, p < j → i 71 p = nI (v p)) → (∀ i1 : mMI, (∀ c, c ≠ 71 → i1 c = i c) → (∀ p, p < n → i1 71 p = nI (v p)) → ∃ i', qf_Mod_goesBack_p205 L x4 0 i1 l = some (x4, i', l) ∧ R (x4, i')) → ∃ i', qf_Mod_goesBack_p151 L (nI r) x4 (nI j) i l = some (x4, i', l) ∧ R (x4, i') := by
  have e5 : nI r = (5 : Int32) ↔ r = 5 := mq_rk (c := 5) hr (by omega)
  have em : nI n - (1 : Int32) = nI (n - 1) := pk_sub (b := 1) (by omega)
  intro m
  induction m with
  | zero =>
    intro j hj i h6 h70 h71 hk
    have hj : j = n := hj
    subst hj
    obtain ⟨i', g1, g2⟩ := hk i (fun _ _ => rfl) h71
    refine ⟨i', qe_Mod_goesBack_p151 L _ _ _ i l _ ?_, g2⟩
    rw [h6, if_pos (nI_le (Nat.le_refl _) (by omega))]
    exact g1
  | succ m ih =>
    intro j hj i h6 h70 h71 hk
    have hlt : j < n := by omega
    have key : ∀ x, x = nI (v j) → ∃ i', qf_Mod_goesBack_p151 L (nI r) x4 (nI (j + 1)) (mj_up i 71 j x) l = some (x4, i', l) ∧ R (x4, i') := by
      intro x hx
      refine ih (j + 1) (by omega) _ (by rw [mq_upn (by omega)]; exact h6) (fun p hp => by rw [mq_upn (by omega)]; exact h70 p hp) (fun p hp => ?_) (fun i1 a1 a2 => hk i1 (fun c hc => by rw [a1 c hc, mq_upn hc]) a2)
      rw [mq_upi_at]
      by_cases e : p = j
      · rw [if_pos e, hx, e]
      · rw [if_neg e]; exact h71 p (by omega)
    by_cases r5 : r = 5
    · obtain ⟨i', g1, g2⟩ := key (i 70 (n - 1 - j)) (by rw [h70 _ (by omega), hv j hlt, if_pos r5])
      refine ⟨i', qe_Mod_goesBack_p151 L _ _ _ i l _ ?_, g2⟩
      rw [h6, if_neg (nI_ge hlt (by omega)), if_pos (e5.mpr r5), em, pk_sub (by omega), if_neg (nI_in (show n - 1 - j < 8 by omega) (by omega)), if_neg (nI_in (show j < 8 by omega) (by omega)), nI_clamp (by omega), nI_clamp (by omega), nI_1]
      exact g1
    · obtain ⟨i', g1, g2⟩ := key (i 70 j) (by rw [h70 _ hlt, hv j hlt, if_neg r5])
      refine ⟨i', qe_Mod_goesBack_p151 L _ _ _ i l _ ?_, g2⟩
      rw [h6, if_neg (nI_ge hlt (by omega)), if_neg (fun q => r5 (e5.mp q)), if_neg (nI_in (show j < 8 by omega) (by omega)), if_neg (nI_in (show j < 8 by omega) (by omega)), nI_clamp (by omega), nI_1]
      exact g1
/-- the end of goesBack: three layings and the change of places -/
theorem qs_backTail (L : Nat) {r f t : Nat} {lie : Nat → Nat} (x4 : Int32) (s : mMI) (l : mML) (hn : 2 ≤ n ∧ n ≤ 8) (hr : r ≤ 5) (hf : f < 256) (ht : t < 256) (hd : f &&& t = 0) (h5 : r = 5 → f = 0 ∧ t = 0) (hl1 : ∀ j, j < n → lie j < n) (h6 : s 42 6 = nI n) (h46 : ∀ p, p < n → s 46 p = nI (lie p)) :
    ∃ i', ((qf_Mod_lays L (nI f) (mj_up s 42 50 (0 : Int32)) l).bind fun q1 => ((qf_Mod_lays L (((((1 : Int32) <<< (nI n &&& 31)) - (1 : Int32)) &&& (nI f ^^^ (-1 : Int32))) &&& (nI t ^^^ (-1 : Int32))) q1.1 q1.2).bind fun q2 => ((qf_Mod_lays L (nI t) q2.1 q2.2).bind fun q3 => (qf_Mod_goesBack_p151 L (nI r) x4 (0 : Int32) q3.1 q3.2)))) = some (x4, i', l) ∧ (∀ p, p < n → i' 46 p = nI (mq_nl lie n r f t p) ∧ i' 70 p = nI (lie p)) ∧ (∀ p, n ≤ p → i' 46 p = s 46 p) ∧ (∀ c, c ≠ 42 → c ≠ 46 → c ≠ 70 → c ≠ 71 → i' c = s c) ∧ ∀ j, j ≠ 50 → i' 42 j = s 42 j := by
  have hp := mq_pow hn.2
  have hpos : 0 < 2 ^ n := Nat.pow_pos (by omega)
  have eall : ((1 : Int32) <<< (nI n &&& 31)) - (1 : Int32) = nI (2 ^ n - 1) := by
    rw [mq_shl (by omega)]
    exact pk_sub (b := 1) (by omega)
  have hlen := mq_lb_len (lie := lie) (n := n) hd
  have hlen2 : (mq_lz lie (mq_c1 f) n 0).length + ((mq_lz lie (mq_c2 f t) n 0).length + (mq_lz lie (mq_c1 t) n 0).length) = n := by
    unfold mq_lb at hlen
    rw [List.length_append, List.length_append] at hlen
    exact hlen
  have s6 : mj_up s 42 50 (0 : Int32) 42 6 = nI n := by rw [mq_upi_at, if_neg (by omega)]; exact h6
  obtain ⟨i1, b1, b2, b3, b4, b5⟩ := qs_Mod_lays L (mj_up s 42 50 (0 : Int32)) l hn.2 hl1 (mq_tl_n hf hn.2) s6 (fun p hp => by rw [mq_upn (by omega)]; exact h46 p hp) [] (mq_lz lie (mq_c1 f) n 0) (by omega) (by rw [mq_upi_at, if_pos rfl]; rfl) (fun t s h => by cases h) rfl
  obtain ⟨i2, c1, c2, c3, c4, c5⟩ := qs_Mod_lays L i1 l hn.2 hl1 (mq_tl_m hf ht hn.2) (by rw [b5 6 (by omega)]; exact s6) (fun p hp => by rw [b4 46 (by omega) (by omega), mq_upn (by omega)]; exact h46 p hp) (mq_lz lie (mq_c1 f) n 0) (mq_lz lie (mq_c1 f) n 0 ++ mq_lz lie (mq_c2 f t) n 0) (by rw [List.length_append]; omega) b2 b3 rfl
  obtain ⟨i3, d1, d2, d3, d4, d5⟩ := qs_Mod_lays L i2 l hn.2 hl1 (mq_tl_n ht hn.2) (by rw [c5 6 (by omega), b5 6 (by omega)]; exact s6) (fun p hp => by rw [c4 46 (by omega) (by omega), b4 46 (by omega) (by omega), mq_upn (by omega)]; exact h46 p hp) _ (mq_lb lie n f t) (by omega) c2 c3 (by unfold mq_lb; rw [List.append_assoc])
  have get : ∀ p, p < n → (mq_lb lie n f t)[p]? = some ((mq_lb lie n f t).getD p 0) := by
    intro p hp
    rw [List.getD_eq_getElem?_getD, List.getElem?_eq_getElem (by omega)]
    rfl
  have fr : ∀ c, c ≠ 42 → c ≠ 70 → i3 c = s c := fun c h1 h2 => by rw [d4 c h1 h2, c4 c h1 h2, b4 c h1 h2, mq_upn h1]
  have fr42 : ∀ j, j ≠ 50 → i3 42 j = s 42 j := fun j hj => by rw [d5 j hj, c5 j hj, b5 j hj, mq_upi_at, if_neg hj]
  have hv : ∀ p, p < n → mq_nl lie n r f t p = if r = 5 then (mq_lb lie n f t).getD (n - 1 - p) 0 else (mq_lb lie n f t).getD p 0 := by
    intro p hp
    unfold mq_nl
    by_cases r5 : r = 5
    · rw [if_pos r5, if_pos r5]
      obtain ⟨f0, t0⟩ := h5 r5
      subst f0
      subst t0
      have z1 : ∀ b, mq_c1 0 b = false := fun b => Nat.zero_testBit b
      have z2 : ∀ b, mq_c2 0 0 b = true := fun b => by
        unfold mq_c2
        rw [Nat.zero_testBit]
        rfl
      have e : mq_lb lie n 0 0 = mq_lz lie (mq_c2 0 0) n 0 := by
        unfold mq_lb
        rw [mq_lz_no z1, List.nil_append, List.append_nil]
      rw [e, List.getD_eq_getElem?_getD, mq_lz_all z2 n 0 (n - 1 - p) (by omega), Nat.zero_add]
      rfl
    · rw [if_neg r5, if_neg r5]
  obtain ⟨i', g1, g2⟩ := qs_p151 L (n := n) (r := r) (v := mq_nl lie n r f t) (w := fun p => (mq_lb lie n f t).getD p 0) x4 l hn hr hv (fun z => (∀ p, p < n → z.2 46 p = nI (mq_nl lie n r f t p) ∧ z.2 70 p = nI (lie p)) ∧ (∀ p, n ≤ p → z.2 46 p = s 46 p) ∧ (∀ c, c ≠ 42 → c ≠ 46 → c ≠ 70 → c ≠ 71 → z.2 c = s c) ∧ ∀ j, j ≠ 50 → z.2 42 j = s 42 j) n 0 (by omega) i3 ((fr42 6 (by omega)).trans h6) (fun p hp => d3 p _ (get p hp)) (fun p hp => absurd hp (by omega)) (fun j1 a1 a2 => by
    obtain ⟨i', g1, g2, g3, g4⟩ := qs_p205 L (n := n) (v := mq_nl lie n r f t) (lie := lie) x4 l hn.2 n 0 (by omega) j1 (by rw [a1 42 (by omega)]; exact (fr42 6 (by omega)).trans h6) (fun p _ hp => by rw [a1 46 (by omega), fr 46 (by omega) (by omega)]; exact h46 p hp) a2
    refine ⟨i', g1, fun p hp => g2 p (by omega) hp, fun p hp => ?_, fun c c1 c2 c3 c4 => ?_, fun j hj => ?_⟩
    · show i' 46 p = s 46 p
      rw [(g3 p (Or.inr hp)).1, a1 46 (by omega), fr 46 (by omega) (by omega)]
    · show i' c = s c
      rw [g4 c c2 c3, a1 c c4, fr c c1 c3]
    · show i' 42 j = s 42 j
      rw [g4 42 (by omega) (by omega), a1 42 (by omega)]; exact fr42 j hj)
  refine ⟨i', ?_, g2⟩
  rw [eall, b1, Option.bind_some]
  dsimp only
  rw [c1, Option.bind_some]
  dsimp only
  rw [d1, Option.bind_some]
  exact g1
end
section
variable {D : mq_D}
theorem qs_goesBack (L : Nat) {k r F : Nat} {lie : Nat → Nat} (i : mMI) (l : mML) (hO : mq_Ok D) (hk : k ≤ 5) (hr : r ≤ 5) (hF : F < 256) (hl1 : ∀ j, j < D 0 0 → lie j < D 0 0) (hl2 : ∀ a b, a < D 0 0 → b < D 0 0 → lie a = lie b → a = b) (h6 : i 42 6 = nI (D 0 0)) (h7 : i 42 7 = nI (D 4 0)) (h8 : i 42 8 = nI (D 5 0)) (h43 : i 42 43 = nI F) (h46 : ∀ p, p < D 0 0 → i 46 p = nI (lie p)) :
    ∃ i', qf_Mod_goesBack L (nI k) (nI r) i l = some (mq_an (mq_res D k F (D 4 0) lie).1 (mq_res D k F (D 4 0) lie).2.2.1, i', l) ∧ (∀ p, p < D 0 0 → i' 46 p = nI (mq_nl lie (D 0 0) r (mq_ff r (mq_res D k F (D 4 0) lie).2.1 (mq_res D k F (D 4 0) lie).2.2.1) (mq_tt r (mq_res D k F (D 4 0) lie).2.2.2 (mq_res D k F (D 4 0) lie).2.2.1) p) ∧ i' 70 p = nI (lie p)) ∧ (∀ p, D 0 0 ≤ p → i' 46 p = i 46 p) ∧ (∀ c, c ≠ 42 → c ≠ 46 → c ≠ 64 → c ≠ 65 → c ≠ 66 → c ≠ 67 → c ≠ 70 → c ≠ 71 → i' c = i c) ∧ ∀ j, j ≠ 42 → j ≠ 44 → j ≠ 45 → j ≠ 46 → j ≠ 50 → i' 42 j = i 42 j := by
  have hp := mq_pow hO.1.2
  have hW : D 4 0 < 256 := by have := hO.2.2.2.2.1; omega
  obtain ⟨i1, e1, E42, E2, E44, E45, E46, fc, fj⟩ := qs_triesOf L (k := k) (F := F) (W := D 4 0) (lie := lie) i l hO hk hF hW hl1 hl2 h6 h8 h43 h46
  obtain ⟨ok1, ok2, ok3⟩ := mq_res_ok hO (F := F) (W := D 4 0) hk hl1 hl2
  obtain ⟨hf, ht, hd⟩ := mq_ff_tt hO (F := F) (W := D 4 0) hk hl1 hl2 r
  have hr28 := mq_res_le hO hk F (D 4 0) lie
  have b6 : i1 42 6 = nI (D 0 0) := (fj 6 (by omega) (by omega) (by omega) (by omega)).trans h6
  have b8 : i1 42 8 = nI (D 5 0) := (fj 8 (by omega) (by omega) (by omega) (by omega)).trans h8
  have b43 : i1 42 43 = nI F := (fj 43 (by omega) (by omega) (by omega) (by omega)).trans h43
  have b46 : ∀ p, i1 46 p = i 46 p := fun p => by rw [fc 46 (by omega) (by omega) (by omega) (by omega) (by omega)]
  have r1 : nI r = (1 : Int32) ↔ r = 1 := mq_rk (c := 1) hr (by omega)
  have r2 : nI r = (2 : Int32) ↔ r = 2 := mq_rk (c := 2) hr (by omega)
  have r3 : nI r = (3 : Int32) ↔ r = 3 := mq_rk (c := 3) hr (by omega)
  have r4 : nI r = (4 : Int32) ↔ r = 4 := mq_rk (c := 4) hr (by omega)
  have h5 : r = 5 → mq_ff r (mq_res D k F (D 4 0) lie).2.1 (mq_res D k F (D 4 0) lie).2.2.1 = 0 ∧ mq_tt r (mq_res D k F (D 4 0) lie).2.2.2 (mq_res D k F (D 4 0) lie).2.2.1 = 0 := by
    intro h
    unfold mq_ff mq_tt
    rw [if_neg (by omega), if_neg (by omega), if_neg (by omega), if_neg (by omega), if_neg (by omega)]
    exact ⟨rfl, rfl⟩
  -- what all roads come to
  have fin : ∀ s : mMI, (∀ c, c ≠ 67 → s c = i1 c) → (∀ z, ((qf_Mod_lays L (nI (mq_ff r (mq_res D k F (D 4 0) lie).2.1 (mq_res D k F (D 4 0) lie).2.2.1)) (mj_up s 42 50 (0 : Int32)) l).bind fun q1 => ((qf_Mod_lays L (((((1 : Int32) <<< (nI (D 0 0) &&& 31)) - (1 : Int32)) &&& (nI (mq_ff r (mq_res D k F (D 4 0) lie).2.1 (mq_res D k F (D 4 0) lie).2.2.1) ^^^ (-1 : Int32))) &&& (nI (mq_tt r (mq_res D k F (D 4 0) lie).2.2.2 (mq_res D k F (D 4 0) lie).2.2.1) ^^^ (-1 : Int32))) q1.1 q1.2).bind fun q2 => ((qf_Mod_lays L (nI (mq_tt r (mq_res D k F (D 4 0) lie).2.2.2 (mq_res D k F (D 4 0) lie).2.2.1)) q2.1 q2.2).bind fun q3 => (qf_Mod_goesBack_p151 L (nI r) (mq_an (mq_res D k F (D 4 0) lie).1 (mq_res D k F (D 4 0) lie).2.2.1) (0 : Int32) q3.1 q3.2)))) = some z → qf_Mod_goesBack L (nI k) (nI r) i l = some z) →
      ∃ i', qf_Mod_goesBack L (nI k) (nI r) i l = some (mq_an (mq_res D k F (D 4 0) lie).1 (mq_res D k F (D 4 0) lie).2.2.1, i', l) ∧ (∀ p, p < D 0 0 → i' 46 p = nI (mq_nl lie (D 0 0) r (mq_ff r (mq_res D k F (D 4 0) lie).2.1 (mq_res D k F (D 4 0) lie).2.2.1) (mq_tt r (mq_res D k F (D 4 0) lie).2.2.2 (mq_res D k F (D 4 0) lie).2.2.1) p) ∧ i' 70 p = nI (lie p)) ∧ (∀ p, D 0 0 ≤ p → i' 46 p = i 46 p) ∧ (∀ c, c ≠ 42 → c ≠ 46 → c ≠ 64 → c ≠ 65 → c ≠ 66 → c ≠ 67 → c ≠ 70 → c ≠ 71 → i' c = i c) ∧ ∀ j, j ≠ 42 → j ≠ 44 → j ≠ 45 → j ≠ 46 → j ≠ 50 → i' 42 j = i 42 j := by
    intro s hs hz
    obtain ⟨i', g1, g2, g3, g4, g5⟩ := qs_backTail L (r := r) (mq_an (mq_res D k F (D 4 0) lie).1 (mq_res D k F (D 4 0) lie).2.2.1) s l hO.1 hr hf ht hd h5 hl1 (by rw [hs 42 (by omega)]; exact b6) (fun p hp => by rw [hs 46 (by omega), b46]; exact h46 p hp)
    refine ⟨i', hz _ g1, g2, fun p hp => ?_, fun c c1 c2 c3 c4 c5 c6 c7 c8 => ?_, fun j j1 j2 j3 j4 j5 => ?_⟩
    · rw [g3 p hp, hs 46 (by omega), b46]
    · rw [g4 c c1 c2 c7 c8, hs c c6, fc c c1 c3 c4 c5 c6]
    · rw [g5 j j5, hs 42 (by omega), fj j j1 j2 j3 j4]
  have rc : r = 0 ∨ r = 1 ∨ r = 2 ∨ r = 3 ∨ r = 4 ∨ r = 5 := by omega
  cases ho : (mq_res D k F (D 4 0) lie).2.2.1 with
  | none =>
    rw [ho] at fin E45
    have z9 : ¬ (0 : Int32) ≤ i1 42 45 := by rw [E45]; decide
    have za : ¬ (0 : Int32) ≤ mq_an (mq_res D k F (D 4 0) lie).1 none := by show ¬ (0 : Int32) ≤ -9; decide
    rw [ho] at e1
    refine fin i1 (fun _ _ => rfl) (fun z hz => qe_Mod_goesBack L _ _ i l _ ?_)
    rw [h6, h7, e1, Option.bind_some]
    dsimp only
    rw [if_neg z9, if_neg za]
    rcases rc with rfl | rfl | rfl | rfl | rfl | rfl
    · rw [if_neg (by decide), if_neg (by decide), if_neg (by decide), if_neg (by decide), if_neg (by decide)]
      exact hz
    · rw [if_pos (by decide)]
      refine qe_Mod_goesBack_p80 L _ _ _ _ _ i1 l _ ?_
      rw [if_neg (by decide), if_neg (by decide)]
      exact hz
    · rw [if_neg (by decide), if_neg (by decide), if_neg (by decide), if_pos (by decide)]
      exact qe_Mod_goesBack_p108 L _ _ _ _ _ i1 l _ hz
    · rw [if_neg (by decide), if_pos (by decide)]
      refine qe_Mod_goesBack_p80 L _ _ _ _ _ i1 l _ ?_
      rw [if_neg (by decide), if_pos (by decide)]
      exact qe_Mod_goesBack_p108 L _ _ _ _ _ i1 l _ hz
    · rw [if_neg (by decide), if_neg (by decide), if_pos (by decide), if_neg (by decide), if_neg (by decide), E44]
      exact hz
    · rw [if_neg (by decide), if_neg (by decide), if_neg (by decide), if_neg (by decide), if_neg (by decide)]
      exact hz
  | some p =>
    obtain ⟨ga, gb⟩ := p
    obtain ⟨o1, o2, o3, o4, o5, o6, o7, o8, o9⟩ := ok3 _ ho
    have o5 : ga < 8 := o5
    have o6 : gb < 8 := o6
    have E45' : i1 42 45 = nI ga := by rw [E45, ho]; rfl
    have E46' : i1 42 46 = nI gb := by rw [E46, ho]; rfl
    obtain ⟨i2, k1, k2⟩ := qs_Mod_knownFlat L (W := D 4 0) i1 l hO hk hF hl1 hl2 b6 b8 b43 (fun p hp => by rw [b46]; exact h46 p hp) E42 E2 ho E45' E46'
    rw [ho] at fin e1
    have z9 : (0 : Int32) ≤ i1 42 45 := by rw [E45']; exact nI_pos' (by omega)
    have za : (0 : Int32) ≤ mq_an (mq_res D k F (D 4 0) lie).1 (some (ga, gb)) := nI_pos' (by omega)
    have k1' : qf_Mod_knownFlat L (nI k) (mq_an (mq_res D k F (D 4 0) lie).1 (some (ga, gb))) i1 l = some (nI (mq_kf (mq_res D k F (D 4 0) lie).2.2.2 (some (ga, gb))), i2, l) := k1
    refine fin i2 k2 (fun z hz => qe_Mod_goesBack L _ _ i l _ ?_)
    rw [h6, h7, e1, Option.bind_some]
    dsimp only
    rw [if_pos z9, if_pos za, k1', Option.bind_some, E45', E46', mq_shl (show ga < 31 by omega), mq_shl (show gb < 31 by omega), mq_or]
    dsimp only
    rcases rc with rfl | rfl | rfl | rfl | rfl | rfl
    · rw [if_neg (by decide), if_neg (by decide), if_neg (by decide), if_neg (by decide), if_neg (by decide)]
      exact hz
    · rw [if_pos (by decide)]
      refine qe_Mod_goesBack_p80 L _ _ _ _ _ i2 l _ ?_
      rw [if_neg (by decide), if_neg (by decide)]
      exact hz
    · rw [if_neg (by decide), if_neg (by decide), if_neg (by decide), if_pos (by decide)]
      exact qe_Mod_goesBack_p108 L _ _ _ _ _ i2 l _ hz
    · rw [if_neg (by decide), if_pos (by decide)]
      refine qe_Mod_goesBack_p80 L _ _ _ _ _ i2 l _ ?_
      rw [if_neg (by decide), if_pos (by decide)]
      exact qe_Mod_goesBack_p108 L _ _ _ _ _ i2 l _ hz
    · rw [if_neg (by decide), if_neg (by decide), if_pos (by decide), if_neg (by decide), if_neg (by decide), E44]
      exact hz
    · rw [if_neg (by decide), if_neg (by decide), if_neg (by decide), if_neg (by decide), if_neg (by decide)]
      exact hz
end
