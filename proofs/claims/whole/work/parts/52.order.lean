/-! The greedy order and its mean. -/
def mq_dr (G : Nat → Nat) (s : Nat) : Nat → Nat := fun w => if s &&& w = s then 0 else G w
def mq_ol (D : mq_D) : Nat → (Nat → Nat) → List (Nat × Nat)
  | 0, _ => []
  | f + 1, G => match mq_luck D (fun s => mq_sw G s 256) with
    | none => []
    | some s => if mq_sw G s 256 = 0 then [] else (s, mq_sw G s 256) :: mq_ol D f (mq_dr G s)
theorem mq_ol_none {D : mq_D} {f : Nat} {G : Nat → Nat} (h : mq_luck D (fun s => mq_sw G s 256) = none) : mq_ol D (f + 1) G = [] := by
  simp only [mq_ol]
  rw [h]
theorem mq_ol_0 {D : mq_D} {f s : Nat} {G : Nat → Nat} (h : mq_luck D (fun s => mq_sw G s 256) = some s) (h0 : mq_sw G s 256 = 0) : mq_ol D (f + 1) G = [] := by
  simp only [mq_ol]
  rw [h]
  simp only [h0, if_true]
theorem mq_ol_s {D : mq_D} {f s : Nat} {G : Nat → Nat} (h : mq_luck D (fun s => mq_sw G s 256) = some s) (h0 : mq_sw G s 256 ≠ 0) : mq_ol D (f + 1) G = (s, mq_sw G s 256) :: mq_ol D f (mq_dr G s) := by
  simp only [mq_ol]
  rw [h]
  simp only [h0, if_false]
theorem mq_dr_le {G : Nat → Nat} (h : ∀ w, G w ≤ 43046721) (s : Nat) : ∀ w, mq_dr G s w ≤ 43046721 := by
  intro w
  unfold mq_dr
  split
  · omega
  · exact h w
theorem mq_dr_out {G : Nat → Nat} {n : Nat} (h : ∀ w, 2 ^ n ≤ w → G w = 0) (s : Nat) : ∀ w, 2 ^ n ≤ w → mq_dr G s w = 0 := by
  intro w hw
  unfold mq_dr
  split
  · rfl
  · exact h w hw
theorem mq_ol_len (D : mq_D) : ∀ f G, (mq_ol D f G).length ≤ f := by
  intro f
  induction f with
  | zero => intro G; exact Nat.le_refl _
  | succ f ih =>
    intro G
    cases h : mq_luck D (fun s => mq_sw G s 256) with
    | none => rw [mq_ol_none h]; exact Nat.zero_le _
    | some s =>
      by_cases h0 : mq_sw G s 256 = 0
      · rw [mq_ol_0 h h0]; exact Nat.zero_le _
      · rw [mq_ol_s h h0, List.length_cons]
        have := ih (mq_dr G s)
        omega
theorem mq_ol_le (D : mq_D) : ∀ f G, (∀ w, G w ≤ 43046721) → ∀ p ∈ mq_ol D f G, p.2 ≤ 43046721 * 256 := by
  intro f
  induction f with
  | zero => intro G _ p hp; cases hp
  | succ f ih =>
    intro G hG p hp
    cases h : mq_luck D (fun s => mq_sw G s 256) with
    | none => rw [mq_ol_none h] at hp; cases hp
    | some s =>
      by_cases h0 : mq_sw G s 256 = 0
      · rw [mq_ol_0 h h0] at hp; cases hp
      · rw [mq_ol_s h h0] at hp
        cases hp with
        | head => exact mq_sw_lt G s hG 256
        | tail _ hp => exact ih _ (mq_dr_le hG s) p hp
/-- rows hold a list of sets and weights -/
def mq_hl (a : Nat → Int32) (b : Nat → Int64) (p : List (Nat × Nat)) : Prop := ∀ t s w, p[t]? = some (s, w) → a t = nI s ∧ b t = lN w
theorem mq_hl_app {a a' : Nat → Int32} {b b' : Nat → Int64} {p : List (Nat × Nat)} {s w : Nat} (h : mq_hl a b p) (ha : ∀ t, a' t = if t = p.length then nI s else a t) (hb : ∀ t, b' t = if t = p.length then lN w else b t) : mq_hl a' b' (p ++ [(s, w)]) := by
  intro t s1 w1 ht
  rw [ha, hb]
  by_cases e : t = p.length
  · subst e
    rw [List.getElem?_append_right (Nat.le_refl _), Nat.sub_self] at ht
    cases ht
    rw [if_pos rfl, if_pos rfl]
    exact ⟨rfl, rfl⟩
  · rw [if_neg e, if_neg e]
    refine h t s1 w1 ?_
    by_cases h2 : t < p.length
    · rw [List.getElem?_append_left h2] at ht
      exact ht
    · rw [List.getElem?_eq_none (by rw [List.length_append, List.length_singleton]; omega)] at ht
      cases ht
section
variable {D : mq_D}
theorem mq_luck_in {V : Nat → Nat} {s : Nat} (h : mq_luck D V = some s) : s < 2 ^ D 0 0 := (mq_arg_in _ _ _ _ h).1
theorem qs_dropHolding (L : Nat) {n s : Nat} (i : mMI) (l : mML) (G : Nat → Nat) (hn : n ≤ 8) (h7 : i 24 7 = nI n) (h8 : i 24 8 = nI (2 ^ n)) (hs : s < 2 ^ n) (h25 : ∀ w, w < 2 ^ n → l 25 w = lN (G w)) (hG : ∀ w, 2 ^ n ≤ w → G w = 0) : ∃ l', qf_Worlds_dropHolding L (nI s) i l = some (i, l') ∧ (∀ w, w < 2 ^ n → l' 25 w = lN (mq_dr G s w)) ∧ (∀ t, t < 2 ^ n → l' 26 t = lN (mq_sw (mq_dr G s) t 256)) ∧ ∀ k, k ≠ 25 → k ≠ 26 → l' k = l k := by
  have hp := mq_pow hn
  have loop : ∀ (m k : Nat), k + m = 2 ^ n → ∀ l1 : mML, (∀ w, w < k → l1 25 w = lN (mq_dr G s w)) → (∀ w, k ≤ w → w < 2 ^ n → l1 25 w = lN (G w)) → (∀ a, a ≠ 25 → l1 a = l a) → ∃ l', qf_Worlds_dropHolding_p2 L (nI s) (nI k) i l1 = some (i, l') ∧ (∀ w, w < 2 ^ n → l' 25 w = lN (mq_dr G s w)) ∧ (∀ t, t < 2 ^ n → l' 26 t = lN (mq_sw (mq_dr G s) t 256)) ∧ ∀ k, k ≠ 25 → k ≠ 26 → l' k = l k := by
    intro m
    induction m with
    | zero =>
      intro k hk l1 a1 a2 a3
      have hk : k = 2 ^ n := hk
      subst hk
      obtain ⟨l2, e, f1, f2⟩ := qs_weighHolding L i l1 (mq_dr G s) hn h7 h8 a1
      refine ⟨l2, qe_Worlds_dropHolding_p2 L _ _ i l1 _ ?_, ?_, ?_, ?_⟩
      · rw [h8, if_pos (nI_le (Nat.le_refl _) (by omega)), e, Option.bind_some]
      · intro w hw
        rw [f1 25 (by omega)]
        exact a1 w hw
      · intro t ht
        rw [f2 t ht, mq_holds (mq_dr G s) hn ht]
        unfold mq_sw
        rw [show 256 = 2 ^ n + (256 - 2 ^ n) by omega, mq_sum_tail (256 - 2 ^ n) (fun w h1 h2 => by
          rw [mq_dr_out hG s w h1]
          split <;> rfl)]
      · intro k hk1 hk2
        rw [f1 k hk2]
        exact a3 k hk1
    | succ m ih =>
      intro k hk l1 a1 a2 a3
      have hlt : k < 2 ^ n := by omega
      have ec : nI (k &&& s) = nI s ↔ k &&& s = s := nI_eq (Nat.lt_of_le_of_lt Nat.and_le_left (by omega)) (by omega)
      by_cases hc : s &&& k = s
      · obtain ⟨l', g1, g2⟩ := ih (k + 1) (by omega) (mj_up l1 25 k (0 : Int64)) (fun w hw => by
          rw [mq_upl_at]
          by_cases e : w = k
          · subst e
            unfold mq_dr
            rw [if_pos rfl, if_pos hc]
            rfl
          · rw [if_neg e]; exact a1 w (by omega)) (fun w h1 h2 => by
          rw [mq_upl_at, if_neg (by omega)]; exact a2 w (by omega) h2) (fun a ha => by
          funext j
          simp only [mj_up, ha, false_and, if_false]
          rw [a3 a ha])
        refine ⟨l', qe_Worlds_dropHolding_p2 L _ _ i l1 _ ?_, g2⟩
        rw [h8, if_neg (nI_ge hlt (by omega)), mq_and, if_pos (ec.mpr (by rw [Nat.and_comm]; exact hc)), qs_Two_storeL_25 L _ i l1 (by omega), Option.bind_some, nI_1]
        exact g1
      · obtain ⟨l', g1, g2⟩ := ih (k + 1) (by omega) l1 (fun w hw => by
          by_cases e : w = k
          · subst e
            rw [a2 w (Nat.le_refl _) hlt]
            unfold mq_dr
            rw [if_neg hc]
          · exact a1 w (by omega)) (fun w h1 h2 => a2 w (by omega) h2) a3
        refine ⟨l', qe_Worlds_dropHolding_p2 L _ _ i l1 _ ?_, g2⟩
        rw [h8, if_neg (nI_ge hlt (by omega)), mq_and, if_neg (fun q => hc (by rw [Nat.and_comm]; exact ec.mp q)), nI_1]
        exact g1
  obtain ⟨l', g1, g2⟩ := loop (2 ^ n) 0 (by omega) l (fun w h => absurd h (by omega)) (fun w _ h => h25 w h) (fun _ _ => rfl)
  exact ⟨l', qe_Worlds_dropHolding L _ i l _ g1, g2⟩
theorem mq_sw62' {G : Nat → Nat} (hG : ∀ w, G w ≤ 43046721) (s : Nat) : mq_sw G s 256 < 2 ^ 62 := by
  have := mq_sw_lt G s hG 256
  omega
theorem qs_putInOrder (L : Nat) (i : mMI) (l : mML) (hO : mq_Ok D) (G : Nat → Nat) (hG : ∀ w, G w ≤ 43046721) (hG0 : ∀ w, 2 ^ D 0 0 ≤ w → G w = 0) (h7 : i 24 7 = nI (D 0 0)) (h8 : i 24 8 = nI (2 ^ D 0 0)) (h25 : ∀ w, w < 2 ^ D 0 0 → l 25 w = lN (G w)) (h26 : ∀ s, s < 2 ^ D 0 0 → l 26 s = lN (mq_sw G s 256)) : ∃ i' l', qf_Worlds_putInOrder L (nI (D 8 0)) i l = some (i', l') ∧ i' 24 6 = nI (mq_ol D 20 G).length ∧ mq_hl (i' 29) (l' 30) (mq_ol D 20 G) ∧ ∀ k, k ≠ 24 → k ≠ 29 → i' k = i k := by
  have hp := mq_pow hO.1.2
  have loop : ∀ (m : Nat) (p : List (Nat × Nat)) (G1 : Nat → Nat) (i1 : mMI) (l1 : mML), p.length + m = 20 → p ++ mq_ol D m G1 = mq_ol D 20 G → (∀ w, G1 w ≤ 43046721) → (∀ w, 2 ^ D 0 0 ≤ w → G1 w = 0) → i1 24 7 = nI (D 0 0) → i1 24 8 = nI (2 ^ D 0 0) → i1 24 6 = nI p.length → (∀ w, w < 2 ^ D 0 0 → l1 25 w = lN (G1 w)) → (∀ s, s < 2 ^ D 0 0 → l1 26 s = lN (mq_sw G1 s 256)) → mq_hl (i1 29) (l1 30) p → (∀ k, k ≠ 24 → k ≠ 29 → i1 k = i k) → ∃ i' l', qf_Worlds_putInOrder_p7 L (nI (D 8 0)) (nI p.length) i1 l1 = some (i', l') ∧ i' 24 6 = nI (mq_ol D 20 G).length ∧ mq_hl (i' 29) (l' 30) (mq_ol D 20 G) ∧ ∀ k, k ≠ 24 → k ≠ 29 → i' k = i k := by
    intro m
    induction m with
    | zero =>
      intro p G1 i1 l1 hm hq g1 g2 a7 a8 a6 a25 a26 ah af
      have hm : p.length = 20 := hm
      have hq : p ++ [] = mq_ol D 20 G := hq
      rw [List.append_nil] at hq
      refine ⟨i1, l1, qe_Worlds_putInOrder_p7 L _ _ i1 l1 _ ?_, ?_, ?_, af⟩
      · rw [hm, if_pos (show (20 : Int32) ≤ nI 20 from nI_le (Nat.le_refl _) (by omega))]
      · rw [← hq]; exact a6
      · rw [← hq]; exact ah
    | succ m ih =>
      intro p G1 i1 l1 hm hq g1 g2 a7 a8 a6 a25 a26 ah af
      have el := qs_lucky L i1 l1 hO (fun s => mq_sw G1 s 256) a8 (fun s hs => ⟨mq_sw62' g1 s, a26 s hs⟩)
      have e20 : ¬ (20 : Int32) ≤ nI p.length := nI_ge (a := p.length) (b := 20) (by omega) (by omega)
      cases hl : mq_luck D (fun s => mq_sw G1 s 256) with
      | none =>
        rw [mq_ol_none hl, List.append_nil] at hq
        refine ⟨i1, l1, qe_Worlds_putInOrder_p7 L _ _ i1 l1 _ ?_, ?_, ?_, af⟩
        · rw [if_neg e20, el, hl, Option.bind_some]
          exact if_pos (show (-9 : Int32) < 0 by decide)
        · rw [← hq]; exact a6
        · rw [← hq]; exact ah
      | some s =>
        have hs := mq_luck_in hl
        have hw := mq_sw62' g1 s
        rw [hl, show mq_o (some s) = nI s from rfl] at el
        by_cases h0 : mq_sw G1 s 256 = 0
        · rw [mq_ol_0 hl h0, List.append_nil] at hq
          refine ⟨i1, l1, qe_Worlds_putInOrder_p7 L _ _ i1 l1 _ ?_, ?_, ?_, af⟩
          · rw [if_neg e20, el, Option.bind_some]
            dsimp only
            rw [if_neg (nI_pos (by omega)), qs_holdingAll L i1 l1 (by omega), Option.bind_some]
            simp only [a26 s hs]
            rw [if_pos ((mq_c0 (by omega)).mpr h0)]
          · rw [← hq]; exact a6
          · rw [← hq]; exact ah
        · rw [mq_ol_s hl h0] at hq
          let i2 : mMI := mj_up (mj_up i1 29 p.length (nI s)) 24 6 (nI (p.length + 1))
          let l2 : mML := mj_up l1 30 p.length (lN (mq_sw G1 s 256))
          have u6 : i2 24 6 = nI (p.length + 1) := by show mj_up _ 24 6 _ 24 6 = _; rw [mq_upi_at, if_pos rfl]
          have u24 : ∀ j, j ≠ 6 → i2 24 j = i1 24 j := by
            intro j hj
            show mj_up _ 24 6 _ 24 j = _
            rw [mq_upi_at, if_neg hj, mq_upn (by omega)]
          have v25 : ∀ w, l2 25 w = l1 25 w := fun w => by show mj_up _ 30 _ _ 25 w = _; simp [mj_up]
          obtain ⟨l3, e3, f1, f2, f3⟩ := qs_dropHolding L i2 l2 G1 hO.1.2 ((u24 7 (by omega)).trans a7) ((u24 8 (by omega)).trans a8) hs (fun w hw => (v25 w).trans (a25 w hw)) g2
          have hp1 : (p ++ [(s, mq_sw G1 s 256)]).length = p.length + 1 := by rw [List.length_append, List.length_singleton]
          obtain ⟨i', l', r1, r2⟩ := ih (p ++ [(s, mq_sw G1 s 256)]) (mq_dr G1 s) i2 l3 (by omega) (by rw [List.append_assoc]; exact hq) (mq_dr_le g1 s) (mq_dr_out g2 s) ((u24 7 (by omega)).trans a7) ((u24 8 (by omega)).trans a8) (by rw [hp1]; exact u6) f1 f2
            (mq_hl_app ah (fun t => by
              show mj_up _ 24 6 _ 29 t = _
              rw [mq_upn (by omega), mq_upi_at]) (fun t => by
              rw [f3 30 (by omega) (by omega)]
              show mj_up l1 30 _ _ 30 t = _
              rw [mq_upl_at])) (fun k h1 h2 => by
            show mj_up _ 24 6 _ k = _
            rw [mq_upn h1, mq_upn h2]
            exact af k h1 h2)
          refine ⟨i', l', qe_Worlds_putInOrder_p7 L _ _ i1 l1 _ ?_, r2⟩
          rw [if_neg e20, el, Option.bind_some]
          dsimp only
          rw [if_neg (nI_pos (by omega)), qs_holdingAll L i1 l1 (by omega), Option.bind_some]
          simp only [a26 s hs]
          rw [if_neg (fun q => h0 ((mq_c0 (by omega)).mp q)), a6, qs_Two_store_29 L _ i1 l1 (by omega), Option.bind_some]
          simp only [qs_holdingAll L _ l1 (show s < 256 by omega), Option.bind_some, a26 s hs]
          rw [show mj_up i1 29 p.length (nI s) 24 6 = nI p.length by rw [mq_upn (by omega)]; exact a6, qs_Two_storeL_30 L _ _ l1 (by omega), Option.bind_some]
          dsimp only
          rw [show mj_up i1 29 p.length (nI s) 24 6 = nI p.length by rw [mq_upn (by omega)]; exact a6, nI_1]
          have e3 : qf_Worlds_dropHolding L (nI s) (mj_up (mj_up i1 29 p.length (nI s)) 24 6 (nI (p.length + 1))) (mj_up l1 30 p.length (lN (mq_sw G1 s 256))) = some (i2, l3) := e3
          rw [e3, Option.bind_some]
          rw [hp1] at r1
          exact r1
  obtain ⟨i', l', r1, r2, r3, r4⟩ := loop 20 [] G (mj_up i 24 6 (0 : Int32)) l rfl rfl hG hG0 (by rw [mq_upi_at, if_neg (by omega)]; exact h7) (by rw [mq_upi_at, if_neg (by omega)]; exact h8) (by rw [mq_upi_at, if_pos rfl]; rfl) h25 h26 (fun t s w h => by cases h) (fun k h1 _ => mq_upn h1)
  exact ⟨i', l', qe_Worlds_putInOrder L _ i l _ r1, r2, r3, r4⟩
theorem qs_findOrder (L : Nat) (i : mMI) (l : mML) (hM : mq_MD i D) (hO : mq_Ok D) (G : Nat → Nat) (hG : ∀ w, G w ≤ 43046721) (h56 : ∀ w, w < 256 → i 56 w = nI (G w)) : ∃ i' l', qf_Mod_findOrder_p9 L (mj_up i 42 37 (0 : Int32)) l = some (i', l') ∧ i' 42 37 = nI (mq_ol D 20 G).length ∧ mq_hl (i' 62) (l' 63) (mq_ol D 20 G) ∧ (∀ j, j ≠ 37 → i' 42 j = i 42 j) ∧ ∀ k, k ≠ 42 → k ≠ 56 → k ≠ 62 → i' k = i k := by
  have hp := mq_pow hO.1.2
  have drop : ∀ (G1 : Nat → Nat) (s : Nat), s < 256 → ∀ (r : mMI → mML → Prop), ∀ (m k : Nat), k + m = 256 → ∀ (i1 : mMI) (l1 : mML), (∀ w, w < k → i1 56 w = nI (mq_dr G1 s w)) → (∀ w, k ≤ w → w < 256 → i1 56 w = nI (G1 w)) → (∀ i2 : mMI, (∀ w, w < 256 → i2 56 w = nI (mq_dr G1 s w)) → (∀ a, a ≠ 56 → i2 a = i1 a) → ∃ i' l', qf_Mod_findOrder_p9 L i2 l1 = some (i', l') ∧ r i' l') → ∃ i' l', qf_Mod_findOrder_p74 L (nI s) (nI k) i1 l1 = some (i', l') ∧ r i' l' := by
    intro G1 s hs r m
    induction m with
    | zero =>
      intro k hk i1 l1 a1 a2 a3
      have hk : k = 256 := hk
      subst hk
      obtain ⟨i', l', e, h⟩ := a3 i1 a1 (fun _ _ => rfl)
      refine ⟨i', l', qe_Mod_findOrder_p74 L _ _ i1 l1 _ ?_, h⟩
      rw [if_pos (show (256 : Int32) ≤ nI 256 from nI_le (Nat.le_refl _) (by omega))]
      exact e
    | succ m ih =>
      intro k hk i1 l1 a1 a2 a3
      have e56 : ¬ (256 : Int32) ≤ nI k := nI_ge (a := k) (b := 256) (by omega) (by omega)
      have key : ∀ x, x = nI (mq_dr G1 s k) → ∃ i' l', qf_Mod_findOrder_p74 L (nI s) (nI (k + 1)) (mj_up i1 56 k x) l1 = some (i', l') ∧ r i' l' := by
        intro x hx
        refine ih (k + 1) (by omega) _ l1 (fun w hw => ?_) (fun w h1 h2 => ?_) (fun i2 b1 b2 => a3 i2 b1 (fun a ha => (b2 a ha).trans (mq_upn ha)))
        · rw [mq_upi_at]
          by_cases e : w = k
          · subst e
            rw [if_pos rfl]; exact hx
          · rw [if_neg e]; exact a1 w (by omega)
        · rw [mq_upi_at, if_neg (by omega)]
          exact a2 w (by omega) h2
      by_cases hc : s &&& k = s
      · obtain ⟨i', l', e, h⟩ := key (0 : Int32) (by unfold mq_dr; rw [if_pos hc]; rfl)
        refine ⟨i', l', qe_Mod_findOrder_p74 L _ _ i1 l1 _ ?_, h⟩
        rw [if_neg e56, if_pos ((mq_andn (by omega) (by omega)).mpr hc), if_neg (nI_in (show k < 256 by omega) (by omega)), nI_clamp (by omega), nI_1]
        exact e
      · obtain ⟨i', l', e, h⟩ := key (i1 56 k) (by unfold mq_dr; rw [if_neg hc]; exact a2 k (Nat.le_refl _) (by omega))
        refine ⟨i', l', qe_Mod_findOrder_p74 L _ _ i1 l1 _ ?_, h⟩
        rw [if_neg e56, if_neg (fun q => hc ((mq_andn (by omega) (by omega)).mp q)), if_neg (nI_in (show k < 256 by omega) (by omega)), if_neg (nI_in (show k < 256 by omega) (by omega)), nI_clamp (by omega), nI_1]
        exact e
  have loop : ∀ (m : Nat) (p : List (Nat × Nat)) (G1 : Nat → Nat) (i1 : mMI) (l1 : mML), p.length + m = 20 → p ++ mq_ol D m G1 = mq_ol D 20 G → (∀ w, G1 w ≤ 43046721) → i1 42 37 = nI p.length → (∀ w, w < 256 → i1 56 w = nI (G1 w)) → mq_hl (i1 62) (l1 63) p → (∀ j, j ≠ 37 → i1 42 j = i 42 j) → (∀ k, k ≠ 42 → k ≠ 56 → k ≠ 62 → i1 k = i k) → ∃ i' l', qf_Mod_findOrder_p9 L i1 l1 = some (i', l') ∧ i' 42 37 = nI (mq_ol D 20 G).length ∧ mq_hl (i' 62) (l' 63) (mq_ol D 20 G) ∧ (∀ j, j ≠ 37 → i' 42 j = i 42 j) ∧ ∀ k, k ≠ 42 → k ≠ 56 → k ≠ 62 → i' k = i k := by
    intro m
    induction m with
    | zero =>
      intro p G1 i1 l1 hm hq g1 a6 a56 ah af1 af
      have hm : p.length = 20 := hm
      have hq : p ++ [] = mq_ol D 20 G := hq
      rw [List.append_nil] at hq
      refine ⟨i1, l1, qe_Mod_findOrder_p9 L i1 l1 _ ?_, ?_, ?_, af1, af⟩
      · rw [a6, hm, if_pos (show (20 : Int32) ≤ nI 20 from nI_le (Nat.le_refl _) (by omega))]
      · rw [← hq]; exact a6
      · rw [← hq]; exact ah
    | succ m ih =>
      intro p G1 i1 l1 hm hq g1 a6 a56 ah af1 af
      have hM1 : mq_MD i1 D := hM.congr (fun j h1 h2 => af1 j (by omega)) (fun k h1 h2 => af k (by omega) (by omega) (by omega))
      have hG1 : ∀ w, w < 256 → G1 w < 2 ^ 31 ∧ i1 56 w = nI (G1 w) := fun w hw => ⟨by have := g1 w; omega, a56 w hw⟩
      have el := qs_luckyNow L i1 l1 hM1 hO G1 hG1 (fun s _ => mq_sw62' g1 s)
      have e20 : ¬ (20 : Int32) ≤ nI p.length := nI_ge (a := p.length) (b := 20) (by omega) (by omega)
      cases hl : mq_luck D (fun s => mq_sw G1 s 256) with
      | none =>
        rw [mq_ol_none hl, List.append_nil] at hq
        refine ⟨i1, l1, qe_Mod_findOrder_p9 L i1 l1 _ ?_, ?_, ?_, af1, af⟩
        · rw [a6, if_neg e20, el, hl, Option.bind_some]
          exact if_pos (show (-9 : Int32) < 0 by decide)
        · rw [← hq]; exact a6
        · rw [← hq]; exact ah
      | some s =>
        have hs := mq_luck_in hl
        have hw := mq_sw62' g1 s
        rw [hl, show mq_o (some s) = nI s from rfl] at el
        have ew := qs_weightWith L i1 l1 G1 hG1 (show s < 256 by omega)
        by_cases h0 : mq_sw G1 s 256 = 0
        · rw [mq_ol_0 hl h0, List.append_nil] at hq
          refine ⟨i1, l1, qe_Mod_findOrder_p9 L i1 l1 _ ?_, ?_, ?_, af1, af⟩
          · rw [a6, if_neg e20, el, Option.bind_some]
            dsimp only
            rw [if_neg (nI_pos (by omega)), ew, Option.bind_some]
            dsimp only
            rw [if_pos ((mq_c0 (by omega)).mpr h0)]
          · rw [← hq]; exact a6
          · rw [← hq]; exact ah
        · rw [mq_ol_s hl h0] at hq
          have hG2 : ∀ w, w < 256 → G1 w < 2 ^ 31 ∧ mj_up i1 62 p.length (nI s) 56 w = nI (G1 w) := fun w hw => ⟨by have := g1 w; omega, by rw [mq_upn (by omega)]; exact a56 w hw⟩
          have ew2 := qs_weightWith L (mj_up i1 62 p.length (nI s)) l1 G1 hG2 (show s < 256 by omega)
          have hp1 : (p ++ [(s, mq_sw G1 s 256)]).length = p.length + 1 := by rw [List.length_append, List.length_singleton]
          obtain ⟨i', l', r1, r2⟩ := drop G1 s (by omega) (fun i' l' => i' 42 37 = nI (mq_ol D 20 G).length ∧ mq_hl (i' 62) (l' 63) (mq_ol D 20 G) ∧ (∀ j, j ≠ 37 → i' 42 j = i 42 j) ∧ ∀ k, k ≠ 42 → k ≠ 56 → k ≠ 62 → i' k = i k) 256 0 rfl (mj_up (mj_up i1 62 p.length (nI s)) 42 37 (nI (p.length + 1))) (mj_up l1 63 p.length (lN (mq_sw G1 s 256))) (fun w h => absurd h (by omega)) (fun w _ h => by rw [mq_upn (by omega)]; exact (hG2 w h).2) (fun i2 b1 b2 => by
            refine ih (p ++ [(s, mq_sw G1 s 256)]) (mq_dr G1 s) i2 _ (by omega) (by rw [List.append_assoc]; exact hq) (mq_dr_le g1 s) ?_ b1 ?_ ?_ ?_
            · rw [b2 42 (by omega), mq_upi_at, if_pos rfl, hp1]
            · refine mq_hl_app ah (fun t => ?_) (fun t => ?_)
              · rw [b2 62 (by omega), mq_upn (by omega), mq_upi_at]
              · rw [mq_upl_at]
            · intro j hj
              rw [b2 42 (by omega), mq_upi_at, if_neg hj, mq_upn (by omega)]
              exact af1 j hj
            · intro k h1 h2 h3
              rw [b2 k h2, mq_upn h1, mq_upn h3]
              exact af k h1 h2 h3)
          refine ⟨i', l', qe_Mod_findOrder_p9 L i1 l1 _ ?_, r2⟩
          rw [a6, if_neg e20, el, Option.bind_some]
          dsimp only
          rw [if_neg (nI_pos (by omega)), ew, Option.bind_some]
          simp only [a6]
          rw [if_neg (fun q => h0 ((mq_c0 (by omega)).mp q))]
          simp only [if_neg (nI_in (show p.length < 20 by omega) (show 20 < 2 ^ 31 by omega))]
          rw [nI_clamp (by omega), ew2, Option.bind_some]
          dsimp only
          rw [show mj_up i1 62 p.length (nI s) 42 37 = nI p.length by rw [mq_upn (by omega)]; exact a6, nI_1]
          exact r1
  exact loop 20 [] G (mj_up i 42 37 (0 : Int32)) l rfl rfl hG (by rw [mq_upi_at, if_pos rfl]; rfl) (fun w hw => by rw [mq_upn (by omega)]; exact h56 w hw) (fun t s w h => by cases h) (fun j hj => by rw [mq_upi_at, if_neg hj]) (fun k h1 _ _ => mq_upn h1)
end
