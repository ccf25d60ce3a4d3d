/-! A statement comes, on both sides. -/
def mq_dg (x : Int32) : Nat := Int32.toNatClampNeg (mq_dv x)
theorem mq_dg_in {x : Int32} (h : ¬ mq_dv x < 0) : mq_dg x ≤ 9 ∧ mq_dv x = nI (mq_dg x) ∧ x = nI (48 + mq_dg x) := by
  rcases mq_dv_in x with ⟨h1, h2, h3⟩ | ⟨d, h1, h2, h3, h4, h5, h6⟩
  · exact absurd h2 h
  · have e : mq_dg x = d := by
      unfold mq_dg
      rw [h3]
      exact nI_clamp (by omega)
    rw [e]
    exact ⟨h1, h3, h2⟩
def mq_st (tx : Nat → Int32) : Nat → Nat → Nat → Nat
  | 0, _, a => a
  | m + 1, p, a => if mq_dv (tx p) < 0 then a else mq_st tx m (p + 1) (a ||| 2 ^ mq_dg (tx p))
theorem mq_st_lt (tx : Nat → Int32) (n : Nat) : ∀ m p a, mq_st tx m p a < 2 ^ n ↔ a < 2 ^ n ∧ ∀ j, j < mq_dn tx m p → mq_dg (tx (p + j)) < n := by
  intro m
  induction m with
  | zero => exact fun p a => ⟨fun h => ⟨h, fun j hj => absurd hj (by show ¬ j < 0; omega)⟩, fun h => h.1⟩
  | succ m ih =>
    intro p a
    simp only [mq_st, mq_dn]
    by_cases hc : mq_dv (tx p) < 0
    · rw [if_pos hc, if_pos hc]
      exact ⟨fun h => ⟨h, fun j hj => absurd hj (by omega)⟩, fun h => h.1⟩
    · rw [if_neg hc, if_neg hc, ih]
      constructor
      · rintro ⟨h1, h2⟩
        refine ⟨Nat.lt_of_le_of_lt Nat.left_le_or h1, fun j hj => ?_⟩
        cases j with
        | zero => exact (Nat.pow_lt_pow_iff_right (by omega)).mp (Nat.lt_of_le_of_lt Nat.right_le_or h1)
        | succ j =>
          have := h2 j (by omega)
          rw [show p + 1 + j = p + (j + 1) by omega] at this
          exact this
      · rintro ⟨h1, h2⟩
        refine ⟨Nat.or_lt_two_pow h1 (Nat.pow_lt_pow_right (by omega) (h2 0 (by omega))), fun j hj => ?_⟩
        have := h2 (j + 1) (by omega)
        rw [show p + (j + 1) = p + 1 + j by omega] at this
        exact this
theorem mq_st_10 (tx : Nat → Int32) (m p : Nat) : mq_st tx m p 0 < 2 ^ 10 := by
  rw [mq_st_lt]
  refine ⟨by decide, fun j hj => ?_⟩
  have := (mq_dg_in (mq_dn_d tx m p j hj)).1
  omega
/-- the model's text, be it taped still or no longer -/
def mq_Mr (i : mMI) (len : Nat) (t : Nat → Nat) : Prop := (∀ j, j < len → i 49 j = nI (t j)) ∧ len ≤ 96
section
variable {len : Nat} {t : Nat → Nat}
theorem qs_setFrom (L : Nat) {p : Nat} (i : mMI) (l : mML) (h : mq_CT i len t) (hp : p ≤ 200) : qf_Letters_setFrom L (nI p) i l = some (nI (mq_st (mq_tx len t) 8 p 0), i, l) := by
  have loop : ∀ (m c a : Nat), c + m = 8 → qf_Letters_setFrom_p4 L (nI p) (nI a) (nI c) i l = some (nI (mq_st (mq_tx len t) m (p + c) a), i, l) := by
    intro m
    induction m with
    | zero =>
      intro c a hc
      have hc : c = 8 := hc
      subst hc
      refine qe_Letters_setFrom_p4 L _ _ _ i l _ ?_
      rw [if_pos (show (8 : Int32) ≤ nI 8 from nI_le (Nat.le_refl _) (by omega))]
      rfl
    | succ m ih =>
      intro c a hc
      refine qe_Letters_setFrom_p4 L _ _ _ i l _ ?_
      rw [if_neg (show ¬ (8 : Int32) ≤ nI c from nI_ge (a := c) (b := 8) (by omega) (by omega)), nI_add, qs_digit L l h (by omega), Option.bind_some]
      simp only [mq_st]
      by_cases hd : mq_dv (mq_tx len t (p + c)) < 0
      · rw [if_pos hd, if_pos hd]
      · obtain ⟨d1, d2, d3⟩ := mq_dg_in hd
        rw [if_neg hd, if_neg hd, qs_digit L l h (by omega), Option.bind_some]
        dsimp only
        rw [d2, mq_shl (by omega), mq_or, nI_1, ih (c + 1) _ (by omega)]
        rfl
  refine qe_Letters_setFrom L _ i l _ ?_
  exact loop 8 0 0 rfl
theorem qs_tellsSet (L : Nat) {p s n : Nat} (i : mMI) (l : mML) (hT : mq_Mr i len t) (h6 : i 42 6 = nI n) (hn : n ≤ 8) (hs : s < 48) (h53 : i 53 s = nI p) (h54 : i 54 s = nI (p + mq_dn (mq_tx len t) 8 p)) (hp : p + mq_dn (mq_tx len t) 8 p ≤ len) :
    ∃ i', qf_Mod_tellsSet L (nI s) i l = some (mq_b (decide (mq_st (mq_tx len t) 8 p 0 < 2 ^ n)), i', l) ∧ (∀ a, a ≠ 42 → i' a = i a) ∧ (∀ j, j ≠ 22 → j ≠ 23 → i' 42 j = i 42 j) ∧ i' 42 23 = nI (mq_dn (mq_tx len t) 8 p) ∧ (mq_st (mq_tx len t) 8 p 0 < 2 ^ n → i' 42 22 = nI (mq_st (mq_tx len t) 8 p 0)) := by
  have h96 := hT.2
  have isb : ∀ (x : Int32) (i1 : mMI), i1 42 6 = nI n → qf_Mod_isBattery L x i1 l = some (mq_tf (0 ≤ x ∧ x < nI n), i1, l) := by
    intro x i1 h61
    refine qe_Mod_isBattery L x i1 l _ ?_
    rw [h61]
    unfold mq_tf
    by_cases h1 : x < 0
    · rw [if_pos h1, if_neg (fun q => by have := q.1; rw [Int32.le_iff_toInt_le] at this; rw [Int32.lt_iff_toInt_lt] at h1; omega)]
    · rw [if_neg h1]
      by_cases h2 : nI n ≤ x
      · rw [if_pos h2, if_neg (fun q => by have := q.2; rw [Int32.lt_iff_toInt_lt] at this; rw [Int32.le_iff_toInt_le] at h2; omega)]
      · rw [if_neg h2, if_pos ⟨by rw [Int32.lt_iff_toInt_lt] at h1; rw [Int32.le_iff_toInt_le]; omega, by rw [Int32.le_iff_toInt_le] at h2; rw [Int32.lt_iff_toInt_lt]; omega⟩]
  have hdle := mq_dn_le (mq_tx len t) 8 p
  generalize hE : p + mq_dn (mq_tx len t) 8 p = E at h54 hp
  have loop : ∀ (m q a : Nat), q + mq_dn (mq_tx len t) m q = E → a < 2 ^ n → ∀ i1 : mMI, (∀ b, b ≠ 42 → i1 b = i b) → (∀ j, j ≠ 22 → j ≠ 23 → i1 42 j = i 42 j) → i1 42 22 = nI a → i1 42 23 = nI (mq_dn (mq_tx len t) 8 p) → ∃ i', qf_Mod_tellsSet_p29 L (nI s) (nI q) i1 l = some (mq_b (decide (mq_st (mq_tx len t) m q a < 2 ^ n)), i', l) ∧ (∀ b, b ≠ 42 → i' b = i b) ∧ (∀ j, j ≠ 22 → j ≠ 23 → i' 42 j = i 42 j) ∧ i' 42 23 = nI (mq_dn (mq_tx len t) 8 p) ∧ (mq_st (mq_tx len t) m q a < 2 ^ n → i' 42 22 = nI (mq_st (mq_tx len t) m q a)) := by
    have stop : ∀ (q a : Nat), q = E → a < 2 ^ n → ∀ i1 : mMI, (∀ b, b ≠ 42 → i1 b = i b) → (∀ j, j ≠ 22 → j ≠ 23 → i1 42 j = i 42 j) → i1 42 22 = nI a → i1 42 23 = nI (mq_dn (mq_tx len t) 8 p) → ∃ i', qf_Mod_tellsSet_p29 L (nI s) (nI q) i1 l = some (mq_b (decide (a < 2 ^ n)), i', l) ∧ (∀ b, b ≠ 42 → i' b = i b) ∧ (∀ j, j ≠ 22 → j ≠ 23 → i' 42 j = i 42 j) ∧ i' 42 23 = nI (mq_dn (mq_tx len t) 8 p) ∧ (a < 2 ^ n → i' 42 22 = nI a) := by
      intro q a hq ha i1 a1 a2 a3 a4
      refine ⟨i1, qe_Mod_tellsSet_p29 L _ _ i1 l _ ?_, a1, a2, a4, fun _ => a3⟩
      rw [if_neg (nI_in hs (by omega)), nI_clamp (by omega), a1 54 (by omega), h54, hq, if_pos (nI_le (Nat.le_refl _) (by omega)), decide_eq_true ha]
      rfl
    intro m
    induction m with
    | zero => exact fun q a hq ha i1 a1 a2 a3 a4 => stop q a hq ha i1 a1 a2 a3 a4
    | succ m ih =>
      intro q a hq ha i1 a1 a2 a3 a4
      by_cases hd : mq_dv (mq_tx len t q) < 0
      · rw [mq_dn_stop hd] at hq
        have e : mq_st (mq_tx len t) (m + 1) q a = a := if_pos hd
        rw [e]
        exact stop q a hq ha i1 a1 a2 a3 a4
      · rw [mq_dn_go hd] at hq
        obtain ⟨d1, d2, d3⟩ := mq_dg_in hd
        have e : mq_st (mq_tx len t) (m + 1) q a = mq_st (mq_tx len t) m (q + 1) (a ||| 2 ^ mq_dg (mq_tx len t q)) := if_neg hd
        have hqE : q < E := by omega
        have h49 : i1 49 q = nI (48 + mq_dg (mq_tx len t q)) := by
          rw [a1 49 (by omega), hT.1 q (by omega)]
          have : mq_tx len t q = nI (t q) := if_pos (by omega)
          rw [← this]
          exact d3
        have esub : nI (48 + mq_dg (mq_tx len t q)) - (48 : Int32) = nI (mq_dg (mq_tx len t q)) := (pk_sub (a := 48 + mq_dg (mq_tx len t q)) (b := 48) (by omega)).trans (by rw [Nat.add_sub_cancel_left])
        have ib := isb (nI (mq_dg (mq_tx len t q))) i1 ((a2 6 (by omega) (by omega)).trans h6)
        rw [e]
        by_cases hdn : mq_dg (mq_tx len t q) < n
        · obtain ⟨i', g1, g2⟩ := ih (q + 1) (a ||| 2 ^ mq_dg (mq_tx len t q)) (by omega) (Nat.or_lt_two_pow ha (Nat.pow_lt_pow_right (by omega) hdn)) (mj_up i1 42 22 (nI (a ||| 2 ^ mq_dg (mq_tx len t q)))) (fun b hb => by rw [mq_upn hb]; exact a1 b hb) (fun j j1 j2 => by rw [mq_upi_at, if_neg j1]; exact a2 j j1 j2) (by rw [mq_upi_at, if_pos rfl]) (by rw [mq_upi_at, if_neg (by omega)]; exact a4)
          refine ⟨i', qe_Mod_tellsSet_p29 L _ _ i1 l _ ?_, g2⟩
          rw [if_neg (nI_in hs (by omega)), nI_clamp (show s < 2 ^ 31 by omega), a1 54 (by omega), h54, if_neg (nI_ge hqE (by omega)), if_neg (nI_in (show q < 96 by omega) (by omega)), nI_clamp (show q < 2 ^ 31 by omega), h49, esub, ib, Option.bind_some, mq_tf_is ⟨nI_pos' (by omega), nI_lt hdn (by omega)⟩]
          dsimp only
          rw [if_neg (by decide), if_neg (mq_in (show q < 96 by omega) (by omega)), h49, esub, a3, mq_shl (by omega), mq_or, nI_1]
          exact g1
        · have hbad : ¬ mq_st (mq_tx len t) m (q + 1) (a ||| 2 ^ mq_dg (mq_tx len t q)) < 2 ^ n := by
            rw [mq_st_lt]
            intro z
            exact hdn ((Nat.pow_lt_pow_iff_right (by omega)).mp (Nat.lt_of_le_of_lt Nat.right_le_or z.1))
          rw [decide_eq_false hbad]
          refine ⟨i1, qe_Mod_tellsSet_p29 L _ _ i1 l _ ?_, a1, a2, a4, fun z => absurd z hbad⟩
          rw [if_neg (nI_in hs (by omega)), nI_clamp (show s < 2 ^ 31 by omega), a1 54 (by omega), h54, if_neg (nI_ge hqE (by omega)), if_neg (nI_in (show q < 96 by omega) (by omega)), nI_clamp (show q < 2 ^ 31 by omega), h49, esub, ib, Option.bind_some, mq_tf_no (fun z => nI_nlt (show n ≤ mq_dg (mq_tx len t q) by omega) (by omega) z.2)]
          rfl
  obtain ⟨i', g1, g2⟩ := loop 8 p 0 hE (Nat.pow_pos (by omega)) (mj_up (mj_up i 42 22 (0 : Int32)) 42 23 (nI (mq_dn (mq_tx len t) 8 p))) (fun b hb => by rw [mq_upn hb, mq_upn hb]) (fun j j1 j2 => by rw [mq_upi_at, if_neg j2, mq_upi_at, if_neg j1]) (by rw [mq_upi_at, if_neg (by omega), mq_upi_at, if_pos rfl]; rfl) (by rw [mq_upi_at, if_pos rfl])
  refine ⟨i', qe_Mod_tellsSet L _ i l _ ?_, g2⟩
  rw [if_neg (nI_in hs (by omega)), if_neg (nI_in hs (by omega)), if_neg (nI_in hs (by omega)), nI_clamp (by omega), h53, h54, ← hE, pk_sub (by omega), Nat.add_sub_cancel_left]
  exact g1
end
/-- a new drawer of n -/
def mq_new (D : mq_D) (n : Nat) : mq_D := fun a b => if a = 0 then n else if a = 1 then 0 else if a = 2 then 0 else if a = 3 then b else if a = 4 then 85 &&& (2 ^ n - 1) else if a = 5 then (if n < D 5 0 then n else D 5 0) else if a = 9 then 0 else D a b
theorem mq_Ok_new {D : mq_D} (h : mq_Ok D) {n : Nat} (hn : 2 ≤ n ∧ n ≤ 8) : mq_Ok (mq_new D n) := by
  obtain ⟨a0, a1, a2, a3, a4, a5, a6, a7, a8, a9, a10⟩ := h
  have hpos : 0 < 2 ^ n := Nat.pow_pos (by omega)
  refine ⟨hn, fun j _ => (by show 0 ≤ 5; omega), fun j _ => (by show 0 ≤ 9; omega), ⟨fun j h => h, fun a b _ _ h => h⟩, ?_, ?_, a6, a7, a8, (by show 0 ≤ 10; omega), fun j hj => absurd hj (by show ¬ j < 0; omega)⟩
  · show 85 &&& (2 ^ n - 1) < 2 ^ n
    have := Nat.and_le_right (n := 85) (m := 2 ^ n - 1)
    omega
  · show (if n < D 5 0 then n else D 5 0) ≤ n
    split <;> omega
/-- the even ones below k -/
def mq_evn : Nat → Nat → Nat
  | _, 0 => 0
  | n, k + 1 => if n ≤ k then mq_evn n k else if k % 2 = 0 then mq_evn n k ||| 2 ^ k else mq_evn n k
theorem mq_evn_8 : ∀ n, n < 9 → mq_evn n 8 = 85 &&& (2 ^ n - 1) := by decide
theorem qs_renew (L : Nat) {D : mq_D} {n : Nat} (i : mMI) (l : mML) (hC : mq_CD 14 15 16 17 18 19 i D) (hO : mq_Ok D) (hn : 2 ≤ n ∧ n ≤ 8) : ∃ i', qf_Drawer_renew_14 L (nI n) i l = some (i', l) ∧ mq_CD 14 15 16 17 18 19 i' (mq_new D n) ∧ ∀ a, ¬ (14 ≤ a ∧ a ≤ 19) → i' a = i a := by
  have hp := mq_pow hn.2
  have hpos : 0 < 2 ^ n := Nat.pow_pos (by omega)
  have hg := hO.2.2.2.2.2.1
  have h8 := hO.1.2
  have loop : ∀ (m k : Nat), k + m = 8 → ∀ i1 : mMI, i1 14 0 = nI n → (∀ j, j ≠ 0 → i1 14 j = i 14 j) → (∀ j, j < k → i1 15 j = nI 0 ∧ i1 16 j = nI 0 ∧ i1 17 j = nI j) → (∀ a, ¬ (14 ≤ a ∧ a ≤ 17) → i1 a = i a) → ∃ i', qf_Drawer_renew_14_p7 L (nI n) (nI k) i1 l = some (i', l) ∧ mq_CD 14 15 16 17 18 19 i' (mq_new D n) ∧ ∀ a, ¬ (14 ≤ a ∧ a ≤ 19) → i' a = i a := by
    intro m
    induction m with
    | zero =>
      intro k hk i1 a0 a1 a2 a3
      have hk : k = 8 := hk
      subst hk
      refine ⟨mj_up (mj_up (mj_up i1 14 4 (nI (85 &&& (2 ^ n - 1)))) 14 9 (0 : Int32)) 14 5 (nI (if n < D 5 0 then n else D 5 0)), qe_Drawer_renew_14_p7 L _ _ i1 l _ ?_, ?_, fun a ha => ?_⟩
      · rw [if_pos (show (8 : Int32) ≤ nI 8 from nI_le (Nat.le_refl _) (by omega)), mq_shl (by omega), show nI (2 ^ n) - (1 : Int32) = nI (2 ^ n - 1) from pk_sub (b := 1) (by omega), show (85 : Int32) &&& nI (2 ^ n - 1) = nI (85 &&& (2 ^ n - 1)) from mq_and 85 _, a1 5 (by omega), hC.2.2.1]
        by_cases hc : n < D 5 0
        · rw [if_pos (nI_lt hc (by omega)), if_pos hc]
        · rw [if_neg (nI_nlt (by omega) (by omega)), if_neg hc]
      · obtain ⟨c0, c4, c5, c6, c7, c8, c9, d1, d2, d3, d4, d5⟩ := hC
        refine ⟨?_, ?_, ?_, ?_, ?_, ?_, ?_, fun j hj => ?_, fun j hj => ?_, fun j hj => ?_, fun j hj => absurd hj (by show ¬ j < 0; omega), fun j hj => absurd hj (by show ¬ j < 0; omega)⟩
        · rw [mq_upi_at, if_neg (by omega), mq_upi_at, if_neg (by omega), mq_upi_at, if_neg (by omega)]; exact a0
        · rw [mq_upi_at, if_neg (by omega), mq_upi_at, if_neg (by omega), mq_upi_at, if_pos rfl]; rfl
        · rw [mq_upi_at, if_pos rfl]; rfl
        · rw [mq_upi_at, if_neg (by omega), mq_upi_at, if_neg (by omega), mq_upi_at, if_neg (by omega), a1 6 (by omega)]; exact c6
        · rw [mq_upi_at, if_neg (by omega), mq_upi_at, if_neg (by omega), mq_upi_at, if_neg (by omega), a1 7 (by omega)]; exact c7
        · rw [mq_upi_at, if_neg (by omega), mq_upi_at, if_neg (by omega), mq_upi_at, if_neg (by omega), a1 8 (by omega)]; exact c8
        · rw [mq_upi_at, if_neg (by omega), mq_upi_at, if_pos rfl]; rfl
        · rw [mq_upn (by omega), mq_upn (by omega), mq_upn (by omega)]; exact (a2 j hj).1
        · rw [mq_upn (by omega), mq_upn (by omega), mq_upn (by omega)]; exact (a2 j hj).2.1
        · rw [mq_upn (by omega), mq_upn (by omega), mq_upn (by omega)]; exact (a2 j hj).2.2
      · rw [mq_upn (by omega), mq_upn (by omega), mq_upn (by omega)]
        exact a3 a (by omega)
    | succ m ih =>
      intro k hk i1 a0 a1 a2 a3
      obtain ⟨i', g1, g2⟩ := ih (k + 1) (by omega) (mj_up (mj_up (mj_up i1 15 k (nI 0)) 16 k (nI 0)) 17 k (nI k)) (by rw [mq_upn (by omega), mq_upn (by omega), mq_upn (by omega)]; exact a0) (fun j hj => by rw [mq_upn (by omega), mq_upn (by omega), mq_upn (by omega)]; exact a1 j hj) (fun j hj => by
        rw [mq_upn (show 15 ≠ 17 by omega), mq_upn (show 15 ≠ 16 by omega), mq_upi_at, mq_upn (show 16 ≠ 17 by omega), mq_upi_at, mq_upn (show 16 ≠ 15 by omega), mq_upi_at, mq_upn (show 17 ≠ 16 by omega), mq_upn (show 17 ≠ 15 by omega)]
        by_cases e : j = k
        · rw [if_pos e, if_pos e, if_pos e, e]
          exact ⟨rfl, rfl, rfl⟩
        · rw [if_neg e, if_neg e, if_neg e]
          exact a2 j (by omega)) (fun a ha => by rw [mq_upn (by omega), mq_upn (by omega), mq_upn (by omega)]; exact a3 a ha)
      refine ⟨i', qe_Drawer_renew_14_p7 L _ _ i1 l _ ?_, g2⟩
      have em : qf_Drawer_mark_14 L (nI k) (0 : Int32) (0 : Int32) i1 l = some (mj_up (mj_up i1 15 k (nI 0)) 16 k (nI 0), l) := by
        refine qe_Drawer_mark_14 L _ _ _ i1 l _ ?_
        rw [qs_Two_store_15 L _ i1 l (by omega), Option.bind_some]
        dsimp only
        rw [qs_Two_store_16 L _ _ l (by omega), Option.bind_some]
        rfl
      rw [if_neg (show ¬ (8 : Int32) ≤ nI k from nI_ge (a := k) (b := 8) (by omega) (by omega)), em, Option.bind_some]
      dsimp only
      rw [qs_Two_store_17 L _ _ l (by omega), Option.bind_some]
      dsimp only
      rw [nI_1]
      exact g1
  obtain ⟨i', g1, g2⟩ := loop 8 0 rfl (mj_up i 14 0 (nI n)) (by rw [mq_upi_at, if_pos rfl]) (fun j hj => by rw [mq_upi_at, if_neg hj]) (fun j hj => absurd hj (by omega)) (fun a ha => mq_upn (by omega))
  exact ⟨i', qe_Drawer_renew_14 L _ i l _ g1, g2⟩
theorem qs_begins (L : Nat) {D : mq_D} {n : Nat} (i : mMI) (l : mML) (hM : mq_MD i D) (hO : mq_Ok D) (hn : 2 ≤ n ∧ n ≤ 8) : ∃ i', qf_Mod_begins L (nI n) i l = some (i', l) ∧ mq_MD i' (mq_new D n) ∧ (∀ a, a ≠ 42 → ¬ (44 ≤ a ∧ a ≤ 48) → i' a = i a) ∧ ∀ j, ¬ (6 ≤ j ∧ j ≤ 12) → i' 42 j = i 42 j := by
  have hg := hO.2.2.2.2.2.1
  have h8 := hO.1.2
  have loop : ∀ (m k : Nat), k + m = 8 → ∀ i1 : mMI, i1 42 6 = nI n → i1 42 7 = nI (mq_evn n k) → (∀ j, j ≠ 6 → j ≠ 7 → i1 42 j = i 42 j) → (∀ j, j < k → i1 44 j = nI 0 ∧ i1 45 j = nI 0 ∧ i1 46 j = nI j) → (∀ a, a ≠ 42 → ¬ (44 ≤ a ∧ a ≤ 46) → i1 a = i a) → ∃ i', qf_Mod_begins_p12 L (nI n) (nI k) i1 l = some (i', l) ∧ mq_MD i' (mq_new D n) ∧ (∀ a, a ≠ 42 → ¬ (44 ≤ a ∧ a ≤ 48) → i' a = i a) ∧ ∀ j, ¬ (6 ≤ j ∧ j ≤ 12) → i' 42 j = i 42 j := by
    intro m
    induction m with
    | zero =>
      intro k hk i1 a0 a7 a1 a2 a3
      have hk : k = 8 := hk
      subst hk
      rw [mq_evn_8 n (by omega)] at a7
      have e : ∀ r, (if nI (D 5 0) ≤ nI n then (some ((mj_up (mj_up i1 42 12 (0 : Int32)) 42 8 (nI (D 5 0))), l)) else (some ((mj_up (mj_up i1 42 12 (0 : Int32)) 42 8 (nI n)), l))) = some r → qf_Mod_begins_p12 L (nI n) (nI 8) i1 l = some r := by
        intro r hr
        refine qe_Mod_begins_p12 L _ _ i1 l _ ?_
        rw [if_pos (show (8 : Int32) ≤ nI 8 from nI_le (Nat.le_refl _) (by omega)), a1 8 (by omega) (by omega), hM.2.2.1]
        exact hr
      refine ⟨mj_up (mj_up i1 42 12 (0 : Int32)) 42 8 (nI (if n < D 5 0 then n else D 5 0)), e _ ?_, ?_, fun a a1' a2' => ?_, fun j hj => ?_⟩
      · by_cases hc : n < D 5 0
        · rw [if_neg (nI_ge hc (by omega)), if_pos hc]
        · rw [if_pos (nI_le (by omega) (by omega)), if_neg hc]
      · obtain ⟨c0, c4, c5, c6, c7, c8, c9, d1, d2, d3, d4, d5⟩ := hM
        refine ⟨?_, ?_, ?_, ?_, ?_, ?_, ?_, fun j hj => ?_, fun j hj => ?_, fun j hj => ?_, fun j hj => absurd hj (by show ¬ j < 0; omega), fun j hj => absurd hj (by show ¬ j < 0; omega)⟩
        · rw [mq_upi_at, if_neg (by omega), mq_upi_at, if_neg (by omega)]; exact a0
        · rw [mq_upi_at, if_neg (by omega), mq_upi_at, if_neg (by omega)]; exact a7
        · rw [mq_upi_at, if_pos rfl]; rfl
        · rw [mq_upi_at, if_neg (by omega), mq_upi_at, if_neg (by omega), a1 9 (by omega) (by omega)]; exact c6
        · rw [mq_upi_at, if_neg (by omega), mq_upi_at, if_neg (by omega), a1 10 (by omega) (by omega)]; exact c7
        · rw [mq_upi_at, if_neg (by omega), mq_upi_at, if_neg (by omega), a1 11 (by omega) (by omega)]; exact c8
        · rw [mq_upi_at, if_neg (by omega), mq_upi_at, if_pos rfl]; rfl
        · rw [mq_upn (by omega), mq_upn (by omega)]; exact (a2 j hj).1
        · rw [mq_upn (by omega), mq_upn (by omega)]; exact (a2 j hj).2.1
        · rw [mq_upn (by omega), mq_upn (by omega)]; exact (a2 j hj).2.2
      · rw [mq_upn a1', mq_upn a1']; exact a3 a a1' (by omega)
      · rw [mq_upi_at, if_neg (by omega), mq_upi_at, if_neg (by omega)]; exact a1 j (by omega) (by omega)
    | succ m ih =>
      intro k hk i1 a0 a7 a1 a2 a3
      have key : ∀ x, x = nI (mq_evn n (k + 1)) → ∃ i', qf_Mod_begins_p12 L (nI n) (nI (k + 1)) (mj_up (mj_up (mj_up (mj_up i1 44 k (0 : Int32)) 45 k (0 : Int32)) 46 k (nI k)) 42 7 x) l = some (i', l) ∧ mq_MD i' (mq_new D n) ∧ (∀ a, a ≠ 42 → ¬ (44 ≤ a ∧ a ≤ 48) → i' a = i a) ∧ ∀ j, ¬ (6 ≤ j ∧ j ≤ 12) → i' 42 j = i 42 j := by
        intro x hx
        refine ih (k + 1) (by omega) _ ?_ ?_ (fun j j1 j2 => ?_) (fun j hj => ?_) (fun a ha1 ha2 => ?_)
        · rw [mq_upi_at, if_neg (by omega), mq_upn (by omega), mq_upn (by omega), mq_upn (by omega)]; exact a0
        · rw [mq_upi_at, if_pos rfl]; exact hx
        · rw [mq_upi_at, if_neg j2, mq_upn (by omega), mq_upn (by omega), mq_upn (by omega)]; exact a1 j j1 j2
        · rw [mq_upn (show 44 ≠ 42 by omega), mq_upn (show 44 ≠ 46 by omega), mq_upn (show 44 ≠ 45 by omega), mq_upi_at, mq_upn (show 45 ≠ 42 by omega), mq_upn (show 45 ≠ 46 by omega), mq_upi_at, mq_upn (show 45 ≠ 44 by omega), mq_upn (show 46 ≠ 42 by omega), mq_upi_at, mq_upn (show 46 ≠ 45 by omega), mq_upn (show 46 ≠ 44 by omega)]
          by_cases e : j = k
          · rw [if_pos e, if_pos e, if_pos e, e]
            exact ⟨rfl, rfl, rfl⟩
          · rw [if_neg e, if_neg e, if_neg e]
            exact a2 j (by omega)
        · rw [mq_upn ha1, mq_upn (by omega), mq_upn (by omega), mq_upn (by omega)]; exact a3 a ha1 ha2
      have eor : ∀ a, nI a ||| (0 : Int32) = nI a := fun a => by rw [show (0 : Int32) = nI 0 from rfl, mq_or, Nat.or_zero]
      have e8 : ¬ (8 : Int32) ≤ nI k := nI_ge (a := k) (b := 8) (by omega) (by omega)
      by_cases hc : n ≤ k
      · have ev : mq_evn n (k + 1) = mq_evn n k := if_pos hc
        obtain ⟨i', g1, g2⟩ := key (nI (mq_evn n k)) (by rw [ev])
        refine ⟨i', qe_Mod_begins_p12 L _ _ i1 l _ ?_, g2⟩
        rw [if_neg e8, if_neg (nI_in (show k < 8 by omega) (by omega)), if_neg (nI_in (show k < 8 by omega) (by omega)), if_neg (nI_in (show k < 8 by omega) (by omega)), if_pos (nI_le hc (by omega)), nI_clamp (by omega), a7, eor, nI_1]
        exact g1
      · have er : nI k - nI k / (2 : Int32) * (2 : Int32) = nI (k % 2) := pk_rem (d := 2) (by omega) (by omega) (by omega)
        have ez : nI (k % 2) = (0 : Int32) ↔ k % 2 = 0 := nI_eq (b := 0) (by omega) (by omega)
        by_cases h2 : k % 2 = 0
        · have ev : mq_evn n (k + 1) = mq_evn n k ||| 2 ^ k := by
            show (if n ≤ k then _ else _) = _
            rw [if_neg hc, if_pos h2]
          obtain ⟨i', g1, g2⟩ := key (nI (mq_evn n k ||| 2 ^ k)) (by rw [ev])
          refine ⟨i', qe_Mod_begins_p12 L _ _ i1 l _ ?_, g2⟩
          rw [if_neg e8, if_neg (nI_in (show k < 8 by omega) (by omega)), if_neg (nI_in (show k < 8 by omega) (by omega)), if_neg (nI_in (show k < 8 by omega) (by omega)), if_neg (nI_ge (by omega) (by omega)), if_neg (by decide), er, if_pos (ez.mpr h2), nI_clamp (by omega), a7, mq_shl (by omega), mq_or, nI_1]
          exact g1
        · have ev : mq_evn n (k + 1) = mq_evn n k := by
            show (if n ≤ k then _ else _) = _
            rw [if_neg hc, if_neg h2]
          obtain ⟨i', g1, g2⟩ := key (nI (mq_evn n k)) (by rw [ev])
          refine ⟨i', qe_Mod_begins_p12 L _ _ i1 l _ ?_, g2⟩
          rw [if_neg e8, if_neg (nI_in (show k < 8 by omega) (by omega)), if_neg (nI_in (show k < 8 by omega) (by omega)), if_neg (nI_in (show k < 8 by omega) (by omega)), if_neg (nI_ge (by omega) (by omega)), if_neg (by decide), er, if_neg (fun z => h2 (ez.mp z)), nI_clamp (by omega), a7, eor, nI_1]
          exact g1
  obtain ⟨i', g1, g2⟩ := loop 8 0 rfl (mj_up (mj_up i 42 6 (nI n)) 42 7 (0 : Int32)) (by rw [mq_upi_at, if_neg (by omega), mq_upi_at, if_pos rfl]) (by rw [mq_upi_at, if_pos rfl]; rfl) (fun j j1 j2 => by rw [mq_upi_at, if_neg j2, mq_upi_at, if_neg j1]) (fun j hj => absurd hj (by omega)) (fun a ha _ => by rw [mq_upn ha, mq_upn ha])
  exact ⟨i', qe_Mod_begins L _ i l _ g1, g2⟩

