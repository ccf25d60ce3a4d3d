/-! The draft; the letters as the class reads them. -/
theorem mq_Dk_s {i : mMI} {D : mq_D} {f v : Nat} (h : mq_CD 14 15 16 17 18 19 i D) (hf : f = 4 ∨ f = 5 ∨ f = 6 ∨ f = 7 ∨ f = 8) : mq_CD 14 15 16 17 18 19 (mj_up i 14 f (nI v)) (mq_u D f 0 v) := by
  obtain ⟨a0, a1, a2, a3, a4, a5, a6, b1, b2, b3, b4, b5⟩ := h
  rcases hf with rfl | rfl | rfl | rfl | rfl <;> simp only [mq_CD, mj_up, mq_u] <;> simp <;> exact ⟨by assumption, by assumption, by assumption, by assumption, by assumption, by assumption, b1, b2, b3, b4, b5⟩
theorem mq_Dk_9 {i : mMI} {D : mq_D} {v : Nat} (h : mq_CD 14 15 16 17 18 19 i D) (hv : v ≤ D 9 0) : mq_CD 14 15 16 17 18 19 (mj_up i 14 9 (nI v)) (mq_u D 9 0 v) := by
  obtain ⟨a0, a1, a2, a3, a4, a5, a6, b1, b2, b3, b4, b5⟩ := h
  simp only [mq_CD, mj_up, mq_u]
  simp
  exact ⟨a0, a1, a2, a3, a4, a5, b1, b2, b3, fun j hj => b4 j (by omega), fun j hj => b5 j (by omega)⟩
theorem mq_Dk_mark {i : mMI} {D : mq_D} {b k f : Nat} (h : mq_CD 14 15 16 17 18 19 i D) : mq_CD 14 15 16 17 18 19 (mj_up (mj_up i 15 b (nI k)) 16 b (nI f)) (mq_mark D b k f) := by
  obtain ⟨a0, a1, a2, a3, a4, a5, a6, b1, b2, b3, b4, b5⟩ := h
  simp only [mq_CD, mj_up, mq_mark, mq_u]
  simp
  refine ⟨a0, a1, a2, a3, a4, a5, a6, fun j hj => ?_, fun j hj => ?_, b3, b4, b5⟩
  · by_cases e : j = b
    · simp [e]
    · simp [e, b1 j hj]
  · by_cases e : j = b
    · simp [e]
    · simp [e, b2 j hj]
theorem mq_Dk_book {i : mMI} {D : mq_D} {s t : Nat} (h : mq_CD 14 15 16 17 18 19 i D) : mq_CD 14 15 16 17 18 19 (mj_up (mj_up (mj_up i 18 (D 9 0) (nI s)) 19 (D 9 0) (nI t)) 14 9 (nI (D 9 0 + 1))) (mq_book D s t) := by
  obtain ⟨a0, a1, a2, a3, a4, a5, a6, b1, b2, b3, b4, b5⟩ := h
  simp only [mq_CD, mj_up, mq_book, mq_u]
  simp
  refine ⟨a0, a1, a2, a3, a4, a5, b1, b2, b3, fun j hj => ?_, fun j hj => ?_⟩
  · by_cases e : j = D 9 0
    · simp [e]
    · simp [e, b4 j (by omega)]
  · by_cases e : j = D 9 0
    · simp [e]
    · simp [e, b5 j (by omega)]
theorem qs_Drawer_has_14 (L : Nat) (x : Int32) (i : mMI) (l : mML) {D : mq_D} (hC : mq_CD 14 15 16 17 18 19 i D) (hO : mq_Ok D) : qf_Drawer_has_14 L x i l = some (mq_tf (0 ≤ x ∧ x < nI (D 0 0)), i, l) := by
  refine qe_Drawer_has_14 L x i l _ ?_
  rw [hC.1]
  unfold mq_tf
  by_cases h1 : x < 0
  · rw [if_pos h1, if_neg (fun q => by have := q.1; rw [Int32.le_iff_toInt_le] at this; rw [Int32.lt_iff_toInt_lt] at h1; omega)]
  · rw [if_neg h1]
    by_cases h2 : nI (D 0 0) ≤ x
    · rw [if_pos h2, if_neg (fun q => by have := q.2; rw [Int32.lt_iff_toInt_lt] at this; rw [Int32.le_iff_toInt_le] at h2; omega)]
    · rw [if_neg h2, if_pos ⟨by rw [Int32.lt_iff_toInt_lt] at h1; rw [Int32.le_iff_toInt_le]; omega, by rw [Int32.le_iff_toInt_le] at h2; rw [Int32.lt_iff_toInt_lt]; omega⟩]
theorem qs_Drawer_hasAll_14 (L : Nat) (x : Int32) (i : mMI) (l : mML) {D : mq_D} (hC : mq_CD 14 15 16 17 18 19 i D) : qf_Drawer_hasAll_14 L x i l = some (mq_tf (x >>> (nI (D 0 0) &&& 31) = 0), i, l) := by
  refine qe_Drawer_hasAll_14 L x i l _ ?_
  rw [hC.1]
  unfold mq_tf
  by_cases h : x >>> (nI (D 0 0) &&& 31) = 0
  · rw [if_pos h, if_pos h]
  · rw [if_neg h, if_neg h]
theorem qs_Drawer_isTry_no14 (L : Nat) (x : Int32) (i : mMI) (l : mML) {D : mq_D} (hC : mq_CD 14 15 16 17 18 19 i D) (h : ¬ x >>> (nI (D 0 0) &&& 31) = 0) : qf_Drawer_isTry_14 L x i l = some (0, i, l) := by
  refine qe_Drawer_isTry_14 L x i l _ ?_
  rw [qs_Drawer_hasAll_14 L x i l hC, Option.bind_some]
  rw [if_pos (mq_tf0.mpr h)]
theorem qs_Drawer_isTry_14 (L : Nat) {s : Nat} (i : mMI) (l : mML) {D : mq_D} (hC : mq_CD 14 15 16 17 18 19 i D) (hO : mq_Ok D) (hs : s < 2 ^ D 0 0) : (mq_try D s → qf_Drawer_isTry_14 L (nI s) i l = some (1, i, l)) ∧ (¬ mq_try D s → qf_Drawer_isTry_14 L (nI s) i l = some (0, i, l)) := by
  have hp := mq_pow hO.1.2
  have hset : nI s >>> (nI (D 0 0) &&& 31) = 0 := (mq_set hO.1.2).mpr ⟨s, hs, rfl⟩
  have hpop := mq_pop_le s
  have h5 : nI (D 7 0) = (5 : Int32) ↔ D 7 0 = 5 := nI_eq (b := 5) (by have := hO.2.2.2.2.2.2.2.1; omega) (by omega)
  have h0 : nI s = (0 : Int32) ↔ s = 0 := nI_eq (b := 0) (by omega) (by omega)
  have h8 : nI (mq_pop s) = nI (D 8 0) ↔ mq_pop s = D 8 0 := nI_eq (by omega) (by have := hO.2.2.2.2.2.2.2.2.1; omega)
  constructor
  · intro ht
    refine qe_Drawer_isTry_14 L _ i l _ ?_
    rw [qs_Drawer_hasAll_14 L _ i l hC, Option.bind_some]
    rw [if_neg (fun q => mq_tf0.mp q hset)]
    simp only [hC.2.2.2.2.1]
    unfold mq_try at ht
    by_cases hk : D 7 0 = 5
    · rw [if_pos hk] at ht
      rw [if_pos (h5.mpr hk), if_neg (fun q => ht (h0.mp q))]
    · rw [if_neg hk] at ht
      rw [if_neg (fun q => hk (h5.mp q)), qs_bitCount L i l (by omega), Option.bind_some]
      simp only [hC.2.2.2.2.2.1]
      rw [if_pos (h8.mpr ht)]
  · intro ht
    refine qe_Drawer_isTry_14 L _ i l _ ?_
    rw [qs_Drawer_hasAll_14 L _ i l hC, Option.bind_some]
    rw [if_neg (fun q => mq_tf0.mp q hset)]
    simp only [hC.2.2.2.2.1]
    unfold mq_try at ht
    by_cases hk : D 7 0 = 5
    · rw [if_pos hk] at ht
      rw [if_pos (h5.mpr hk), if_pos (h0.mpr (Classical.not_not.mp ht))]
    · rw [if_neg hk] at ht
      rw [if_neg (fun q => hk (h5.mp q)), qs_bitCount L i l (by omega), Option.bind_some]
      simp only [hC.2.2.2.2.2.1]
      rw [if_neg (fun q => ht (h8.mp q))]
def mq_tx (len : Nat) (t : Nat → Nat) (p : Nat) : Int32 := if p < len then nI (t p) else -1
def mq_dv (x : Int32) : Int32 := if x < (48 : Int32) then -1 else if (57 : Int32) < x then -1 else x - (48 : Int32)
theorem mq_dv_in (x : Int32) : (mq_dv x = -1 ∧ mq_dv x < 0 ∧ (x < 48 ∨ ¬ x < 48 ∧ 57 < x)) ∨ ∃ d, d ≤ 9 ∧ x = nI (48 + d) ∧ mq_dv x = nI d ∧ ¬ mq_dv x < 0 ∧ ¬ x < 48 ∧ ¬ 57 < x := by
  unfold mq_dv
  rcases mq_in3 x 48 57 (n := 48) (m := 57) (by decide) (by decide) (by omega) with ⟨h1, h2⟩ | ⟨h1, h2, h3, h4⟩ | ⟨j, h1, h2, hx, h3, h4, h5, h6⟩
  · rw [if_pos h1]
    exact Or.inl ⟨rfl, by decide, Or.inl h1⟩
  · rw [if_neg h4, if_pos h1]
    exact Or.inl ⟨rfl, by decide, Or.inr ⟨h4, h1⟩⟩
  · rw [if_neg h5, if_neg h6]
    have e : x - (48 : Int32) = nI (j - 48) := by rw [hx]; exact pk_sub (b := 48) (by omega)
    exact Or.inr ⟨j - 48, by omega, by rw [hx, show 48 + (j - 48) = j by omega], e, by rw [e]; exact nI_pos (by omega), h5, h6⟩
/-- how many digits stand from a place on, no further than so many -/
def mq_dn (tx : Nat → Int32) : Nat → Nat → Nat
  | 0, _ => 0
  | m + 1, p => if mq_dv (tx p) < 0 then 0 else 1 + mq_dn tx m (p + 1)
theorem mq_dn_le (tx : Nat → Int32) : ∀ m p, mq_dn tx m p ≤ m
  | 0, _ => Nat.le_refl _
  | m + 1, p => by
    simp only [mq_dn]
    have := mq_dn_le tx m (p + 1)
    split <;> omega
theorem mq_dn_d (tx : Nat → Int32) : ∀ m p j, j < mq_dn tx m p → ¬ mq_dv (tx (p + j)) < 0
  | 0, p, j, h => absurd h (by show ¬ j < 0; omega)
  | m + 1, p, j, h => by
    simp only [mq_dn] at h
    by_cases hc : mq_dv (tx p) < 0
    · rw [if_pos hc] at h; omega
    · rw [if_neg hc] at h
      cases j with
      | zero => exact hc
      | succ j =>
        have := mq_dn_d tx m (p + 1) j (by omega)
        rw [show p + 1 + j = p + (j + 1) by omega] at this
        exact this
/-- what may follow a letter: how many digits at most, at least -/
def mq_hd (h : Int32) : Option (Nat × Nat) := if h = 98 then some (9, 2) else if h = 103 then some (1, 1) else if h = 107 then some (3, 3) else if h = 108 then some (2, 2) else if h = 110 then some (1, 1) else if h = 116 then some (8, 0) else none
def mq_se (tx : Nat → Int32) (p : Nat) : Bool × Nat := match mq_hd (tx p) with
  | none => (false, p)
  | some q => if mq_dn tx q.1 (p + 1) < q.2 then (false, p + 1 + mq_dn tx q.1 (p + 1))
    else if tx p = 103 then (if tx (p + 1 + mq_dn tx q.1 (p + 1)) = 61 ∨ tx (p + 1 + mq_dn tx q.1 (p + 1)) = 43 then (if tx (p + 1 + mq_dn tx q.1 (p + 1) + 1) = 59 then (true, p + 1 + mq_dn tx q.1 (p + 1) + 2) else (false, p + 1 + mq_dn tx q.1 (p + 1) + 1)) else (false, p + 1 + mq_dn tx q.1 (p + 1)))
    else if tx (p + 1 + mq_dn tx q.1 (p + 1)) = 59 then (true, p + 1 + mq_dn tx q.1 (p + 1) + 1) else (false, p + 1 + mq_dn tx q.1 (p + 1))
theorem mq_fe : ∀ q, q < 256 → ((-1 : Int32) - ((-1 : Int32) - nI q) = nI q ∧ ¬ (0 : Int32) ≤ (-1 : Int32) - nI q) := by decide +kernel
def mq_en (r : Bool × Nat) : Int32 := if r.1 = true then nI r.2 else (-1 : Int32) - nI r.2
/-- the class holds a text -/
def mq_CT (i : mMI) (len : Nat) (t : Nat → Nat) : Prop := i 20 1 = nI len ∧ (∀ j, j < len → i 21 j = nI (t j)) ∧ len ≤ 96
section
variable {i : mMI} {len : Nat} {t : Nat → Nat}
theorem qs_letter (L : Nat) {p : Nat} (l : mML) (h : mq_CT i len t) (hp : p < 2 ^ 31) : qf_Letters_letter L (nI p) i l = some (mq_tx len t p, i, l) := by
  refine qe_Letters_letter L _ i l _ ?_
  unfold mq_tx
  rw [h.1]
  have h96 := h.2.2
  by_cases hc : p < len
  · rw [if_neg (nI_ge hc (by omega)), if_pos hc, qs_Two_at_21 L i l (by omega), Option.bind_some]
    dsimp only
    rw [h.2.1 p hc]
  · rw [if_pos (nI_le (by omega) hp), if_neg hc]
theorem qs_digit (L : Nat) {p : Nat} (l : mML) (h : mq_CT i len t) (hp : p < 2 ^ 31) : qf_Letters_digit L (nI p) i l = some (mq_dv (mq_tx len t p), i, l) := by
  refine qe_Letters_digit L _ i l _ ?_
  rw [qs_letter L l h hp, Option.bind_some]
  dsimp only
  unfold mq_dv
  by_cases h1 : mq_tx len t p < (48 : Int32)
  · rw [if_pos h1, if_pos h1]
  · rw [if_neg h1, if_neg h1]
    by_cases h2 : (57 : Int32) < mq_tx len t p
    · rw [if_pos h2, if_pos h2]
    · rw [if_neg h2, if_neg h2]
theorem qs_digitsFrom (L : Nat) {p m : Nat} (l : mML) (h : mq_CT i len t) (hp : p < 1000) (hm : m ≤ 9) : qf_Letters_digitsFrom L (nI p) (nI m) i l = some (nI (mq_dn (mq_tx len t) m p), i, l) := by
  have loop : ∀ (f c : Nat), c + f = m → qf_Letters_digitsFrom_p5 L (nI p) (nI m) (nI c) (nI c) i l = some (nI (c + mq_dn (mq_tx len t) f (p + c)), i, l) := by
    intro f
    induction f with
    | zero =>
      intro c hc
      have hc : c = m := hc
      refine qe_Letters_digitsFrom_p5 L _ _ _ _ i l _ ?_
      rw [if_pos (nI_le (by omega) (by omega))]
      rfl
    | succ f ih =>
      intro c hc
      refine qe_Letters_digitsFrom_p5 L _ _ _ _ i l _ ?_
      rw [if_neg (nI_ge (by omega) (by omega)), nI_add, qs_digit L l h (by omega), Option.bind_some]
      simp only [mq_dn]
      by_cases hd : mq_dv (mq_tx len t (p + c)) < 0
      · rw [if_pos hd, if_pos hd]
        rfl
      · rw [if_neg hd, if_neg hd, nI_1, ih (c + 1) (by omega), show p + (c + 1) = p + c + 1 by omega, show c + 1 + mq_dn (mq_tx len t) f (p + c + 1) = c + (1 + mq_dn (mq_tx len t) f (p + c + 1)) by omega]
  refine qe_Letters_digitsFrom L _ _ i l _ ?_
  have := loop m 0 (by omega)
  rw [Nat.zero_add] at this
  exact this
theorem qs_mostDigits (L : Nat) (h : Int32) (i : mMI) (l : mML) : qf_Letters_mostDigits L h i l = some ((match mq_hd h with
  | none => (-1 : Int32)
  | some q => nI q.1), i, l) := by
  refine qe_Letters_mostDigits L h i l _ ?_
  unfold mq_hd
  by_cases h98 : h = 98
  · subst h98
    rfl
  by_cases h99 : h = 99
  · subst h99
    rfl
  by_cases h100 : h = 100
  · subst h100
    rfl
  by_cases h101 : h = 101
  · subst h101
    rfl
  by_cases h102 : h = 102
  · subst h102
    rfl
  by_cases h103 : h = 103
  · subst h103
    rfl
  by_cases h104 : h = 104
  · subst h104
    rfl
  by_cases h105 : h = 105
  · subst h105
    rfl
  by_cases h106 : h = 106
  · subst h106
    rfl
  by_cases h107 : h = 107
  · subst h107
    rfl
  by_cases h108 : h = 108
  · subst h108
    rfl
  by_cases h109 : h = 109
  · subst h109
    rfl
  by_cases h110 : h = 110
  · subst h110
    rfl
  by_cases h111 : h = 111
  · subst h111
    rfl
  by_cases h112 : h = 112
  · subst h112
    rfl
  by_cases h113 : h = 113
  · subst h113
    rfl
  by_cases h114 : h = 114
  · subst h114
    rfl
  by_cases h115 : h = 115
  · subst h115
    rfl
  by_cases h116 : h = 116
  · subst h116
    rfl
  rw [if_neg h98, if_neg h99, if_neg h100, if_neg h101, if_neg h102, if_neg h103, if_neg h104, if_neg h105, if_neg h106, if_neg h107, if_neg h108, if_neg h109, if_neg h110, if_neg h111, if_neg h112, if_neg h113, if_neg h114, if_neg h115, if_neg h116]
  rw [if_neg h98, if_neg h103, if_neg h107, if_neg h108, if_neg h110, if_neg h116]
theorem qs_leastDigits (L : Nat) (h : Int32) (i : mMI) (l : mML) {q : Nat × Nat} (hq : mq_hd h = some q) : qf_Letters_leastDigits L h i l = some (nI q.2, i, l) := by
  refine qe_Letters_leastDigits L h i l _ ?_
  by_cases h98 : h = 98
  · subst h98
    cases hq
    rfl
  by_cases h116 : h = 116
  · subst h116
    cases hq
    rfl
  rw [if_neg h98, if_neg h116, qs_mostDigits L h i l, Option.bind_some, hq]
  dsimp only
  have e : q.1 = q.2 := by
    unfold mq_hd at hq
    rw [if_neg h98] at hq
    by_cases h1 : h = 103
    · rw [if_pos h1] at hq; cases hq; rfl
    rw [if_neg h1] at hq
    by_cases h2 : h = 107
    · rw [if_pos h2] at hq; cases hq; rfl
    rw [if_neg h2] at hq
    by_cases h3 : h = 108
    · rw [if_pos h3] at hq; cases hq; rfl
    rw [if_neg h3] at hq
    by_cases h4 : h = 110
    · rw [if_pos h4] at hq; cases hq; rfl
    rw [if_neg h4, if_neg h116] at hq
    cases hq
  rw [e]
theorem mq_hd_le {h : Int32} {q : Nat × Nat} (hq : mq_hd h = some q) : q.1 ≤ 9 ∧ q.2 ≤ 9 := by
  unfold mq_hd at hq
  (repeat' split at hq) <;> cases hq <;> exact ⟨by omega, by omega⟩
theorem qs_statementEnd (L : Nat) {p : Nat} (l : mML) (h : mq_CT i len t) (hp : p ≤ 120) : qf_Letters_statementEnd L (nI p) i l = some (mq_en (mq_se (mq_tx len t) p), i, l) := by
  have p87 : ∀ q, q < 200 → qf_Letters_statementEnd_p87 L (nI q) i l = some (if mq_tx len t q = 59 then nI (q + 1) else (-1 : Int32) - nI q, i, l) := by
    intro q hq
    refine qe_Letters_statementEnd_p87 L _ i l _ ?_
    rw [qs_letter L l h (by omega), Option.bind_some]
    dsimp only
    by_cases hc : mq_tx len t q = 59
    · rw [if_pos hc, if_pos hc, nI_1]
    · rw [if_neg hc, if_neg hc]
  refine qe_Letters_statementEnd L _ i l _ ?_
  rw [qs_letter L l h (by omega), Option.bind_some]
  dsimp only
  rw [qs_mostDigits L _ i l, Option.bind_some]
  unfold mq_se
  cases hh : mq_hd (mq_tx len t p) with
  | none =>
    dsimp only
    rw [if_neg (by decide)] <;> rfl
  | some q =>
    obtain ⟨q1, q2⟩ := mq_hd_le hh
    have hd := mq_dn_le (mq_tx len t) q.1 (p + 1)
    dsimp only
    rw [if_pos (nI_pos' (by omega)), nI_1, qs_digitsFrom L l h (by omega) q1, Option.bind_some]
    dsimp only
    rw [qs_leastDigits L _ i l hh, Option.bind_some]
    dsimp only
    rw [nI_add]
    by_cases hc : mq_dn (mq_tx len t) q.1 (p + 1) < q.2
    · rw [if_neg (nI_ge hc (by omega)), if_pos hc] <;> rfl
    · rw [if_pos (nI_le (by omega) (by omega)), if_neg hc]
      by_cases hg : mq_tx len t p = 103
      · rw [if_pos hg, if_pos hg, qs_letter L l h (by omega), Option.bind_some]
        dsimp only
        rw [nI_1, p87 _ (by omega)]
        by_cases h61 : mq_tx len t (p + 1 + mq_dn (mq_tx len t) q.1 (p + 1)) = 61
        · rw [if_pos h61, if_pos (Or.inl h61)]
          by_cases h59 : mq_tx len t (p + 1 + mq_dn (mq_tx len t) q.1 (p + 1) + 1) = 59
          · rw [if_pos h59, if_pos h59] <;> rfl
          · rw [if_neg h59, if_neg h59] <;> rfl
        · rw [if_neg h61, qs_letter L l h (by omega), Option.bind_some]
          dsimp only
          by_cases h43 : mq_tx len t (p + 1 + mq_dn (mq_tx len t) q.1 (p + 1)) = 43
          · rw [if_pos h43, if_pos (Or.inr h43)]
            rw [p87 _ (by omega)]
            by_cases h59 : mq_tx len t (p + 1 + mq_dn (mq_tx len t) q.1 (p + 1) + 1) = 59
            · rw [if_pos h59, if_pos h59] <;> rfl
            · rw [if_neg h59, if_neg h59] <;> rfl
          · rw [if_neg h43, if_neg (fun z => z.elim h61 h43)] <;> rfl
      · rw [if_neg hg, if_neg hg, p87 _ (by omega)]
        by_cases h59 : mq_tx len t (p + 1 + mq_dn (mq_tx len t) q.1 (p + 1)) = 59
        · rw [if_pos h59, if_pos h59] <;> rfl
        · rw [if_neg h59, if_neg h59] <;> rfl
end
theorem mq_tx_in {len : Nat} {t : Nat → Nat} (ht : ∀ j, j < len → t j ≤ 255) {p : Nat} (h : ¬ mq_tx len t p = -1) : p < len := by
  unfold mq_tx at h
  by_cases hc : p < len
  · exact hc
  · rw [if_neg hc] at h
    exact absurd rfl h
/-- a statement is within the text, and at least two letters long -/
theorem mq_se_in {len : Nat} {t : Nat → Nat} (ht : ∀ j, j < len → t j ≤ 255) {p : Nat} (h : (mq_se (mq_tx len t) p).1 = true) : p + 2 ≤ (mq_se (mq_tx len t) p).2 ∧ (mq_se (mq_tx len t) p).2 ≤ len ∧ p < len := by
  have fin : ∀ q, mq_tx len t q = 59 → q < len := fun q hq => mq_tx_in ht (by rw [hq]; decide)
  unfold mq_se at h ⊢
  cases hh : mq_hd (mq_tx len t p) with
  | none => rw [hh] at h; cases h
  | some q =>
    rw [hh] at h
    dsimp only at h ⊢
    by_cases hc : mq_dn (mq_tx len t) q.1 (p + 1) < q.2
    · rw [if_pos hc] at h; cases h
    · rw [if_neg hc] at h ⊢
      by_cases hg : mq_tx len t p = 103
      · rw [if_pos hg] at h ⊢
        by_cases hs : mq_tx len t (p + 1 + mq_dn (mq_tx len t) q.1 (p + 1)) = 61 ∨ mq_tx len t (p + 1 + mq_dn (mq_tx len t) q.1 (p + 1)) = 43
        · rw [if_pos hs] at h ⊢
          by_cases h59 : mq_tx len t (p + 1 + mq_dn (mq_tx len t) q.1 (p + 1) + 1) = 59
          · rw [if_pos h59]
            have := fin _ h59
            dsimp only
            omega
          · rw [if_neg h59] at h; cases h
        · rw [if_neg hs] at h; cases h
      · rw [if_neg hg] at h ⊢
        by_cases h59 : mq_tx len t (p + 1 + mq_dn (mq_tx len t) q.1 (p + 1)) = 59
        · rw [if_pos h59]
          have := fin _ h59
          dsimp only
          omega
        · rw [if_neg h59] at h; cases h
theorem mq_se_le {len : Nat} {t : Nat → Nat} {p : Nat} : (mq_se (mq_tx len t) p).2 ≤ p + 12 := by
  unfold mq_se
  cases hh : mq_hd (mq_tx len t p) with
  | none => show p ≤ p + 12; omega
  | some q =>
    obtain ⟨q1, q2⟩ := mq_hd_le hh
    have hd := mq_dn_le (mq_tx len t) q.1 (p + 1)
    dsimp only
    (repeat' split) <;> dsimp only <;> omega
/-- the whole text: whether all its statements are well spelt, where not, where they begin -/
def mq_pa (tx : Nat → Int32) (len : Nat) : Nat → Nat → Bool × Nat × List Nat
  | 0, _ => (true, 0, [])
  | f + 1, p => if (mq_se tx p).1 = true then (if (mq_se tx p).2 < len then ((mq_pa tx len f (mq_se tx p).2).1, (mq_pa tx len f (mq_se tx p).2).2.1, p :: (mq_pa tx len f (mq_se tx p).2).2.2) else (true, 0, [p])) else (false, (mq_se tx p).2, [])
theorem mq_pa_s (tx : Nat → Int32) (len f p : Nat) : mq_pa tx len (f + 1) p = if (mq_se tx p).1 = true then (if (mq_se tx p).2 < len then ((mq_pa tx len f (mq_se tx p).2).1, (mq_pa tx len f (mq_se tx p).2).2.1, p :: (mq_pa tx len f (mq_se tx p).2).2.2) else (true, 0, [p])) else (false, (mq_se tx p).2, []) := rfl
def mq_pe (r : Bool × Nat × List Nat) : Int32 := if r.1 = true then (-1 : Int32) else nI r.2.1
theorem qs_firstMisspelt (L : Nat) {i : mMI} {len : Nat} {t : Nat → Nat} (l : mML) (h : mq_CT i len t) (ht : ∀ j, j < len → t j ≤ 255) : qf_Letters_firstMisspelt L i l = some (mq_pe (mq_pa (mq_tx len t) len 49 0), i, l) := by
  have h96 := h.2.2
  have loop : ∀ (f p s : Nat), s + f = 49 → 2 * s ≤ p → p ≤ 96 → qf_Letters_firstMisspelt_p4 L (nI p) (nI s) i l = some (mq_pe (mq_pa (mq_tx len t) len f p), i, l) := by
    intro f
    induction f with
    | zero =>
      intro p s hs h2 hp
      omega
    | succ f ih =>
      intro p s hs h2 hp
      have hle := mq_se_le (len := len) (t := t) (p := p)
      have hin := mq_se_in ht (p := p)
      refine qe_Letters_firstMisspelt_p4 L _ _ i l _ ?_
      rw [if_neg (show ¬ (96 : Int32) < nI s from nI_nlt (b := s) (a := 96) (by omega) (by omega)), qs_statementEnd L l h (by omega), Option.bind_some]
      dsimp only
      rw [mq_pa_s]
      generalize hse : mq_se (mq_tx len t) p = r at hle hin
      obtain ⟨b, v⟩ := r
      dsimp only at hle hin ⊢
      cases b with
      | true =>
        obtain ⟨c1, c2, c3⟩ := hin rfl
        rw [show mq_en (true, v) = nI v from rfl, if_pos (nI_pos' (by omega))]
        simp only [h.1]
        by_cases hl : v < len
        · rw [if_pos (nI_lt hl (by omega)), nI_1, ih _ (s + 1) (by omega) (by omega) (by omega)]
          rw [if_pos trivial, if_pos hl]
          rfl
        · rw [if_neg (nI_nlt (by omega) (by omega)), if_pos trivial, if_neg hl]
          rfl
      | false =>
        obtain ⟨f1, f2⟩ := mq_fe v (by omega)
        rw [show mq_en (false, v) = (-1 : Int32) - nI v from rfl, if_neg f2, f1]
        rfl
  refine qe_Letters_firstMisspelt L i l _ ?_
  exact loop 49 0 0 (by omega) (by omega) (by omega)
