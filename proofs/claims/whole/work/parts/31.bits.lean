/-! Numbers and bits; the batteries' bits; what a lamp tells. -/
theorem mq_lit (n : Nat) : (OfNat.ofNat n : Int32) = nI n := rfl
theorem mq_and (a b : Nat) : nI a &&& nI b = nI (a &&& b) := by
  apply Int32.toBitVec_inj.mp
  rw [Int32.toBitVec_and]
  show BitVec.ofNat 32 a &&& BitVec.ofNat 32 b = BitVec.ofNat 32 (a &&& b)
  exact (BitVec.ofNat_and ..).symm
theorem mq_or (a b : Nat) : nI a ||| nI b = nI (a ||| b) := by
  apply Int32.toBitVec_inj.mp
  rw [Int32.toBitVec_or]
  show BitVec.ofNat 32 a ||| BitVec.ofNat 32 b = BitVec.ofNat 32 (a ||| b)
  exact (BitVec.ofNat_or ..).symm
theorem mq_xor (a b : Nat) : nI a ^^^ nI b = nI (a ^^^ b) := by
  apply Int32.toBitVec_inj.mp
  rw [Int32.toBitVec_xor]
  show BitVec.ofNat 32 a ^^^ BitVec.ofNat 32 b = BitVec.ofNat 32 (a ^^^ b)
  exact (BitVec.ofNat_xor ..).symm
theorem mq_sl : ∀ n, n < 32 → ((nI n &&& 31).toBitVec.smod 32).toNat = n := by decide +kernel
theorem mq_shr {s k : Nat} (hs : s < 2 ^ 31) (hk : k < 32) : nI s >>> (nI k &&& 31) = nI (s / 2 ^ k) := pk_shrN hs _ k (mq_sl k hk)
theorem mq_bit {s k : Nat} (hs : s < 2 ^ 31) (hk : k < 32) : (nI s >>> (nI k &&& 31)) &&& 1 = nI (s / 2 ^ k % 2) := by
  rw [mq_shr hs hk]
  exact pk_andN (Nat.lt_of_le_of_lt (Nat.div_le_self _ _) (by omega)) 1 rfl
theorem mq_shl {k : Nat} (hk : k < 31) : (1 : Int32) <<< (nI k &&& 31) = nI (2 ^ k) := by
  have h : 1 * 2 ^ k < 2 ^ 32 := by
    rw [Nat.one_mul]
    exact Nat.pow_lt_pow_right (by omega) (by omega)
  have := pk_shlN (n := 1) (nI k &&& 31) k (mq_sl k (by omega)) h
  rw [Nat.one_mul] at this
  exact this
def mq_ps (s : Nat) : Nat → Nat
  | 0 => 0
  | k + 1 => mq_ps s k + s / 2 ^ k % 2
/-- how many bits -/
def mq_pop (s : Nat) : Nat := mq_ps s 31
theorem mq_ps_le (s k : Nat) : mq_ps s k ≤ k := by
  induction k with
  | zero => exact Nat.le_refl _
  | succ k ih =>
    simp only [mq_ps]
    omega
theorem mq_pop_le (s : Nat) : mq_pop s ≤ 31 := mq_ps_le s 31
def mq_bcE (x0 : Int32) : Int32 := ((((((((x0 - (((Int32.toUInt32 x0 >>> (Int32.toUInt32 (1 : Int32) &&& Int32.toUInt32 31)).toInt32) &&& (1431655765 : Int32))) &&& (858993459 : Int32)) + (((Int32.toUInt32 (x0 - (((Int32.toUInt32 x0 >>> (Int32.toUInt32 (1 : Int32) &&& Int32.toUInt32 31)).toInt32) &&& (1431655765 : Int32))) >>> (Int32.toUInt32 (2 : Int32) &&& Int32.toUInt32 31)).toInt32) &&& (858993459 : Int32))) + ((Int32.toUInt32 (((x0 - (((Int32.toUInt32 x0 >>> (Int32.toUInt32 (1 : Int32) &&& Int32.toUInt32 31)).toInt32) &&& (1431655765 : Int32))) &&& (858993459 : Int32)) + (((Int32.toUInt32 (x0 - (((Int32.toUInt32 x0 >>> (Int32.toUInt32 (1 : Int32) &&& Int32.toUInt32 31)).toInt32) &&& (1431655765 : Int32))) >>> (Int32.toUInt32 (2 : Int32) &&& Int32.toUInt32 31)).toInt32) &&& (858993459 : Int32))) >>> (Int32.toUInt32 (4 : Int32) &&& Int32.toUInt32 31)).toInt32)) &&& (252645135 : Int32)) + ((Int32.toUInt32 (((((x0 - (((Int32.toUInt32 x0 >>> (Int32.toUInt32 (1 : Int32) &&& Int32.toUInt32 31)).toInt32) &&& (1431655765 : Int32))) &&& (858993459 : Int32)) + (((Int32.toUInt32 (x0 - (((Int32.toUInt32 x0 >>> (Int32.toUInt32 (1 : Int32) &&& Int32.toUInt32 31)).toInt32) &&& (1431655765 : Int32))) >>> (Int32.toUInt32 (2 : Int32) &&& Int32.toUInt32 31)).toInt32) &&& (858993459 : Int32))) + ((Int32.toUInt32 (((x0 - (((Int32.toUInt32 x0 >>> (Int32.toUInt32 (1 : Int32) &&& Int32.toUInt32 31)).toInt32) &&& (1431655765 : Int32))) &&& (858993459 : Int32)) + (((Int32.toUInt32 (x0 - (((Int32.toUInt32 x0 >>> (Int32.toUInt32 (1 : Int32) &&& Int32.toUInt32 31)).toInt32) &&& (1431655765 : Int32))) >>> (Int32.toUInt32 (2 : Int32) &&& Int32.toUInt32 31)).toInt32) &&& (858993459 : Int32))) >>> (Int32.toUInt32 (4 : Int32) &&& Int32.toUInt32 31)).toInt32)) &&& (252645135 : Int32)) >>> (Int32.toUInt32 (8 : Int32) &&& Int32.toUInt32 31)).toInt32)) + ((Int32.toUInt32 ((((((x0 - (((Int32.toUInt32 x0 >>> (Int32.toUInt32 (1 : Int32) &&& Int32.toUInt32 31)).toInt32) &&& (1431655765 : Int32))) &&& (858993459 : Int32)) + (((Int32.toUInt32 (x0 - (((Int32.toUInt32 x0 >>> (Int32.toUInt32 (1 : Int32) &&& Int32.toUInt32 31)).toInt32) &&& (1431655765 : Int32))) >>> (Int32.toUInt32 (2 : Int32) &&& Int32.toUInt32 31)).toInt32) &&& (858993459 : Int32))) + ((Int32.toUInt32 (((x0 - (((Int32.toUInt32 x0 >>> (Int32.toUInt32 (1 : Int32) &&& Int32.toUInt32 31)).toInt32) &&& (1431655765 : Int32))) &&& (858993459 : Int32)) + (((Int32.toUInt32 (x0 - (((Int32.toUInt32 x0 >>> (Int32.toUInt32 (1 : Int32) &&& Int32.toUInt32 31)).toInt32) &&& (1431655765 : Int32))) >>> (Int32.toUInt32 (2 : Int32) &&& Int32.toUInt32 31)).toInt32) &&& (858993459 : Int32))) >>> (Int32.toUInt32 (4 : Int32) &&& Int32.toUInt32 31)).toInt32)) &&& (252645135 : Int32)) + ((Int32.toUInt32 (((((x0 - (((Int32.toUInt32 x0 >>> (Int32.toUInt32 (1 : Int32) &&& Int32.toUInt32 31)).toInt32) &&& (1431655765 : Int32))) &&& (858993459 : Int32)) + (((Int32.toUInt32 (x0 - (((Int32.toUInt32 x0 >>> (Int32.toUInt32 (1 : Int32) &&& Int32.toUInt32 31)).toInt32) &&& (1431655765 : Int32))) >>> (Int32.toUInt32 (2 : Int32) &&& Int32.toUInt32 31)).toInt32) &&& (858993459 : Int32))) + ((Int32.toUInt32 (((x0 - (((Int32.toUInt32 x0 >>> (Int32.toUInt32 (1 : Int32) &&& Int32.toUInt32 31)).toInt32) &&& (1431655765 : Int32))) &&& (858993459 : Int32)) + (((Int32.toUInt32 (x0 - (((Int32.toUInt32 x0 >>> (Int32.toUInt32 (1 : Int32) &&& Int32.toUInt32 31)).toInt32) &&& (1431655765 : Int32))) >>> (Int32.toUInt32 (2 : Int32) &&& Int32.toUInt32 31)).toInt32) &&& (858993459 : Int32))) >>> (Int32.toUInt32 (4 : Int32) &&& Int32.toUInt32 31)).toInt32)) &&& (252645135 : Int32)) >>> (Int32.toUInt32 (8 : Int32) &&& Int32.toUInt32 31)).toInt32)) >>> (Int32.toUInt32 (16 : Int32) &&& Int32.toUInt32 31)).toInt32)) &&& (63 : Int32))
theorem mq_bc : ∀ s, s < 1024 → mq_bcE (nI s) = nI (mq_pop s) := by decide +kernel
theorem qs_bitCount (L : Nat) {s : Nat} (i : mMI) (l : mML) (h : s < 1024) : qf_Int_bitCount L (nI s) i l = some (nI (mq_pop s), i, l) := by
  refine qe_Int_bitCount L (nI s) i l _ ?_
  show some (mq_bcE (nI s), i, l) = _
  rw [mq_bc s h]
theorem qs_bits (L : Nat) {s : Nat} (i : mMI) (l : mML) (h : s < 2 ^ 31) : qf_Mod_bits L (nI s) i l = some (nI (mq_pop s), i, l) := by
  have loop : ∀ (m k : Nat), k + m = 31 → qf_Mod_bits_p4 L (nI s) (nI (mq_ps s k)) (nI k) i l = some (nI (mq_pop s), i, l) := by
    intro m
    induction m with
    | zero =>
      intro k hk
      have hk : k = 31 := hk
      subst hk
      refine qe_Mod_bits_p4 L _ _ _ i l _ ?_
      rw [if_pos (show (31 : Int32) ≤ nI 31 from nI_le (Nat.le_refl _) (by omega))]
      rfl
    | succ m ih =>
      intro k hk
      refine qe_Mod_bits_p4 L _ _ _ i l _ ?_
      rw [if_neg (show ¬ (31 : Int32) ≤ nI k from nI_ge (a := k) (b := 31) (by omega) (by omega)), mq_bit h (by omega), nI_add, nI_1]
      exact ih (k + 1) (by omega)
  refine qe_Mod_bits L _ i l _ ?_
  exact loop 31 0 rfl
/-- what a lamp of a kind tells of a set, in a world -/
def mq_tells (k s w : Nat) : Nat := if k = 1 then mq_pop (s &&& w) else if k = 2 then (if mq_pop (s &&& w) + 1 < mq_pop s then 0 else 1) else if k = 3 then mq_pop (s &&& w) % 2 else if k = 4 then (if 2 < mq_pop (s &&& w) then 2 else mq_pop (s &&& w)) else if mq_pop (s &&& w) = mq_pop s then 1 else 0
theorem mq_lt_m1 {a b : Nat} (ha : a ≤ 31) (hb : b ≤ 31) : nI a < nI b - 1 ↔ a + 1 < b := by
  have e : (nI b - 1).toInt = (b : Int) - 1 := pk_sub_toInt (a := b) (b := 1) (by omega) (by omega)
  rw [Int32.lt_iff_toInt_lt, nI_toInt (by omega), e]
  omega
theorem qs_Drawer_tells_2 (L : Nat) {k s w : Nat} (i : mMI) (l : mML) (hk : i 2 7 = nI k) (hk5 : k ≤ 5) (hs : s < 1024) : qf_Drawer_tells_2 L (nI s) (nI w) i l = some (nI (mq_tells k s w), i, l) := by
  have hsw : s &&& w < 1024 := Nat.lt_of_le_of_lt Nat.and_le_left hs
  have p1 := mq_pop_le s
  have p2 := mq_pop_le (s &&& w)
  refine qe_Drawer_tells_2 L _ _ i l _ ?_
  rw [qs_bitCount L i l hs, Option.bind_some, mq_and, qs_bitCount L i l hsw, Option.bind_some]
  simp only [hk]
  have e1 : nI k = (1 : Int32) ↔ k = 1 := nI_eq (b := 1) (by omega) (by omega)
  have e2 : nI k = (2 : Int32) ↔ k = 2 := nI_eq (b := 2) (by omega) (by omega)
  have e3 : nI k = (3 : Int32) ↔ k = 3 := nI_eq (b := 3) (by omega) (by omega)
  have e4 : nI k = (4 : Int32) ↔ k = 4 := nI_eq (b := 4) (by omega) (by omega)
  unfold mq_tells
  by_cases h1 : k = 1
  · rw [if_pos (e1.mpr h1), if_pos h1]
  rw [if_neg (fun q => h1 (e1.mp q)), if_neg h1]
  by_cases h2 : k = 2
  · rw [if_pos (e2.mpr h2), if_pos h2]
    by_cases h3 : mq_pop (s &&& w) + 1 < mq_pop s
    · rw [if_pos h3, if_pos ((mq_lt_m1 p2 p1).mpr h3)]
      rfl
    · rw [if_neg h3, if_neg (fun q => h3 ((mq_lt_m1 p2 p1).mp q))]
      rfl
  rw [if_neg (fun q => h2 (e2.mp q)), if_neg h2]
  by_cases h3 : k = 3
  · have hr : nI (mq_pop (s &&& w)) - nI (mq_pop (s &&& w)) / (2 : Int32) * (2 : Int32) = nI (mq_pop (s &&& w) % 2) := pk_rem (d := 2) (by omega) (by omega) (by omega)
    rw [if_pos (e3.mpr h3), if_pos h3, if_neg (show ¬ (2 : Int32) = 0 by decide), hr]
  rw [if_neg (fun q => h3 (e3.mp q)), if_neg h3]
  by_cases h4 : k = 4
  · rw [if_pos (e4.mpr h4), if_pos h4]
    by_cases h5 : 2 < mq_pop (s &&& w)
    · rw [if_pos h5, if_pos (show (2 : Int32) < nI (mq_pop (s &&& w)) from (nI_ltI (a := 2) (by omega) (by omega)).mpr h5)]
      rfl
    · rw [if_neg h5, if_neg (show ¬ (2 : Int32) < nI (mq_pop (s &&& w)) from fun q => h5 ((nI_ltI (a := 2) (by omega) (by omega)).mp q))]
  rw [if_neg (fun q => h4 (e4.mp q)), if_neg h4]
  by_cases h5 : mq_pop (s &&& w) = mq_pop s
  · rw [if_pos h5, if_pos (by rw [h5])]
    rfl
  · rw [if_neg h5, if_neg (fun q => h5 ((nI_eq (by omega) (by omega)).mp q))]
    rfl
theorem qs_Mod_tells (L : Nat) {k s w : Nat} (i : mMI) (l : mML) (hk : i 42 10 = nI k) (hk5 : k ≤ 5) (hs : s < 1024) : qf_Mod_tells L (nI s) (nI w) i l = some (nI (mq_tells k s w), i, l) := by
  have hsw : s &&& w < 1024 := Nat.lt_of_le_of_lt Nat.and_le_left hs
  have p1 := mq_pop_le s
  have p2 := mq_pop_le (s &&& w)
  refine qe_Mod_tells L _ _ i l _ ?_
  rw [mq_and, qs_bits L i l (by omega), Option.bind_some, qs_bits L i l (by omega), Option.bind_some]
  simp only [hk]
  have e1 : nI k = (1 : Int32) ↔ k = 1 := nI_eq (b := 1) (by omega) (by omega)
  have e2 : nI k = (2 : Int32) ↔ k = 2 := nI_eq (b := 2) (by omega) (by omega)
  have e3 : nI k = (3 : Int32) ↔ k = 3 := nI_eq (b := 3) (by omega) (by omega)
  have e4 : nI k = (4 : Int32) ↔ k = 4 := nI_eq (b := 4) (by omega) (by omega)
  unfold mq_tells
  by_cases h1 : k = 1
  · rw [if_pos (e1.mpr h1), if_pos h1]
  rw [if_neg (fun q => h1 (e1.mp q)), if_neg h1]
  by_cases h2 : k = 2
  · rw [if_pos (e2.mpr h2), if_pos h2]
    by_cases h3 : mq_pop (s &&& w) + 1 < mq_pop s
    · rw [if_pos h3, if_pos ((mq_lt_m1 p2 p1).mpr h3)]
      rfl
    · rw [if_neg h3, if_neg (fun q => h3 ((mq_lt_m1 p2 p1).mp q))]
      rfl
  rw [if_neg (fun q => h2 (e2.mp q)), if_neg h2]
  by_cases h3 : k = 3
  · have hr : nI (mq_pop (s &&& w)) - nI (mq_pop (s &&& w)) / (2 : Int32) * (2 : Int32) = nI (mq_pop (s &&& w) % 2) := pk_rem (d := 2) (by omega) (by omega) (by omega)
    rw [if_pos (e3.mpr h3), if_pos h3, if_neg (show ¬ (2 : Int32) = 0 by decide), hr]
  rw [if_neg (fun q => h3 (e3.mp q)), if_neg h3]
  by_cases h4 : k = 4
  · rw [if_pos (e4.mpr h4), if_pos h4]
    by_cases h5 : 2 < mq_pop (s &&& w)
    · rw [if_pos h5, if_neg (fun q => by have := (nI_leI (b := 2) (by omega) (by omega)).mp q; omega)]
      rfl
    · rw [if_neg h5, if_pos (show nI (mq_pop (s &&& w)) ≤ (2 : Int32) from nI_le (b := 2) (by omega) (by omega))]
  rw [if_neg (fun q => h4 (e4.mp q)), if_neg h4]
  by_cases h5 : mq_pop (s &&& w) = mq_pop s
  · rw [if_pos h5, if_pos (by rw [h5])]
    rfl
  · rw [if_neg h5, if_neg (fun q => h5 ((nI_eq (by omega) (by omega)).mp q))]
    rfl
