/-! A drawer as a mathematical value, how each side holds it, and the small questions on it. -/
/-- a drawer: by number of the field: 0 batteries, 1 kinds, 2 figures, 3 who lies where, 4 truly good, 5 g, 6 at least, 7 the lamp's kind, 8 its needs, 9 how many tries, 10 their sets, 11 what they told -/
abbrev mq_D : Type := Nat → Nat → Nat
def mq_CD (d a1 a2 a3 a4 a5 : Nat) (i : mMI) (D : mq_D) : Prop :=
  i d 0 = nI (D 0 0) ∧ i d 4 = nI (D 4 0) ∧ i d 5 = nI (D 5 0) ∧ i d 6 = nI (D 6 0) ∧ i d 7 = nI (D 7 0) ∧ i d 8 = nI (D 8 0) ∧ i d 9 = nI (D 9 0) ∧ (∀ j, j < 8 → i a1 j = nI (D 1 j)) ∧ (∀ j, j < 8 → i a2 j = nI (D 2 j)) ∧ (∀ j, j < 8 → i a3 j = nI (D 3 j)) ∧ (∀ j, j < D 9 0 → i a4 j = nI (D 10 j)) ∧ (∀ j, j < D 9 0 → i a5 j = nI (D 11 j))
def mq_MD (i : mMI) (D : mq_D) : Prop :=
  i 42 6 = nI (D 0 0) ∧ i 42 7 = nI (D 4 0) ∧ i 42 8 = nI (D 5 0) ∧ i 42 9 = nI (D 6 0) ∧ i 42 10 = nI (D 7 0) ∧ i 42 11 = nI (D 8 0) ∧ i 42 12 = nI (D 9 0) ∧ (∀ j, j < 8 → i 44 j = nI (D 1 j)) ∧ (∀ j, j < 8 → i 45 j = nI (D 2 j)) ∧ (∀ j, j < 8 → i 46 j = nI (D 3 j)) ∧ (∀ j, j < D 9 0 → i 47 j = nI (D 10 j)) ∧ (∀ j, j < D 9 0 → i 48 j = nI (D 11 j))
def mq_Ok (D : mq_D) : Prop :=
  (2 ≤ D 0 0 ∧ D 0 0 ≤ 8) ∧ (∀ j, j < 8 → D 1 j ≤ 5) ∧ (∀ j, j < 8 → D 2 j ≤ 9) ∧ ((∀ j, j < D 0 0 → D 3 j < D 0 0) ∧ ∀ a b, a < D 0 0 → b < D 0 0 → D 3 a = D 3 b → a = b) ∧ D 4 0 < 2 ^ D 0 0 ∧ D 5 0 ≤ D 0 0 ∧ D 6 0 ≤ 1 ∧ D 7 0 ≤ 5 ∧ (2 ≤ D 8 0 ∧ D 8 0 ≤ 4) ∧ D 9 0 ≤ 10 ∧ (∀ j, j < D 9 0 → D 10 j < 256 ∧ D 11 j ≤ 9)
/-- a truth as an answer -/
def mq_tf (c : Prop) [Decidable c] : Int32 := if c then 1 else 0
theorem mq_tf0 {c : Prop} [Decidable c] : (mq_tf c = (0 : Int32)) ↔ ¬ c := by
  unfold mq_tf
  by_cases h : c
  · rw [if_pos h]; exact ⟨fun e => absurd e (by decide), fun e => absurd h e⟩
  · rw [if_neg h]; exact ⟨fun _ => h, fun _ => rfl⟩
theorem mq_tf1 {c : Prop} [Decidable c] : (mq_tf c = (1 : Int32)) ↔ c := by
  unfold mq_tf
  by_cases h : c
  · rw [if_pos h]; exact ⟨fun _ => h, fun _ => rfl⟩
  · rw [if_neg h]; exact ⟨fun e => absurd e (by decide), fun e => absurd e h⟩
theorem mq_pow {n : Nat} (h : n ≤ 8) : 2 ^ n ≤ 256 := Nat.pow_le_pow_right (by omega) h
/-- a set of n batteries -/
theorem mq_set {x : Int32} {n : Nat} (hn : n ≤ 8) : (x >>> (nI n &&& 31) = 0) ↔ ∃ s, s < 2 ^ n ∧ x = nI s := by
  have hp := mq_pow hn
  have hsh := pk_shr x (nI n &&& 31) n (mq_sl n (by omega))
  have hpos : (0 : Int) < 2 ^ n := Int.pow_pos (by omega)
  constructor
  · intro h
    rw [h] at hsh
    have h0 : x.toInt >>> n = 0 := by rw [← hsh]; rfl
    rw [Int.shiftRight_eq_div_pow] at h0
    have h1 : 0 ≤ x.toInt ∧ x.toInt < 2 ^ n := by
      constructor
      · apply Int.not_lt.mp
        intro hlt
        have := Int.ediv_neg_of_neg_of_pos hlt (b := ((2 ^ n : Nat) : Int)) (by exact_mod_cast hpos)
        omega
      · have h3 := Int.lt_mul_ediv_self_add (x := x.toInt) (k := ((2 ^ n : Nat) : Int)) (by exact_mod_cast hpos)
        rw [h0] at h3
        have : ((2 ^ n : Nat) : Int) = 2 ^ n := by simp
        omega
    refine ⟨x.toInt.toNat, ?_, ?_⟩
    · have : ((2 ^ n : Nat) : Int) = 2 ^ n := by simp
      omega
    · apply Int32.toInt_inj.mp
      have : ((2 ^ n : Nat) : Int) = 2 ^ n := by simp
      rw [nI_toInt (by omega)]
      omega
  · rintro ⟨s, hs, rfl⟩
    rw [mq_shr (by omega) (by omega), Nat.div_eq_of_lt hs]
    rfl
theorem mq_neg {x : Int32} {s : Nat} (h : x = nI s) (hs : s < 2 ^ 31) : ¬ x < 0 := by rw [h]; exact nI_pos hs
theorem qs_Drawer_has_2 (L : Nat) (x : Int32) (i : mMI) (l : mML) {D : mq_D} (hC : mq_CD 2 3 4 5 6 7 i D) (hO : mq_Ok D) : qf_Drawer_has_2 L x i l = some (mq_tf (0 ≤ x ∧ x < nI (D 0 0)), i, l) := by
  refine qe_Drawer_has_2 L x i l _ ?_
  rw [hC.1]
  unfold mq_tf
  by_cases h1 : x < 0
  · rw [if_pos h1, if_neg (fun q => by have := q.1; rw [Int32.le_iff_toInt_le] at this; rw [Int32.lt_iff_toInt_lt] at h1; omega)]
  · rw [if_neg h1]
    by_cases h2 : nI (D 0 0) ≤ x
    · rw [if_pos h2, if_neg (fun q => by have := q.2; rw [Int32.lt_iff_toInt_lt] at this; rw [Int32.le_iff_toInt_le] at h2; omega)]
    · rw [if_neg h2, if_pos ⟨by rw [Int32.lt_iff_toInt_lt] at h1; rw [Int32.le_iff_toInt_le]; omega, by rw [Int32.le_iff_toInt_le] at h2; rw [Int32.lt_iff_toInt_lt]; omega⟩]
theorem qs_Mod_isBattery (L : Nat) (x : Int32) (i : mMI) (l : mML) {D : mq_D} (hM : mq_MD i D) : qf_Mod_isBattery L x i l = some (mq_tf (0 ≤ x ∧ x < nI (D 0 0)), i, l) := by
  refine qe_Mod_isBattery L x i l _ ?_
  rw [hM.1]
  unfold mq_tf
  by_cases h1 : x < 0
  · rw [if_pos h1, if_neg (fun q => by have := q.1; rw [Int32.le_iff_toInt_le] at this; rw [Int32.lt_iff_toInt_lt] at h1; omega)]
  · rw [if_neg h1]
    by_cases h2 : nI (D 0 0) ≤ x
    · rw [if_pos h2, if_neg (fun q => by have := q.2; rw [Int32.lt_iff_toInt_lt] at this; rw [Int32.le_iff_toInt_le] at h2; omega)]
    · rw [if_neg h2, if_pos ⟨by rw [Int32.lt_iff_toInt_lt] at h1; rw [Int32.le_iff_toInt_le]; omega, by rw [Int32.le_iff_toInt_le] at h2; rw [Int32.lt_iff_toInt_lt]; omega⟩]
/-- x is a set of n batteries -/
def mq_is (n : Nat) (x : Int32) : Prop := x >>> (nI n &&& 31) = 0
theorem qs_Drawer_hasAll_2 (L : Nat) (x : Int32) (i : mMI) (l : mML) {D : mq_D} (hC : mq_CD 2 3 4 5 6 7 i D) : qf_Drawer_hasAll_2 L x i l = some (mq_tf (x >>> (nI (D 0 0) &&& 31) = 0), i, l) := by
  refine qe_Drawer_hasAll_2 L x i l _ ?_
  rw [hC.1]
  unfold mq_tf
  by_cases h : x >>> (nI (D 0 0) &&& 31) = 0
  · rw [if_pos h, if_pos h]
  · rw [if_neg h, if_neg h]
theorem qs_Mod_areBatteries (L : Nat) (x : Int32) (i : mMI) (l : mML) {D : mq_D} (hM : mq_MD i D) (hO : mq_Ok D) : qf_Mod_areBatteries L x i l = some (mq_tf (x >>> (nI (D 0 0) &&& 31) = 0), i, l) := by
  refine qe_Mod_areBatteries L x i l _ ?_
  rw [hM.1]
  unfold mq_tf
  have hp := mq_pow hO.1.2
  by_cases h : x >>> (nI (D 0 0) &&& 31) = 0
  · obtain ⟨s, hs, hx⟩ := (mq_set hO.1.2).mp h
    rw [if_neg (mq_neg hx (by omega)), if_pos h, if_pos h]
  · by_cases h1 : x < 0
    · rw [if_pos h1, if_neg h]
    · rw [if_neg h1, if_neg h, if_neg h]
/-- a set that may be tried -/
def mq_try (D : mq_D) (s : Nat) : Prop := if D 7 0 = 5 then s ≠ 0 else mq_pop s = D 8 0
theorem mq_try_dec (D : mq_D) (s : Nat) : mq_try D s ∨ ¬ mq_try D s := Classical.em _
theorem qs_Drawer_isTry_no (L : Nat) (x : Int32) (i : mMI) (l : mML) {D : mq_D} (hC : mq_CD 2 3 4 5 6 7 i D) (h : ¬ x >>> (nI (D 0 0) &&& 31) = 0) : qf_Drawer_isTry_2 L x i l = some (0, i, l) := by
  refine qe_Drawer_isTry_2 L x i l _ ?_
  rw [qs_Drawer_hasAll_2 L x i l hC, Option.bind_some]
  rw [if_pos (mq_tf0.mpr h)]
theorem qs_Drawer_isTry_2 (L : Nat) {s : Nat} (i : mMI) (l : mML) {D : mq_D} (hC : mq_CD 2 3 4 5 6 7 i D) (hO : mq_Ok D) (hs : s < 2 ^ D 0 0) : (mq_try D s → qf_Drawer_isTry_2 L (nI s) i l = some (1, i, l)) ∧ (¬ mq_try D s → qf_Drawer_isTry_2 L (nI s) i l = some (0, i, l)) := by
  have hp := mq_pow hO.1.2
  have hset : nI s >>> (nI (D 0 0) &&& 31) = 0 := (mq_set hO.1.2).mpr ⟨s, hs, rfl⟩
  have hpop := mq_pop_le s
  have h5 : nI (D 7 0) = (5 : Int32) ↔ D 7 0 = 5 := nI_eq (b := 5) (by have := hO.2.2.2.2.2.2.2.1; omega) (by omega)
  have h0 : nI s = (0 : Int32) ↔ s = 0 := nI_eq (b := 0) (by omega) (by omega)
  have h8 : nI (mq_pop s) = nI (D 8 0) ↔ mq_pop s = D 8 0 := nI_eq (by omega) (by have := hO.2.2.2.2.2.2.2.2.1; omega)
  constructor
  · intro ht
    refine qe_Drawer_isTry_2 L _ i l _ ?_
    rw [qs_Drawer_hasAll_2 L _ i l hC, Option.bind_some]
    rw [if_neg (fun q => mq_tf0.mp q hset)]
    simp only [hC.2.2.2.2.1]
    unfold mq_try at ht
    by_cases hk : D 7 0 = 5
    · rw [if_pos hk] at ht
      rw [if_pos (h5.mpr hk), if_neg (fun q => ht (h0.mp q))]
    · rw [if_neg hk] at ht
      rw [if_neg (fun q => hk (h5.mp q)), qs_bitCount L i l (by omega), Option.bind_some]
      simp only [hC.2.2.2.2.2.1]
      rw [if_pos (h8.mpr ht)]
  · intro ht
    refine qe_Drawer_isTry_2 L _ i l _ ?_
    rw [qs_Drawer_hasAll_2 L _ i l hC, Option.bind_some]
    rw [if_neg (fun q => mq_tf0.mp q hset)]
    simp only [hC.2.2.2.2.1]
    unfold mq_try at ht
    by_cases hk : D 7 0 = 5
    · rw [if_pos hk] at ht
      rw [if_pos (h5.mpr hk), if_pos (h0.mpr (Classical.not_not.mp ht))]
    · rw [if_neg hk] at ht
      rw [if_neg (fun q => hk (h5.mp q)), qs_bitCount L i l (by omega), Option.bind_some]
      simp only [hC.2.2.2.2.2.1]
      rw [if_neg (fun q => ht (h8.mp q))]
theorem qs_Mod_isTry_no (L : Nat) (x : Int32) (i : mMI) (l : mML) {D : mq_D} (hM : mq_MD i D) (hO : mq_Ok D) (h : ¬ x >>> (nI (D 0 0) &&& 31) = 0) : qf_Mod_isTry L x i l = some (0, i, l) := by
  refine qe_Mod_isTry L x i l _ ?_
  rw [qs_Mod_areBatteries L x i l hM hO, Option.bind_some]
  rw [if_pos (mq_tf0.mpr h)]
theorem qs_Mod_isTry (L : Nat) {s : Nat} (i : mMI) (l : mML) {D : mq_D} (hM : mq_MD i D) (hO : mq_Ok D) (hs : s < 2 ^ D 0 0) : (mq_try D s → qf_Mod_isTry L (nI s) i l = some (1, i, l)) ∧ (¬ mq_try D s → qf_Mod_isTry L (nI s) i l = some (0, i, l)) := by
  have hp := mq_pow hO.1.2
  have hset : nI s >>> (nI (D 0 0) &&& 31) = 0 := (mq_set hO.1.2).mpr ⟨s, hs, rfl⟩
  have hpop := mq_pop_le s
  have h5 : nI (D 7 0) = (5 : Int32) ↔ D 7 0 = 5 := nI_eq (b := 5) (by have := hO.2.2.2.2.2.2.2.1; omega) (by omega)
  have h0 : nI s = (0 : Int32) ↔ s = 0 := nI_eq (b := 0) (by omega) (by omega)
  have h8 : nI (mq_pop s) = nI (D 8 0) ↔ mq_pop s = D 8 0 := nI_eq (by omega) (by have := hO.2.2.2.2.2.2.2.2.1; omega)
  constructor
  · intro ht
    refine qe_Mod_isTry L _ i l _ ?_
    rw [qs_Mod_areBatteries L _ i l hM hO, Option.bind_some]
    rw [if_neg (fun q => mq_tf0.mp q hset)]
    simp only [hM.2.2.2.2.1]
    unfold mq_try at ht
    by_cases hk : D 7 0 = 5
    · rw [if_pos hk] at ht
      rw [if_pos (h5.mpr hk), if_neg (fun q => ht (h0.mp q))]
    · rw [if_neg hk] at ht
      rw [if_neg (fun q => hk (h5.mp q)), qs_bits L i l (by omega), Option.bind_some]
      simp only [hM.2.2.2.2.2.1]
      rw [if_pos (h8.mpr ht)]
  · intro ht
    refine qe_Mod_isTry L _ i l _ ?_
    rw [qs_Mod_areBatteries L _ i l hM hO, Option.bind_some]
    rw [if_neg (fun q => mq_tf0.mp q hset)]
    simp only [hM.2.2.2.2.1]
    unfold mq_try at ht
    by_cases hk : D 7 0 = 5
    · rw [if_pos hk] at ht
      rw [if_pos (h5.mpr hk), if_pos (h0.mpr (Classical.not_not.mp ht))]
    · rw [if_neg hk] at ht
      rw [if_neg (fun q => hk (h5.mp q)), qs_bits L i l (by omega), Option.bind_some]
      simp only [hM.2.2.2.2.2.1]
      rw [if_neg (fun q => ht (h8.mp q))]
