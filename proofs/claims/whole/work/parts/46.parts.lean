/-! Parts of whole numbers: the common divisor, in at most 200 steps or in as many as it takes. -/
theorem mq_l0 {b : Nat} (hb : b < 2 ^ 63) : (lN b = (0 : Int64)) ↔ b = 0 := pk_lEQ (b := 0) hb (by omega)
theorem mq_c0 {b : Nat} (hb : b < 2 ^ 63) : (lg_cmp (lN b) (0 : Int64) = 0) ↔ b = 0 := (lg_cmp_eq _ _).trans (mq_l0 hb)
theorem mq_cl {a b : Nat} (ha : a < 2 ^ 63) (hb : b < 2 ^ 63) : (lg_cmp (lN a) (lN b) = 0) ↔ a = b := (lg_cmp_eq _ _).trans (pk_lEQ ha hb)
theorem mq_gcd (x y : Nat) : Nat.gcd y (x % y) = Nat.gcd x y := by
  rw [Nat.gcd_comm y, ← Nat.gcd_rec, Nat.gcd_comm]
theorem qs_divisor (L : Nat) (i : mMI) (l : mML) : ∀ (n x y : Nat), y < n → x < 2 ^ 63 → y < 2 ^ 63 → qf_Mod_divisor_p6 L (lN x) (lN y) i l = some (lN (Nat.gcd x y), i, l) := by
  intro n
  induction n with
  | zero => intro x y h; exact absurd h (by omega)
  | succ n ih =>
    intro x y hn hx hy
    refine qe_Mod_divisor_p6 L _ _ i l _ ?_
    by_cases h : y = 0
    · rw [if_pos ((mq_c0 hy).mpr h), h, Nat.gcd_zero_right]
    · rw [if_neg (fun q => h ((mq_c0 hy).mp q)), if_neg (fun q => h ((mq_l0 hy).mp q)), pk_lRem hx (by omega) hy]
      have hm := Nat.mod_lt x (show 0 < y by omega)
      rw [ih y (x % y) (by omega) hy (by omega), mq_gcd]
theorem qs_common (L : Nat) (i : mMI) (l : mML) : ∀ (n k x y : Nat), y ≤ x → x * y < 2 ^ n → n + k ≤ 199 → x < 2 ^ 63 → qf_Two_commonDivisor_p9 L (lN x) (lN y) (nI k) i l = some (lN (Nat.gcd x y), i, l) := by
  intro n
  induction n with
  | zero =>
    intro k x y hxy hp hk hx
    have h0 : y = 0 := by
      by_cases h : y = 0
      · exact h
      · have : 1 * 1 ≤ x * y := Nat.mul_le_mul (by omega) (by omega)
        omega
    refine qe_Two_commonDivisor_p9 L _ _ _ i l _ ?_
    rw [if_neg (show ¬ (200 : Int32) ≤ nI k from nI_ge (a := k) (b := 200) (by omega) (by omega)), if_pos ((mq_c0 (by omega)).mpr h0), h0, Nat.gcd_zero_right]
  | succ n ih =>
    intro k x y hxy hp hk hx
    refine qe_Two_commonDivisor_p9 L _ _ _ i l _ ?_
    rw [if_neg (show ¬ (200 : Int32) ≤ nI k from nI_ge (a := k) (b := 200) (by omega) (by omega))]
    by_cases h : y = 0
    · rw [if_pos ((mq_c0 (by omega)).mpr h), h, Nat.gcd_zero_right]
    · have hy : y < 2 ^ 63 := by omega
      have hm := Nat.mod_lt x (show 0 < y by omega)
      have hh : 2 * (x % y) ≤ x := by
        have h1 := Nat.div_add_mod x y
        have h2 : 1 ≤ x / y := (Nat.one_le_div_iff (by omega)).mpr hxy
        have h3 : y * 1 ≤ y * (x / y) := Nat.mul_le_mul_left y h2
        omega
      have hprod : y * (x % y) < 2 ^ n := by
        have h1 : y * (2 * (x % y)) ≤ y * x := Nat.mul_le_mul_left y hh
        have h2 : y * (2 * (x % y)) = 2 * (y * (x % y)) := Nat.mul_left_comm ..
        have h3 : y * x = x * y := Nat.mul_comm ..
        have h4 : 2 ^ (n + 1) = 2 * 2 ^ n := by rw [Nat.pow_succ, Nat.mul_comm]
        omega
      rw [if_neg (fun q => h ((mq_c0 hy).mp q)), if_neg (fun q => h ((mq_l0 hy).mp q)), pk_lRem hx (by omega) hy, nI_1]
      rw [ih (k + 1) y (x % y) (by omega) hprod (by omega) hy, mq_gcd]
theorem qs_commonDivisor (L : Nat) {x y : Nat} (i : mMI) (l : mML) (hx : x < 2 ^ 62) (hy : y < 2 ^ 62) : qf_Two_commonDivisor L (lN x) (lN y) i l = some (lN (Nat.gcd x y), i, l) := by
  refine qe_Two_commonDivisor L _ _ i l _ ?_
  have hp : ∀ a b, a < 2 ^ 62 → b < 2 ^ 62 → a * b < 2 ^ 124 := by
    intro a b ha hb
    by_cases h : b = 0
    · rw [h, Nat.mul_zero]; omega
    · have h1 : a * b < 2 ^ 62 * b := Nat.mul_lt_mul_of_pos_right ha (by omega)
      have h2 : 2 ^ 62 * b ≤ 2 ^ 62 * 2 ^ 62 := Nat.mul_le_mul_left _ (by omega)
      omega
  by_cases h : y ≤ x
  · exact qs_common L i l 124 0 x y h (hp x y hx hy) (by omega) (by omega)
  · refine qe_Two_commonDivisor_p9 L _ _ _ i l _ ?_
    rw [if_neg (by decide), if_neg (fun q => by have := (mq_c0 (show y < 2 ^ 63 by omega)).mp q; omega), if_neg (fun q => by have := (mq_l0 (show y < 2 ^ 63 by omega)).mp q; omega), pk_lRem (by omega) (by omega) (by omega), Nat.mod_eq_of_lt (by omega)]
    rw [show (0 : Int32) + 1 = nI 1 from rfl, qs_common L i l 124 1 y x (by omega) (hp y x hy hx) (by omega) (by omega), Nat.gcd_comm]
def mq_part (a b : Nat) (x : Int32) : Int64 := if b = 0 then x.toInt64 else if x = 0 then lN (a / Nat.gcd a b) else lN (b / Nat.gcd a b)
theorem mq_gcd_pos {a b : Nat} (h : b ≠ 0) : Nat.gcd a b ≠ 0 := fun q => h (Nat.eq_zero_of_gcd_eq_zero_right q)
theorem mq_gcd_lt {a b : Nat} (h : b ≠ 0) (hb : b < 2 ^ 62) : Nat.gcd a b < 2 ^ 62 := Nat.lt_of_le_of_lt (Nat.gcd_le_right a (by omega)) hb
theorem qs_Two_partOf (L : Nat) {a b : Nat} (x : Int32) (i : mMI) (l : mML) (ha : a < 2 ^ 62) (hb : b < 2 ^ 62) : qf_Two_partOf L (lN a) (lN b) x i l = some (mq_part a b x, i, l) := by
  refine qe_Two_partOf L _ _ x i l _ ?_
  rw [qs_commonDivisor L i l ha hb, Option.bind_some]
  unfold mq_part
  by_cases h : b = 0
  · rw [if_pos ((mq_c0 (by omega)).mpr h), if_pos h]
  · have hg := mq_gcd_pos (a := a) h
    have hgl := mq_gcd_lt (a := a) h hb
    rw [if_neg (fun q => h ((mq_c0 (by omega)).mp q)), if_neg h]
    dsimp only
    rw [if_neg (fun q => hg ((mq_c0 (by omega)).mp q))]
    by_cases h0 : x = 0
    · rw [if_pos h0, if_neg (fun q => hg ((mq_l0 (by omega)).mp q)), pk_lDiv (by omega) (by omega) (by omega), if_pos h0]
    · rw [if_neg h0, if_neg (fun q => hg ((mq_l0 (by omega)).mp q)), pk_lDiv (by omega) (by omega) (by omega), if_neg h0]
theorem qs_Mod_partOf (L : Nat) {a b : Nat} (x : Int32) (i : mMI) (l : mML) (ha : a < 2 ^ 62) (hb : b < 2 ^ 62) : qf_Mod_partOf L (lN a) (lN b) x i l = some (mq_part a b x, i, l) := by
  have hd : qf_Mod_divisor L (lN a) (lN b) i l = some (lN (Nat.gcd a b), i, l) := qe_Mod_divisor L _ _ i l _ (qs_divisor L i l (b + 1) a b (by omega) (by omega) (by omega))
  refine qe_Mod_partOf L _ _ x i l _ ?_
  rw [hd, Option.bind_some]
  dsimp only
  unfold mq_part
  by_cases h : b = 0
  · rw [if_pos ((mq_c0 (by omega)).mpr h), if_pos h]
  · have hg := mq_gcd_pos (a := a) h
    have hgl := mq_gcd_lt (a := a) h hb
    rw [if_neg (fun q => h ((mq_c0 (by omega)).mp q)), if_neg h]
    by_cases h0 : x = 0
    · rw [if_pos h0, if_neg (fun q => hg ((mq_l0 (by omega)).mp q)), pk_lDiv (by omega) (by omega) (by omega), if_pos h0]
    · rw [if_neg h0, Option.bind_some]
      dsimp only
      rw [if_neg (fun q => hg ((mq_l0 (by omega)).mp q)), pk_lDiv (by omega) (by omega) (by omega), if_neg h0]
