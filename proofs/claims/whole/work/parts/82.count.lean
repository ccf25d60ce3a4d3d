/-! Sixty-four bits: counting them. -/
def mq_ct (P : Nat → Bool) : Nat → Nat
  | 0 => 0
  | m + 1 => mq_ct P m + (if P m = true then 1 else 0)
theorem mq_ct_le (P : Nat → Bool) (m : Nat) : mq_ct P m ≤ m := by
  induction m with
  | zero => exact Nat.le_refl _
  | succ m ih =>
    simp only [mq_ct]
    split <;> omega
theorem mq_ct_congr {P Q : Nat → Bool} {m : Nat} (h : ∀ j, j < m → P j = Q j) : mq_ct P m = mq_ct Q m := by
  induction m with
  | zero => rfl
  | succ m ih =>
    simp only [mq_ct]
    rw [ih fun j hj => h j (by omega), h m (by omega)]
theorem mq_ct_sub {P Q R : Nat → Bool} {m : Nat} (h : ∀ j, j < m → P j = true → Q j = true ∨ R j = true) : mq_ct P m ≤ mq_ct Q m + mq_ct R m := by
  induction m with
  | zero => exact Nat.le_refl _
  | succ m ih =>
    have ih := ih fun j hj => h j (by omega)
    have hm := h m (by omega)
    simp only [mq_ct]
    by_cases hp : P m = true
    · rw [if_pos hp]
      rcases hm hp with h1 | h1 <;> rw [if_pos h1] <;> split <;> omega
    · rw [if_neg hp]
      omega
theorem mq_ct_none {P : Nat → Bool} {m : Nat} (h : ∀ j, j < m → P j = false) : mq_ct P m = 0 := by
  induction m with
  | zero => rfl
  | succ m ih =>
    simp only [mq_ct]
    rw [ih fun j hj => h j (by omega), h m (by omega)]
    rfl
theorem mq_ct_mono {P Q : Nat → Bool} {m : Nat} (h : ∀ j, j < m → P j = true → Q j = true) : mq_ct P m ≤ mq_ct Q m := by
  have := mq_ct_sub (P := P) (Q := Q) (R := fun _ => false) (m := m) fun j hj hp => Or.inl (h j hj hp)
  rw [mq_ct_none (fun _ _ => rfl)] at this
  exact this
theorem mq_ct_0 {P : Nat → Bool} {m : Nat} (h : mq_ct P m = 0) : ∀ j, j < m → P j = false := by
  induction m with
  | zero => intro j hj; omega
  | succ m ih =>
    simp only [mq_ct] at h
    intro j hj
    by_cases e : j = m
    · subst e
      cases hp : P j
      · rfl
      · rw [hp] at h; simp at h
    · exact ih (by omega) j (by omega)
theorem mq_ct_rm {P Q : Nat → Bool} {m k : Nat} (hk : k < m) (hp : P k = true) (hq : Q k = false) (h : ∀ j, j < m → j ≠ k → P j = Q j) : mq_ct P m = mq_ct Q m + 1 := by
  induction m with
  | zero => omega
  | succ m ih =>
    simp only [mq_ct]
    by_cases e : k = m
    · subst e
      rw [mq_ct_congr (P := P) (Q := Q) fun j hj => h j (by omega) (by omega), if_pos hp, hq]
      rfl
    · rw [ih (by omega) fun j hj => h j (by omega), h m (by omega) (by omega)]
      omega
theorem mq_ct_shift (P : Nat → Bool) (a b : Nat) : mq_ct P (a + b) = mq_ct P a + mq_ct (fun j => P (a + j)) b := by
  induction b with
  | zero => rfl
  | succ b ih =>
    show mq_ct P (a + b) + (if P (a + b) = true then 1 else 0) = mq_ct P a + (mq_ct (fun j => P (a + j)) b + (if P (a + b) = true then 1 else 0))
    omega
theorem mq_ct_add {P Q R : Nat → Bool} {m : Nat} (h : ∀ j, j < m → P j = (Q j || R j) ∧ ¬ (Q j = true ∧ R j = true)) : mq_ct P m = mq_ct Q m + mq_ct R m := by
  induction m with
  | zero => rfl
  | succ m ih =>
    simp only [mq_ct]
    obtain ⟨h1, h2⟩ := h m (by omega)
    rw [ih fun j hj => h j (by omega), h1]
    cases hq : Q m <;> cases hr : R m
    · rfl
    · simp; omega
    · simp; omega
    · exact absurd ⟨hq, hr⟩ h2
/-- a byte's bits -/
def mq_p8 (b : Nat) : Nat := mq_ct (fun j => b.testBit j) 8
/-- a mask of so many bytes -/
def mq_mk (c : Nat) : Nat → Nat
  | 0 => 0
  | k + 1 => c + 256 * mq_mk c k
def mq_T : Nat → Nat → Nat
  | 0, _ => 0
  | k + 1, n => mq_p8 (n % 256) + 256 * mq_T k (n / 256)
def mq_Sg : Nat → Nat → Nat
  | 0, _ => 0
  | k + 1, n => mq_p8 (n % 256) + mq_Sg k (n / 256)
theorem mq_p8_le (b : Nat) : mq_p8 b ≤ 8 := mq_ct_le _ 8
theorem mq_Sg_ct : ∀ k n, mq_Sg k n = mq_ct (fun j => n.testBit j) (8 * k)
  | 0, _ => rfl
  | k + 1, n => by
    show mq_p8 (n % 256) + mq_Sg k (n / 256) = _
    rw [mq_Sg_ct k (n / 256), show 8 * (k + 1) = 8 + 8 * k by omega, mq_ct_shift]
    congr 1
    · unfold mq_p8
      refine mq_ct_congr fun j hj => ?_
      show (n % 2 ^ 8).testBit j = _
      rw [Nat.testBit_mod_two_pow]
      simp [hj]
    · refine mq_ct_congr fun j hj => ?_
      show (n / 2 ^ 8).testBit j = _
      rw [Nat.testBit_div_two_pow]
      congr 1
      omega
theorem mq_and_split (x y : Nat) : x &&& y = ((x % 256) &&& (y % 256)) + 256 * ((x / 256) &&& (y / 256)) := by
  have h1 : (x &&& y) % 2 ^ 8 = (x % 2 ^ 8) &&& (y % 2 ^ 8) := Nat.and_mod_two_pow
  have h2 : (x &&& y) / 2 ^ 8 = (x / 2 ^ 8) &&& (y / 2 ^ 8) := Nat.and_div_two_pow
  have h3 := Nat.mod_add_div (x &&& y) (2 ^ 8)
  rw [h1, h2] at h3
  exact h3.symm
theorem mq_mk_s {c k : Nat} (hc : c < 256) : mq_mk c (k + 1) % 256 = c ∧ mq_mk c (k + 1) / 256 = mq_mk c k := by
  simp only [mq_mk]
  omega
def mq_A (k n : Nat) : Nat := n - ((n / 2) &&& mq_mk 85 k)
def mq_B (k x : Nat) : Nat := (x &&& mq_mk 51 k) + ((x / 4) &&& mq_mk 51 k)
def mq_C (k x : Nat) : Nat := (x + x / 16) &&& mq_mk 15 k
theorem mq_f1 : ∀ b, b < 256 → ((b / 2 + 128 * 0) &&& 85 = b / 2 &&& 85 ∧ (b / 2 + 128 * 1) &&& 85 = b / 2 &&& 85) ∧ b / 2 &&& 85 ≤ b := by decide +kernel
theorem mq_f2 : ∀ a, a < 256 → ((a / 4 + 64 * 0) &&& 51 = a / 4 &&& 51 ∧ (a / 4 + 64 * 1) &&& 51 = a / 4 &&& 51 ∧ (a / 4 + 64 * 2) &&& 51 = a / 4 &&& 51 ∧ (a / 4 + 64 * 3) &&& 51 = a / 4 &&& 51) ∧ (a &&& 51) + (a / 4 &&& 51) < 256 := by decide +kernel
/-- what the first two steps make of a byte -/
def mq_by (b : Nat) : Nat := ((b - (b / 2 &&& 85)) &&& 51) + ((b - (b / 2 &&& 85)) / 4 &&& 51)
theorem mq_f3 : ∀ b, b < 256 → mq_by b % 16 ≤ 4 ∧ mq_by b / 16 ≤ 4 ∧ (mq_by b + mq_by b / 16 + 16 * 0) &&& 15 = mq_p8 b ∧ (mq_by b + mq_by b / 16 + 16 * 1) &&& 15 = mq_p8 b ∧ (mq_by b + mq_by b / 16 + 16 * 2) &&& 15 = mq_p8 b ∧ (mq_by b + mq_by b / 16 + 16 * 3) &&& 15 = mq_p8 b ∧ (mq_by b + mq_by b / 16 + 16 * 4) &&& 15 = mq_p8 b := by decide +kernel
theorem mq_A_s (k n : Nat) : mq_A (k + 1) n = (n % 256 - (n % 256 / 2 &&& 85)) + 256 * mq_A k (n / 256) := by
  have h := mq_and_split (n / 2) (mq_mk 85 (k + 1))
  obtain ⟨m1, m2⟩ := mq_mk_s (c := 85) (k := k) (by omega)
  have hb := mq_f1 (n % 256) (Nat.mod_lt _ (by omega))
  have e1 : n / 2 % 256 = n % 256 / 2 + 128 * (n / 256 % 2) := by omega
  have e2 : n / 2 / 256 = n / 256 / 2 := by omega
  have e3 : (n / 2 % 256) &&& 85 = n % 256 / 2 &&& 85 := by
    rw [e1]
    rcases Nat.mod_two_eq_zero_or_one (n / 256) with z | z <;> rw [z]
    · exact hb.1.1
    · exact hb.1.2
  rw [m1, m2, e2, e3] at h
  have h2 : n / 256 / 2 &&& mq_mk 85 k ≤ n / 256 := Nat.le_trans Nat.and_le_left (Nat.div_le_self _ _)
  have h3 := hb.2
  unfold mq_A
  rw [h]
  omega
theorem mq_B_s (k a x : Nat) (ha : a < 256) : mq_B (k + 1) (a + 256 * x) = ((a &&& 51) + (a / 4 &&& 51)) + 256 * mq_B k x := by
  have h := mq_and_split (a + 256 * x) (mq_mk 51 (k + 1))
  have g := mq_and_split ((a + 256 * x) / 4) (mq_mk 51 (k + 1))
  obtain ⟨m1, m2⟩ := mq_mk_s (c := 51) (k := k) (by omega)
  have hb := mq_f2 a ha
  have e1 : (a + 256 * x) / 4 % 256 = a / 4 + 64 * (x % 4) := by omega
  have e2 : (a + 256 * x) / 4 / 256 = x / 4 := by omega
  have e3 : (a / 4 + 64 * (x % 4)) &&& 51 = a / 4 &&& 51 := by
    have : x % 4 = 0 ∨ x % 4 = 1 ∨ x % 4 = 2 ∨ x % 4 = 3 := by omega
    rcases this with z | z | z | z <;> rw [z]
    · exact hb.1.1
    · exact hb.1.2.1
    · exact hb.1.2.2.1
    · exact hb.1.2.2.2
  rw [m1, m2, show (a + 256 * x) % 256 = a by omega, show (a + 256 * x) / 256 = x by omega] at h
  rw [m1, m2, e1, e2, e3] at g
  unfold mq_B
  rw [h, g]
  omega
theorem mq_AB_s (k n : Nat) : mq_B (k + 1) (mq_A (k + 1) n) = mq_by (n % 256) + 256 * mq_B k (mq_A k (n / 256)) := by
  rw [mq_A_s, mq_B_s k _ _ (by have := Nat.mod_lt n (show 256 > 0 by omega); omega)]
  rfl
theorem mq_AB_low (k n : Nat) : mq_B k (mq_A k n) % 16 ≤ 4 := by
  cases k with
  | zero => unfold mq_B mq_mk; rw [Nat.and_zero, Nat.and_zero]; omega
  | succ k =>
    rw [mq_AB_s]
    have := (mq_f3 (n % 256) (Nat.mod_lt _ (by omega))).1
    omega
theorem mq_ABC : ∀ k n, mq_C k (mq_B k (mq_A k n)) = mq_T k n
  | 0, n => by unfold mq_C mq_mk; rw [Nat.and_zero]; rfl
  | k + 1, n => by
    obtain ⟨f1, f2, f3⟩ := mq_f3 (n % 256) (Nat.mod_lt _ (by omega))
    have low := mq_AB_low k (n / 256)
    have ih := mq_ABC k (n / 256)
    rw [mq_AB_s]
    show _ = mq_p8 (n % 256) + 256 * mq_T k (n / 256)
    rw [← ih]
    generalize mq_B k (mq_A k (n / 256)) = x at low ⊢
    generalize mq_by (n % 256) = a at f1 f2 f3 ⊢
    unfold mq_C
    rw [mq_and_split (a + 256 * x + (a + 256 * x) / 16) (mq_mk 15 (k + 1))]
    obtain ⟨m1, m2⟩ := mq_mk_s (c := 15) (k := k) (by omega)
    have e1 : (a + 256 * x + (a + 256 * x) / 16) % 256 = a + a / 16 + 16 * (x % 16) := by omega
    have e2 : (a + 256 * x + (a + 256 * x) / 16) / 256 = x + x / 16 := by omega
    rw [m1, m2, e1, e2]
    congr 1
    have : x % 16 = 0 ∨ x % 16 = 1 ∨ x % 16 = 2 ∨ x % 16 = 3 ∨ x % 16 = 4 := by omega
    rcases this with z | z | z | z | z <;> rw [z]
    · exact f3.1
    · exact f3.2.1
    · exact f3.2.2.1
    · exact f3.2.2.2.1
    · exact f3.2.2.2.2
theorem mq_T8b {x a b : Nat} (e : x = a + 256 * b) (h : a ≤ 8) : x / 256 = b := by omega
theorem mq_T8c {x a b c d y z : Nat} (e : x = a + 256 * y) (f : y = b + 256 * z) (g : z = c + 256 * d) (h1 : a ≤ 8) (h2 : b ≤ 8) (h3 : c ≤ 8) : (x + y) / 65536 = z + d := by omega
theorem mq_T8d {x a b c d y z u X : Nat} (e : x = a + 256 * y) (f : y = b + 256 * z) (g : z = c + 256 * u) (h : u = d + 256 * X) : x = (a + 256 * b + 65536 * c + 16777216 * d) + 4294967296 * X := by omega
theorem mq_T8e {x y z u p q r s X Y Z U : Nat} (e1 : x = p + 4294967296 * X) (e2 : y = q + 4294967296 * Y) (e3 : z = r + 4294967296 * Z) (e4 : u = s + 4294967296 * U) (h : p + q + r + s < 4294967296) : (x + y + (z + u)) / 4294967296 = X + Y + Z + U := by
  have g : x + y + (z + u) = (p + q + r + s) + 4294967296 * (X + Y + Z + U) := by
    rw [e1, e2, e3, e4, Nat.mul_add, Nat.mul_add, Nat.mul_add]
    ac_rfl
  rw [g, Nat.add_mul_div_left _ _ (by omega), Nat.div_eq_of_lt h, Nat.zero_add]
theorem mq_T8f {a b c d : Nat} (h1 : a ≤ 8) (h2 : b ≤ 8) (h3 : c ≤ 8) (h4 : d ≤ 8) : a + 256 * b + 65536 * c + 16777216 * d ≤ 142000000 := by omega
theorem mq_T8g {x a b : Nat} (e : x = a + 256 * b) : x = a + 128 * (2 * b) := by omega
theorem mq_T8h {x0 x1 x2 x3 x4 x5 x6 a0 a1 a2 a3 a4 a5 a6 a7 y0 y1 y2 y3 y4 y5 y6 : Nat} (e0 : x0 = a0 + 128 * y0) (e1 : x1 = a1 + 128 * y1) (e2 : x2 = a2 + 128 * y2) (e3 : x3 = a3 + 128 * y3) (e4 : x4 = a4 + 128 * y4) (e5 : x5 = a5 + 128 * y5) (e6 : x6 = a6 + 128 * y6) : x0 + x1 + (x2 + x3) + (x4 + x5 + x6 + a7) = (a0 + (a1 + (a2 + (a3 + (a4 + (a5 + (a6 + a7))))))) + 128 * (y0 + y1 + y2 + y3 + y4 + y5 + y6) := by
  rw [e0, e1, e2, e3, e4, e5, e6]
  clear e0 e1 e2 e3 e4 e5 e6
  omega
theorem mq_T8i {a0 a1 a2 a3 a4 a5 a6 a7 : Nat} (h0 : a0 ≤ 8) (h1 : a1 ≤ 8) (h2 : a2 ≤ 8) (h3 : a3 ≤ 8) (h4 : a4 ≤ 8) (h5 : a5 ≤ 8) (h6 : a6 ≤ 8) (h7 : a7 ≤ 8) : a0 + (a1 + (a2 + (a3 + (a4 + (a5 + (a6 + a7)))))) < 128 := by omega
theorem mq_T8a {x X1 X2 X3 X4 X5 X6 a0 a1 a2 a3 a4 a5 a6 a7 : Nat} (e0 : x = a0 + 256 * X1) (e1 : X1 = a1 + 256 * X2) (e2 : X2 = a2 + 256 * X3) (e3 : X3 = a3 + 256 * X4) (e4 : X4 = a4 + 256 * X5) (e5 : X5 = a5 + 256 * X6) (e6 : X6 = a6 + 256 * a7) (h0 : a0 ≤ 8) (h1 : a1 ≤ 8) (h2 : a2 ≤ 8) (h3 : a3 ≤ 8) (h4 : a4 ≤ 8) (h5 : a5 ≤ 8) (h6 : a6 ≤ 8) (h7 : a7 ≤ 8) : (x + x / 256 + (x + x / 256) / 65536 + (x + x / 256 + (x + x / 256) / 65536) / 4294967296) % 128 = a0 + (a1 + (a2 + (a3 + (a4 + (a5 + (a6 + a7)))))) := by
  have l : ∀ {p q r s : Nat}, p ≤ 142000000 → q ≤ 142000000 → r ≤ 142000000 → s ≤ 142000000 → p + q + r + s < 4294967296 := fun {p q r s} a b c d => by
    clear e0 e1 e2 e3 e4 e5 e6
    omega
  rw [mq_T8b e0 h0, mq_T8c e0 e1 e2 h0 h1 h2, mq_T8e (mq_T8d e0 e1 e2 e3) (mq_T8d e1 e2 e3 e4) (mq_T8d e2 e3 e4 e5) (mq_T8d e3 e4 e5 e6) (l (mq_T8f h0 h1 h2 h3) (mq_T8f h1 h2 h3 h4) (mq_T8f h2 h3 h4 h5) (mq_T8f h3 h4 h5 h6)), mq_T8h (mq_T8g e0) (mq_T8g e1) (mq_T8g e2) (mq_T8g e3) (mq_T8g e4) (mq_T8g e5) (mq_T8g e6), Nat.add_mul_mod_self_left]
  exact Nat.mod_eq_of_lt (mq_T8i h0 h1 h2 h3 h4 h5 h6 h7)
theorem mq_T8 (n : Nat) : ∀ x, x = mq_T 8 n → (x + x / 256 + (x + x / 256) / 65536 + (x + x / 256 + (x + x / 256) / 65536) / 4294967296) % 128 = mq_Sg 8 n ∧ x < 2 ^ 61 := by
  intro x hx
  have hT : ∀ k n, mq_T k n < 2 ^ (8 * k) ∧ 255 * mq_T k n + 8 ≤ 8 * 2 ^ (8 * k) := by
    intro k
    induction k with
    | zero => intro n; exact ⟨by show 0 < 1; omega, by show 255 * 0 + 8 ≤ 8 * 1; omega⟩
    | succ k ih =>
      intro n
      obtain ⟨i1, i2⟩ := ih (n / 256)
      have := mq_p8_le (n % 256)
      rw [show 8 * (k + 1) = 8 * k + 8 by omega, Nat.pow_add]
      show mq_p8 (n % 256) + 256 * mq_T k (n / 256) < _ ∧ 255 * (mq_p8 (n % 256) + 256 * mq_T k (n / 256)) + 8 ≤ _
      generalize 2 ^ (8 * k) = q at *
      omega
  constructor
  · have step : ∀ k m, mq_T (k + 1) m = mq_p8 (m % 256) + 256 * mq_T k (m / 256) := fun _ _ => rfl
    have last : ∀ m, mq_T 1 m = mq_p8 (m % 256) := fun m => by rw [step 0]; rfl
    have sg : mq_Sg 8 n = mq_p8 (n % 256) + (mq_p8 (n / 256 % 256) + (mq_p8 (n / 256 / 256 % 256) + (mq_p8 (n / 256 / 256 / 256 % 256) + (mq_p8 (n / 256 / 256 / 256 / 256 % 256) + (mq_p8 (n / 256 / 256 / 256 / 256 / 256 % 256) + (mq_p8 (n / 256 / 256 / 256 / 256 / 256 / 256 % 256) + mq_p8 (n / 256 / 256 / 256 / 256 / 256 / 256 / 256 % 256))))))) := by
      simp only [mq_Sg, Nat.add_zero]
    rw [sg]
    exact mq_T8a (hx.trans (step 7 n)) (step 6 _) (step 5 _) (step 4 _) (step 3 _) (step 2 _) ((step 1 _).trans (by rw [last])) (mq_p8_le _) (mq_p8_le _) (mq_p8_le _) (mq_p8_le _) (mq_p8_le _) (mq_p8_le _) (mq_p8_le _) (mq_p8_le _)
  · have := (hT 8 n).2
    rw [← hx] at this
    have e : (2 : Nat) ^ (8 * 8) = 18446744073709551616 := rfl
    rw [e] at this
    have e2 : (2 : Nat) ^ 61 = 2305843009213693952 := rfl
    rw [e2]
    omega
theorem mq_T4 (n : Nat) : ∀ x, x = mq_T 4 n → (x + x / 256 + (x + x / 256) / 65536) % 64 = mq_Sg 4 n % 64 ∧ x < 2 ^ 29 := by
  intro x hx
  simp only [mq_T, mq_Sg] at hx ⊢
  have h0 := mq_p8_le (n % 256)
  have h1 := mq_p8_le (n / 256 % 256)
  have h2 := mq_p8_le (n / 256 / 256 % 256)
  have h3 := mq_p8_le (n / 256 / 256 / 256 % 256)
  generalize mq_p8 (n % 256) = a0 at *
  generalize mq_p8 (n / 256 % 256) = a1 at *
  generalize mq_p8 (n / 256 / 256 % 256) = a2 at *
  generalize mq_p8 (n / 256 / 256 / 256 % 256) = a3 at *
  have e1 : x / 256 = a1 + 256 * (a2 + 256 * a3) := by omega
  generalize x / 256 = y at *
  have e2 : (x + y) / 65536 = (a2 + a3) + 256 * a3 := by omega
  omega
def mq_U (y : Int64) : Nat := y.toBitVec.toNat
theorem mq_U_lt (y : Int64) : mq_U y < 2 ^ 64 := y.toBitVec.isLt
theorem mq_U_sub {a b : Int64} (h : mq_U b ≤ mq_U a) : mq_U (a - b) = mq_U a - mq_U b := by
  have ha := mq_U_lt a
  have hb := mq_U_lt b
  show (a.toBitVec - b.toBitVec).toNat = _
  rw [BitVec.toNat_sub]
  show (2 ^ 64 - mq_U b + mq_U a) % 2 ^ 64 = _
  rw [show 2 ^ 64 - mq_U b + mq_U a = (mq_U a - mq_U b) + 2 ^ 64 by omega, Nat.add_mod_right, Nat.mod_eq_of_lt (by omega)]
theorem mq_U_add {a b : Int64} (h : mq_U a + mq_U b < 2 ^ 64) : mq_U (a + b) = mq_U a + mq_U b := by
  show (a.toBitVec + b.toBitVec).toNat = _
  rw [BitVec.toNat_add]
  exact Nat.mod_eq_of_lt h
theorem mq_U_and (a b : Int64) : mq_U (a &&& b) = mq_U a &&& mq_U b := by
  show (a.toBitVec &&& b.toBitVec).toNat = _
  rw [BitVec.toNat_and]
  rfl
def mq_us (y : Int64) (k : Int32) : Int64 := (Int64.toUInt64 y >>> (Int64.toUInt64 (Int32.toInt64 k) &&& Int64.toUInt64 63)).toInt64
theorem mq_U_us (y : Int64) {k : Int32} {K : Nat} (hs : (Int64.toUInt64 (Int32.toInt64 k) &&& Int64.toUInt64 63).toNat % 64 = K) : mq_U (mq_us y k) = mq_U y / 2 ^ K := by
  show (Int64.toUInt64 y >>> (Int64.toUInt64 (Int32.toInt64 k) &&& Int64.toUInt64 63)).toNat = _
  rw [UInt64.toNat_shiftRight, hs, Nat.shiftRight_eq_div_pow]
  rfl
def mq_Y1 (y : Int64) : Int64 := y - (mq_us y 1 &&& 6148914691236517205)
def mq_Y2 (y : Int64) : Int64 := (mq_Y1 y &&& 3689348814741910323) + (mq_us (mq_Y1 y) 2 &&& 3689348814741910323)
def mq_Y3 (y : Int64) : Int64 := (mq_Y2 y + mq_us (mq_Y2 y) 4) &&& 1085102592571150095
def mq_Y4 (y : Int64) : Int64 := mq_Y3 y + mq_us (mq_Y3 y) 8
def mq_Y5 (y : Int64) : Int64 := mq_Y4 y + mq_us (mq_Y4 y) 16
def mq_Y6 (y : Int64) : Int64 := mq_Y5 y + mq_us (mq_Y5 y) 32
def mq_h (y : Int64) (w : Nat) : Bool := y.toBitVec.getLsbD w
theorem mq_Y3_U (y : Int64) : mq_U (mq_Y3 y) = mq_T 8 (mq_U y) := by
  have m1 : mq_U 6148914691236517205 = mq_mk 85 8 := by decide +kernel
  have m2 : mq_U 3689348814741910323 = mq_mk 51 8 := by decide +kernel
  have m3 : mq_U 1085102592571150095 = mq_mk 15 8 := by decide +kernel
  have b2 : mq_mk 51 8 = 3689348814741910323 := by decide +kernel
  have h1 : mq_U (mq_Y1 y) = mq_A 8 (mq_U y) := by
    have e : mq_U (mq_us y 1 &&& 6148914691236517205) = (mq_U y / 2) &&& mq_mk 85 8 := by
      rw [mq_U_and, mq_U_us y (K := 1) (by decide +kernel), m1]
    unfold mq_Y1
    rw [mq_U_sub, e]
    · rfl
    · rw [e]
      exact Nat.le_trans Nat.and_le_left (Nat.div_le_self _ _)
  have h2 : mq_U (mq_Y2 y) = mq_B 8 (mq_A 8 (mq_U y)) := by
    have e1 : mq_U (mq_Y1 y &&& 3689348814741910323) = mq_A 8 (mq_U y) &&& mq_mk 51 8 := by rw [mq_U_and, h1, m2]
    have e2 : mq_U (mq_us (mq_Y1 y) 2 &&& 3689348814741910323) = (mq_A 8 (mq_U y) / 4) &&& mq_mk 51 8 := by
      rw [mq_U_and, mq_U_us _ (K := 2) (by decide +kernel), h1, m2]
    have l1 : mq_A 8 (mq_U y) &&& mq_mk 51 8 ≤ mq_mk 51 8 := Nat.and_le_right
    have l2 : (mq_A 8 (mq_U y) / 4) &&& mq_mk 51 8 ≤ mq_mk 51 8 := Nat.and_le_right
    unfold mq_Y2
    rw [mq_U_add, e1, e2]
    · rfl
    · rw [e1, e2]
      rw [b2] at l1 l2 ⊢
      omega
  have l : mq_B 8 (mq_A 8 (mq_U y)) ≤ 2 * 3689348814741910323 := by
    have l1 : mq_A 8 (mq_U y) &&& mq_mk 51 8 ≤ mq_mk 51 8 := Nat.and_le_right
    have l2 : (mq_A 8 (mq_U y) / 4) &&& mq_mk 51 8 ≤ mq_mk 51 8 := Nat.and_le_right
    unfold mq_B
    rw [b2] at l1 l2 ⊢
    omega
  have h3 : mq_U (mq_us (mq_Y2 y) 4) = mq_B 8 (mq_A 8 (mq_U y)) / 16 := by
    rw [mq_U_us _ (K := 4) (by decide +kernel), h2]
  rw [← mq_ABC 8]
  unfold mq_Y3 mq_C
  rw [mq_U_and, mq_U_add, h2, h3, m3]
  rw [h2, h3]
  omega
theorem mq_bc64 (y : Int64) : Int64.toInt32 (mq_Y6 y) &&& 127 = nI (mq_ct (mq_h y) 64) := by
  have h3 := mq_Y3_U y
  obtain ⟨t1, t2⟩ := mq_T8 (mq_U y) _ h3
  have s4 : mq_U (mq_us (mq_Y3 y) 8) = mq_U (mq_Y3 y) / 256 := mq_U_us _ (K := 8) (by decide +kernel)
  have h4 : mq_U (mq_Y4 y) = mq_U (mq_Y3 y) + mq_U (mq_Y3 y) / 256 := by
    unfold mq_Y4
    rw [mq_U_add, s4]
    rw [s4]
    omega
  have s5 : mq_U (mq_us (mq_Y4 y) 16) = mq_U (mq_Y4 y) / 65536 := mq_U_us _ (K := 16) (by decide +kernel)
  have h5 : mq_U (mq_Y5 y) = mq_U (mq_Y4 y) + mq_U (mq_Y4 y) / 65536 := by
    unfold mq_Y5
    rw [mq_U_add, s5]
    rw [s5]
    omega
  have s6 : mq_U (mq_us (mq_Y5 y) 32) = mq_U (mq_Y5 y) / 4294967296 := mq_U_us _ (K := 32) (by decide +kernel)
  have h6 : mq_U (mq_Y6 y) = mq_U (mq_Y5 y) + mq_U (mq_Y5 y) / 4294967296 := by
    unfold mq_Y6
    rw [mq_U_add, s6]
    rw [s6]
    omega
  rw [h4] at h5
  rw [h5] at h6
  rw [← h6] at t1
  have e : mq_Sg 8 (mq_U y) = mq_ct (mq_h y) 64 := mq_Sg_ct 8 _
  rw [e] at t1
  apply Int32.toBitVec_inj.mp
  apply BitVec.eq_of_toNat_eq
  have c : mq_ct (mq_h y) 64 ≤ 64 := mq_ct_le _ _
  rw [Int32.toBitVec_and, Int64.toBitVec_toInt32, BitVec.signExtend_eq_setWidth_of_le _ (by omega)]
  show (BitVec.setWidth 32 (mq_Y6 y).toBitVec &&& (127 : Int32).toBitVec).toNat = (BitVec.ofNat 32 (mq_ct (mq_h y) 64)).toNat
  rw [BitVec.toNat_and, BitVec.toNat_setWidth, BitVec.toNat_ofNat, Nat.mod_eq_of_lt (show mq_ct (mq_h y) 64 < 2 ^ 32 by omega)]
  show (mq_U (mq_Y6 y) % 2 ^ 32) &&& (2 ^ 7 - 1) = _
  rw [Nat.and_two_pow_sub_one_eq_mod]
  omega

def mq_V (y : Int32) : Nat := y.toBitVec.toNat
theorem mq_V_lt (y : Int32) : mq_V y < 2 ^ 32 := y.toBitVec.isLt
theorem mq_V_sub {a b : Int32} (h : mq_V b ≤ mq_V a) : mq_V (a - b) = mq_V a - mq_V b := by
  have ha := mq_V_lt a
  have hb := mq_V_lt b
  show (a.toBitVec - b.toBitVec).toNat = _
  rw [BitVec.toNat_sub]
  show (2 ^ 32 - mq_V b + mq_V a) % 2 ^ 32 = _
  rw [show 2 ^ 32 - mq_V b + mq_V a = (mq_V a - mq_V b) + 2 ^ 32 by omega, Nat.add_mod_right, Nat.mod_eq_of_lt (by omega)]
theorem mq_V_add {a b : Int32} (h : mq_V a + mq_V b < 2 ^ 32) : mq_V (a + b) = mq_V a + mq_V b := by
  show (a.toBitVec + b.toBitVec).toNat = _
  rw [BitVec.toNat_add]
  exact Nat.mod_eq_of_lt h
theorem mq_V_and (a b : Int32) : mq_V (a &&& b) = mq_V a &&& mq_V b := by
  show (a.toBitVec &&& b.toBitVec).toNat = _
  rw [BitVec.toNat_and]
  rfl
def mq_vs (y : Int32) (k : Int32) : Int32 := (Int32.toUInt32 y >>> (Int32.toUInt32 k &&& Int32.toUInt32 31)).toInt32
theorem mq_V_vs (y : Int32) {k : Int32} {K : Nat} (hs : (Int32.toUInt32 k &&& Int32.toUInt32 31).toNat % 32 = K) : mq_V (mq_vs y k) = mq_V y / 2 ^ K := by
  show (Int32.toUInt32 y >>> (Int32.toUInt32 k &&& Int32.toUInt32 31)).toNat = _
  rw [UInt32.toNat_shiftRight, hs, Nat.shiftRight_eq_div_pow]
  rfl
def mq_Z1 (y : Int32) : Int32 := y - (mq_vs y 1 &&& 1431655765)
def mq_Z2 (y : Int32) : Int32 := (mq_Z1 y &&& 858993459) + (mq_vs (mq_Z1 y) 2 &&& 858993459)
def mq_Z3 (y : Int32) : Int32 := (mq_Z2 y + mq_vs (mq_Z2 y) 4) &&& 252645135
def mq_Z4 (y : Int32) : Int32 := mq_Z3 y + mq_vs (mq_Z3 y) 8
def mq_Z5 (y : Int32) : Int32 := mq_Z4 y + mq_vs (mq_Z4 y) 16
theorem mq_Z3_V (y : Int32) : mq_V (mq_Z3 y) = mq_T 4 (mq_V y) := by
  have m1 : mq_V 1431655765 = mq_mk 85 4 := by decide +kernel
  have m2 : mq_V 858993459 = mq_mk 51 4 := by decide +kernel
  have m3 : mq_V 252645135 = mq_mk 15 4 := by decide +kernel
  have b2 : mq_mk 51 4 = 858993459 := by decide +kernel
  have h1 : mq_V (mq_Z1 y) = mq_A 4 (mq_V y) := by
    have e : mq_V (mq_vs y 1 &&& 1431655765) = (mq_V y / 2) &&& mq_mk 85 4 := by
      rw [mq_V_and, mq_V_vs y (K := 1) (by decide +kernel), m1]
    unfold mq_Z1
    rw [mq_V_sub, e]
    · rfl
    · rw [e]
      exact Nat.le_trans Nat.and_le_left (Nat.div_le_self _ _)
  have h2 : mq_V (mq_Z2 y) = mq_B 4 (mq_A 4 (mq_V y)) := by
    have e1 : mq_V (mq_Z1 y &&& 858993459) = mq_A 4 (mq_V y) &&& mq_mk 51 4 := by rw [mq_V_and, h1, m2]
    have e2 : mq_V (mq_vs (mq_Z1 y) 2 &&& 858993459) = (mq_A 4 (mq_V y) / 4) &&& mq_mk 51 4 := by
      rw [mq_V_and, mq_V_vs _ (K := 2) (by decide +kernel), h1, m2]
    have l1 : mq_A 4 (mq_V y) &&& mq_mk 51 4 ≤ mq_mk 51 4 := Nat.and_le_right
    have l2 : (mq_A 4 (mq_V y) / 4) &&& mq_mk 51 4 ≤ mq_mk 51 4 := Nat.and_le_right
    unfold mq_Z2
    rw [mq_V_add, e1, e2]
    · rfl
    · rw [e1, e2]
      rw [b2] at l1 l2 ⊢
      omega
  have l : mq_B 4 (mq_A 4 (mq_V y)) ≤ 2 * 858993459 := by
    have l1 : mq_A 4 (mq_V y) &&& mq_mk 51 4 ≤ mq_mk 51 4 := Nat.and_le_right
    have l2 : (mq_A 4 (mq_V y) / 4) &&& mq_mk 51 4 ≤ mq_mk 51 4 := Nat.and_le_right
    unfold mq_B
    rw [b2] at l1 l2 ⊢
    omega
  have h3 : mq_V (mq_vs (mq_Z2 y) 4) = mq_B 4 (mq_A 4 (mq_V y)) / 16 := by
    rw [mq_V_vs _ (K := 4) (by decide +kernel), h2]
  rw [← mq_ABC 4]
  unfold mq_Z3 mq_C
  rw [mq_V_and, mq_V_add, h2, h3, m3]
  rw [h2, h3]
  omega
theorem mq_bc32 (y : Int32) (h31 : mq_V y < 2 ^ 31) : mq_Z5 y &&& 63 = nI (mq_ct (fun j => (mq_V y).testBit j) 31) := by
  have h3 := mq_Z3_V y
  obtain ⟨t1, t2⟩ := mq_T4 (mq_V y) _ h3
  have s4 : mq_V (mq_vs (mq_Z3 y) 8) = mq_V (mq_Z3 y) / 256 := mq_V_vs _ (K := 8) (by decide +kernel)
  have h4 : mq_V (mq_Z4 y) = mq_V (mq_Z3 y) + mq_V (mq_Z3 y) / 256 := by
    unfold mq_Z4
    rw [mq_V_add, s4]
    rw [s4]
    omega
  have s5 : mq_V (mq_vs (mq_Z4 y) 16) = mq_V (mq_Z4 y) / 65536 := mq_V_vs _ (K := 16) (by decide +kernel)
  have h5 : mq_V (mq_Z5 y) = mq_V (mq_Z4 y) + mq_V (mq_Z4 y) / 65536 := by
    unfold mq_Z5
    rw [mq_V_add, s5]
    rw [s5]
    omega
  rw [h4] at h5
  rw [← h5] at t1
  have e : mq_Sg 4 (mq_V y) = mq_ct (fun j => (mq_V y).testBit j) 32 := mq_Sg_ct 4 _
  have e2 : mq_ct (fun j => (mq_V y).testBit j) 32 = mq_ct (fun j => (mq_V y).testBit j) 31 := by
    show mq_ct (fun j => (mq_V y).testBit j) 31 + (if (mq_V y).testBit 31 = true then 1 else 0) = _
    rw [Nat.testBit_lt_two_pow h31]
    rfl
  rw [e, e2] at t1
  have c : mq_ct (fun j => (mq_V y).testBit j) 31 ≤ 31 := mq_ct_le _ _
  apply Int32.toBitVec_inj.mp
  apply BitVec.eq_of_toNat_eq
  rw [Int32.toBitVec_and]
  show ((mq_Z5 y).toBitVec &&& (63 : Int32).toBitVec).toNat = (BitVec.ofNat 32 (mq_ct (fun j => (mq_V y).testBit j) 31)).toNat
  rw [BitVec.toNat_and, BitVec.toNat_ofNat, Nat.mod_eq_of_lt (show mq_ct (fun j => (mq_V y).testBit j) 31 < 2 ^ 32 by omega)]
  show mq_V (mq_Z5 y) &&& (2 ^ 6 - 1) = _
  rw [Nat.and_two_pow_sub_one_eq_mod]
  omega
theorem mq_h_or (a b : Int64) (w : Nat) : mq_h (a ||| b) w = (mq_h a w || mq_h b w) := by
  show (a ||| b).toBitVec.getLsbD w = _
  rw [Int64.toBitVec_or, BitVec.getLsbD_or]
  rfl
theorem mq_h_and (a b : Int64) (w : Nat) : mq_h (a &&& b) w = (mq_h a w && mq_h b w) := by
  show (a &&& b).toBitVec.getLsbD w = _
  rw [Int64.toBitVec_and, BitVec.getLsbD_and]
  rfl
theorem mq_h_m1 : ∀ w, w < 64 → mq_h (-1) w = true := by decide +kernel
theorem mq_h_0 (w : Nat) : mq_h 0 w = false := by
  show (0 : Int64).toBitVec.getLsbD w = false
  exact BitVec.getLsbD_zero
theorem mq_h_not (a : Int64) {w : Nat} (hw : w < 64) : mq_h (a ^^^ (-1)) w = !mq_h a w := by
  have := mq_h_m1 w hw
  unfold mq_h at this ⊢
  rw [Int64.toBitVec_xor, BitVec.getLsbD_xor, this]
  cases a.toBitVec.getLsbD w <;> rfl
theorem mq_h_1 : ∀ k, k < 64 → ∀ w, w < 64 → mq_h ((1 : Int64) <<< (Int32.toInt64 (nI k) &&& 63)) w = decide (w = k) := by decide +kernel
theorem mq_h_64 (a : Int64) {w : Nat} (hw : 64 ≤ w) : mq_h a w = false := BitVec.getLsbD_of_ge _ _ hw
theorem mq_h_ext {a b : Int64} (h : ∀ w, w < 64 → mq_h a w = mq_h b w) : a = b := by
  apply Int64.toBitVec_inj.mp
  apply BitVec.eq_of_getLsbD_eq
  intro w hw
  exact h w hw
theorem mq_h_z {a : Int64} : a = 0 ↔ ∀ w, w < 64 → mq_h a w = false := ⟨fun h w _ => by rw [h]; exact mq_h_0 w, fun h => mq_h_ext fun w hw => by rw [h w hw, mq_h_0]⟩
theorem qs_Lng_bitCount (L : Nat) (y : Int64) (i : mMI) (l : mML) : qf_Lng_bitCount L y i l = some (nI (mq_ct (mq_h y) 64), i, l) := by
  refine qe_Lng_bitCount L y i l _ ?_
  show some (Int64.toInt32 (mq_Y6 y) &&& 127, i, l) = _
  rw [mq_bc64]
theorem qs_bitCountN (L : Nat) {s : Nat} (i : mMI) (l : mML) (h : s < 2 ^ 31) : qf_Int_bitCount L (nI s) i l = some (nI (mq_ct (fun j => s.testBit j) 31), i, l) := by
  refine qe_Int_bitCount L (nI s) i l _ ?_
  have e : mq_V (nI s) = s := by
    show s % 2 ^ 32 = s
    exact Nat.mod_eq_of_lt (by omega)
  have := mq_bc32 (nI s) (by rw [e]; exact h)
  rw [e] at this
  show some (mq_Z5 (nI s) &&& 63, i, l) = _
  rw [this]
theorem mq_cmp0 {a b : Int64} : lg_cmp a b = (0 : Int32) ↔ a = b := lg_cmp_eq a b
