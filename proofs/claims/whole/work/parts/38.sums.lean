/-! The sums over the worlds that hold a set: both ways. -/
def mq_sum (f : Nat → Nat) : Nat → Nat
  | 0 => 0
  | m + 1 => mq_sum f m + f m
theorem mq_sum_congr {f g : Nat → Nat} : ∀ (m : Nat), (∀ w, w < m → f w = g w) → mq_sum f m = mq_sum g m
  | 0, _ => rfl
  | m + 1, h => by
    simp only [mq_sum]
    rw [mq_sum_congr m (fun w hw => h w (by omega)), h m (by omega)]
theorem mq_sum_add (f g : Nat → Nat) : ∀ (m : Nat), mq_sum (fun w => f w + g w) m = mq_sum f m + mq_sum g m
  | 0 => rfl
  | m + 1 => by
    simp only [mq_sum]
    rw [mq_sum_add f g m]
    omega
theorem mq_sum_0 {f : Nat → Nat} (m : Nat) (h : ∀ w, w < m → f w = 0) : mq_sum f m = 0 := by
  induction m with
  | zero => rfl
  | succ m ih =>
    simp only [mq_sum]
    rw [ih (fun w hw => h w (by omega)), h m (by omega)]
theorem mq_sum_one (F : Nat → Nat) (s : Nat) : ∀ (m : Nat), s < m → mq_sum (fun w => if s = w then F w else 0) m = F s
  | 0, h => absurd h (by omega)
  | m + 1, h => by
    simp only [mq_sum]
    by_cases e : s = m
    · subst e
      rw [if_pos rfl, mq_sum_0 s (fun w hw => if_neg (by omega)), Nat.zero_add]
    · rw [if_neg e, mq_sum_one F s m (by omega), Nat.add_zero]
theorem mq_sum_tail {f : Nat → Nat} {a : Nat} : ∀ (k : Nat), (∀ w, a ≤ w → w < a + k → f w = 0) → mq_sum f (a + k) = mq_sum f a
  | 0, _ => rfl
  | k + 1, h => by
    show mq_sum f (a + k) + f (a + k) = _
    rw [h (a + k) (by omega) (by omega), mq_sum_tail k (fun w h1 h2 => h w h1 (by omega)), Nat.add_zero]
/-- w holds s below bit b, and is like s from b on -/
def mq_Q (b s w : Nat) : Prop := ∀ j, j < 8 → (j < b → s.testBit j = true → w.testBit j = true) ∧ (b ≤ j → s.testBit j = w.testBit j)
theorem mq_tb {s b : Nat} : s / 2 ^ b % 2 = 0 ↔ s.testBit b = false := by
  rw [Nat.testBit_eq_decide_div_mod_eq, decide_eq_false_iff_not]
  omega
theorem mq_tb8 {s j : Nat} (hs : s < 256) (hj : 8 ≤ j) : s.testBit j = false := by
  apply Nat.testBit_lt_two_pow
  have : 2 ^ 8 ≤ 2 ^ j := Nat.pow_le_pow_right (by omega) hj
  omega
theorem mq_Q0 {s w : Nat} (hs : s < 256) (hw : w < 256) : mq_Q 0 s w ↔ s = w := by
  constructor
  · intro h
    apply Nat.eq_of_testBit_eq
    intro j
    by_cases hj : j < 8
    · exact (h j hj).2 (by omega)
    · rw [mq_tb8 hs (by omega), mq_tb8 hw (by omega)]
  · intro h j hj
    subst h
    exact ⟨fun q => absurd q (by omega), fun _ => rfl⟩
theorem mq_Qs1 {b s w : Nat} (hb : b < 8) (h : s.testBit b = true) : mq_Q (b + 1) s w ↔ mq_Q b s w := by
  constructor
  · intro q j hj
    refine ⟨fun h1 => (q j hj).1 (by omega), fun h1 => ?_⟩
    by_cases e : j = b
    · subst e
      rw [h, (q j hj).1 (by omega) h]
    · exact (q j hj).2 (by omega)
  · intro q j hj
    refine ⟨fun h1 h2 => ?_, fun h1 => (q j hj).2 (by omega)⟩
    by_cases e : j = b
    · subst e
      rw [← (q j hj).2 (Nat.le_refl _)]
      exact h2
    · exact (q j hj).1 (by omega) h2
theorem mq_sb {b s : Nat} (hs : s < 256) (hb : b < 8) (h : s.testBit b = false) (j : Nat) : (s + 2 ^ b).testBit j = (s.testBit j || decide (b = j)) := by
  rw [← mq_orb s hs b hb (mq_tb.mpr h), Nat.testBit_or, Nat.testBit_two_pow]
theorem mq_Qs0 {b s w : Nat} (hs : s < 256) (hb : b < 8) (h : s.testBit b = false) : (mq_Q (b + 1) s w ↔ (mq_Q b s w ∨ mq_Q b (s + 2 ^ b) w)) ∧ ¬ (mq_Q b s w ∧ mq_Q b (s + 2 ^ b) w) := by
  have hsb := mq_sb hs hb h
  constructor
  · constructor
    · intro q
      cases hw : w.testBit b with
      | false =>
        refine Or.inl fun j hj => ⟨fun h1 => (q j hj).1 (by omega), fun h1 => ?_⟩
        by_cases e : j = b
        · subst e; rw [h, hw]
        · exact (q j hj).2 (by omega)
      | true =>
        refine Or.inr fun j hj => ⟨fun h1 h2 => ?_, fun h1 => ?_⟩
        · rw [hsb, decide_eq_false (by omega), Bool.or_false] at h2
          exact (q j hj).1 (by omega) h2
        · by_cases e : j = b
          · subst e; rw [hsb, decide_eq_true rfl, Bool.or_true, hw]
          · rw [hsb, decide_eq_false (fun z => e z.symm), Bool.or_false]
            exact (q j hj).2 (by omega)
    · rintro (q | q)
      · intro j hj
        refine ⟨fun h1 h2 => ?_, fun h1 => (q j hj).2 (by omega)⟩
        by_cases e : j = b
        · subst e; rw [h] at h2; cases h2
        · exact (q j hj).1 (by omega) h2
      · intro j hj
        refine ⟨fun h1 h2 => ?_, fun h1 => ?_⟩
        · by_cases e : j = b
          · subst e; rw [h] at h2; cases h2
          · exact (q j hj).1 (by omega) (by rw [hsb, h2, Bool.true_or])
        · have := (q j hj).2 (by omega)
          rw [hsb, decide_eq_false (by omega), Bool.or_false] at this
          exact this
  · rintro ⟨q1, q2⟩
    have a1 := (q1 b hb).2 (Nat.le_refl _)
    have a2 := (q2 b hb).2 (Nat.le_refl _)
    rw [hsb, decide_eq_true rfl, Bool.or_true] at a2
    rw [h, ← a2] at a1
    cases a1
noncomputable def mq_If (c : Prop) (x : Nat) : Nat := @ite _ c (Classical.propDecidable c) x 0
theorem mq_If_t {c : Prop} {x : Nat} (h : c) : mq_If c x = x := if_pos h
theorem mq_If_f {c : Prop} {x : Nat} (h : ¬ c) : mq_If c x = 0 := if_neg h
theorem mq_hs_sum (F : Nat → Nat) {n : Nat} (hn : n ≤ 8) : ∀ (b : Nat), b ≤ n → ∀ s, s < 2 ^ n → mq_hs F b s = mq_sum (fun w => mq_If (mq_Q b s w) (F w)) (2 ^ n) := by
  have hp := mq_pow hn
  intro b
  induction b with
  | zero =>
    intro _ s hs
    refine (mq_sum_one F s (2 ^ n) hs).symm.trans ?_
    refine mq_sum_congr _ fun w hw => ?_
    by_cases e : s = w
    · rw [if_pos e, mq_If_t ((mq_Q0 (by omega) (by omega)).mpr e)]
    · rw [if_neg e, mq_If_f (fun q => e ((mq_Q0 (by omega) (by omega)).mp q))]
  | succ b ih =>
    intro hb s hs
    simp only [mq_hs]
    by_cases h0 : s / 2 ^ b % 2 = 0
    · have hf := mq_tb.mp h0
      rw [if_pos h0, ih (by omega) s hs, ih (by omega) (s + 2 ^ b) (mq_ltb n (by omega) s hs b (by omega) h0), ← mq_sum_add]
      refine mq_sum_congr _ fun w hw => ?_
      obtain ⟨k1, k2⟩ := mq_Qs0 (w := w) (by omega) (show b < 8 by omega) hf
      by_cases q1 : mq_Q b s w
      · have q2 : ¬ mq_Q b (s + 2 ^ b) w := fun q => k2 ⟨q1, q⟩
        rw [mq_If_t q1, mq_If_f q2, mq_If_t (k1.mpr (Or.inl q1)), Nat.add_zero]
      · by_cases q2 : mq_Q b (s + 2 ^ b) w
        · rw [mq_If_f q1, mq_If_t q2, mq_If_t (k1.mpr (Or.inr q2)), Nat.zero_add]
        · rw [mq_If_f q1, mq_If_f q2, mq_If_f (fun q => (k1.mp q).elim q1 q2)]
    · have hf : s.testBit b = true := by
        cases h : s.testBit b with
        | true => rfl
        | false => exact absurd (mq_tb.mpr h) h0
      rw [if_neg h0, ih (by omega) s hs]
      refine mq_sum_congr _ fun w hw => ?_
      by_cases q : mq_Q b s w
      · rw [mq_If_t q, mq_If_t ((mq_Qs1 (by omega) hf).mpr q)]
      · rw [mq_If_f q, mq_If_f (fun z => q ((mq_Qs1 (by omega) hf).mp z))]
theorem mq_Qn {n s w : Nat} (hn : n ≤ 8) (hs : s < 2 ^ n) (hw : w < 2 ^ n) : mq_Q n s w ↔ s &&& w = s := by
  have hp := mq_pow hn
  constructor
  · intro q
    apply Nat.eq_of_testBit_eq
    intro j
    rw [Nat.testBit_and]
    cases h : s.testBit j with
    | false => rfl
    | true =>
      have hj : j < 8 := Nat.lt_of_not_le fun z => by rw [mq_tb8 (by omega) z] at h; cases h
      by_cases e : j < n
      · rw [(q j hj).1 e h]; rfl
      · rw [← (q j hj).2 (by omega), h]; rfl
  · intro h j hj
    have hb : s.testBit j = (s.testBit j && w.testBit j) := by
      rw [← Nat.testBit_and, h]
    refine ⟨fun _ h1 => ?_, fun h1 => ?_⟩
    · rw [h1] at hb
      cases hwj : w.testBit j with
      | true => rfl
      | false => rw [hwj] at hb; cases hb
    · have e1 : s.testBit j = false := Nat.testBit_lt_two_pow (Nat.lt_of_lt_of_le hs (Nat.pow_le_pow_right (by omega) h1))
      have e2 : w.testBit j = false := Nat.testBit_lt_two_pow (Nat.lt_of_lt_of_le hw (Nat.pow_le_pow_right (by omega) h1))
      rw [e1, e2]
/-- what all worlds below m weigh that hold s -/
def mq_sw (F : Nat → Nat) (s m : Nat) : Nat := mq_sum (fun w => if s &&& w = s then F w else 0) m
theorem mq_holds (F : Nat → Nat) {n s : Nat} (hn : n ≤ 8) (hs : s < 2 ^ n) : mq_hs F n s = mq_sw F s (2 ^ n) := by
  rw [mq_hs_sum F hn n (Nat.le_refl _) s hs]
  refine mq_sum_congr _ fun w hw => ?_
  by_cases e : s &&& w = s
  · rw [if_pos e, mq_If_t ((mq_Qn hn hs hw).mpr e)]
  · rw [if_neg e, mq_If_f (fun q => e ((mq_Qn hn hs hw).mp q))]
