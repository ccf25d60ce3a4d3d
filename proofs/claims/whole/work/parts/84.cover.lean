/-! Covers: what a search for one finds. -/
/-- so many tries from one on that light all of these worlds -/
def mw_cov (lit : Nat → Nat → Bool) (m a : Nat) (Y : Nat → Bool) (A : Nat → Bool) : Prop := (∀ j, A j = true → a ≤ j ∧ j < m) ∧ ∀ w, w < 64 → Y w = true → ∃ j, A j = true ∧ lit j w = true
/-- the one stands ahead of the other -/
def mw_fst (A B : Nat → Bool) : Prop := (∀ j, A j = B j) ∨ ∃ i, A i = true ∧ B i = false ∧ ∀ j, j < i → A j = B j
theorem mw_fst_anti {A B : Nat → Bool} (h : mw_fst A B) (g : mw_fst B A) : ∀ j, A j = B j := by
  rcases h with h | ⟨i, h1, h2, h3⟩
  · exact h
  rcases g with g | ⟨k, g1, g2, g3⟩
  · exact fun j => (g j).symm
  exfalso
  rcases Nat.lt_trichotomy i k with e | e | e
  · have := g3 i e
    rw [h1, h2] at this
    cases this
  · subst e
    rw [g1] at h2
    cases h2
  · have := h3 k e
    rw [g1, g2] at this
    cases this
def mw_rm (A : Nat → Bool) (x : Nat) : Nat → Bool := fun j => if j = x then false else A j
def mw_ad (A : Nat → Bool) (x : Nat) : Nat → Bool := fun j => if j = x then true else A j
def mw_any (lit : Nat → Nat → Bool) (A : Nat → Bool) : Nat → Nat → Bool
  | 0, _ => false
  | k + 1, w => mw_any lit A k w || (A k && lit k w)
theorem mw_any_of {lit : Nat → Nat → Bool} {A : Nat → Bool} {k j w : Nat} (hj : j < k) (h1 : A j = true) (h2 : lit j w = true) : mw_any lit A k w = true := by
  induction k with
  | zero => omega
  | succ k ih =>
    simp only [mw_any]
    by_cases e : j = k
    · subst e
      rw [h1, h2]
      simp
    · rw [ih (by omega)]
      rfl
theorem mw_any_is {lit : Nat → Nat → Bool} {A : Nat → Bool} {k w : Nat} (h : mw_any lit A k w = true) : ∃ j, j < k ∧ A j = true ∧ lit j w = true := by
  induction k with
  | zero => cases h
  | succ k ih =>
    simp only [mw_any, Bool.or_eq_true, Bool.and_eq_true] at h
    rcases h with h | h
    · obtain ⟨j, h1, h2⟩ := ih h
      exact ⟨j, by omega, h2⟩
    · exact ⟨k, by omega, h⟩
theorem mw_pigeon {lit : Nat → Nat → Bool} {A Y : Nat → Bool} {v : Nat} (m : Nat) (hv : ∀ j, j < m → A j = true → mq_ct (fun w => lit j w && Y w) 64 ≤ v) : mq_ct (fun w => mw_any lit A m w && Y w) 64 ≤ mq_ct A m * v := by
  induction m with
  | zero =>
    rw [mq_ct_none (fun w _ => by show (false && _) = false; rfl)]
    exact Nat.zero_le _
  | succ m ih =>
    have ih := ih fun j hj => hv j (by omega)
    show _ ≤ (mq_ct A m + (if A m = true then 1 else 0)) * v
    by_cases hA : A m = true
    · rw [if_pos hA]
      have h1 := mq_ct_sub (P := fun w => mw_any lit A (m + 1) w && Y w) (Q := fun w => mw_any lit A m w && Y w) (R := fun w => lit m w && Y w) (m := 64) (fun w _ hw => by
        simp only [mw_any, Bool.and_eq_true, Bool.or_eq_true] at hw ⊢
        rcases hw with ⟨h | h, h3⟩
        · exact Or.inl ⟨h, h3⟩
        · exact Or.inr ⟨h.2, h3⟩)
      have h2 := hv m (by omega) hA
      rw [Nat.add_mul, Nat.one_mul]
      exact Nat.le_trans h1 (Nat.add_le_add ih h2)
    · rw [if_neg hA]
      have h1 := mq_ct_mono (P := fun w => mw_any lit A (m + 1) w && Y w) (Q := fun w => mw_any lit A m w && Y w) (m := 64) (fun w _ hw => by
        simp only [mw_any, Bool.and_eq_true, Bool.or_eq_true] at hw ⊢
        rcases hw with ⟨h | h, h3⟩
        · exact ⟨h, h3⟩
        · exact absurd h.1 hA)
      rw [Nat.add_zero]
      exact Nat.le_trans h1 ih
section
variable {lit : Nat → Nat → Bool} {m : Nat}
theorem mw_cov_many {a v : Nat} {Y A : Nat → Bool} (h : mw_cov lit m a Y A) (hv : ∀ j, a ≤ j → j < m → mq_ct (fun w => lit j w && Y w) 64 ≤ v) : mq_ct Y 64 ≤ mq_ct A m * v := by
  refine Nat.le_trans (mq_ct_mono fun w hw hy => ?_) (mw_pigeon (lit := lit) (A := A) (Y := Y) m fun j hj hA => hv j (h.1 j hA).1 hj)
  obtain ⟨j, h1, h2⟩ := h.2 w hw hy
  show (mw_any lit A m w && Y w) = true
  rw [mw_any_of (h.1 j h1).2 h1 h2, hy]
  rfl
theorem mw_cov_up {a : Nat} {Y A : Nat → Bool} (h : mw_cov lit m a Y A) (hA : ¬ A a = true) : mw_cov lit m (a + 1) Y A := ⟨fun j hj => by
  have := h.1 j hj
  have : j ≠ a := fun e => hA (by rw [← e]; exact hj)
  omega, h.2⟩
theorem mw_cov_down {a b : Nat} {Y A : Nat → Bool} (h : mw_cov lit m b Y A) (hab : a ≤ b) : mw_cov lit m a Y A := ⟨fun j hj => by
  have := h.1 j hj
  omega, h.2⟩
theorem mw_rm_ct {A : Nat → Bool} {x : Nat} (hx : x < m) (hA : A x = true) : mq_ct A m = mq_ct (mw_rm A x) m + 1 := mq_ct_rm hx hA (if_pos rfl) fun j _ e => (if_neg e).symm
theorem mw_ad_ct {A : Nat → Bool} {x : Nat} (hx : x < m) (hA : A x = false) : mq_ct (mw_ad A x) m = mq_ct A m + 1 := mq_ct_rm hx (if_pos rfl) hA fun j _ e => if_neg e
/-- without a try that lights none of them -/
theorem mw_cov_idle {a : Nat} {Y A : Nat → Bool} (h : mw_cov lit m a Y A) (hno : ∀ w, w < 64 → Y w = true → lit a w = false) : mw_cov lit m (a + 1) Y (mw_rm A a) := by
  refine ⟨fun j hj => ?_, fun w hw hy => ?_⟩
  · unfold mw_rm at hj
    by_cases e : j = a
    · rw [if_pos e] at hj; cases hj
    · rw [if_neg e] at hj
      have := h.1 j hj
      omega
  · obtain ⟨j, h1, h2⟩ := h.2 w hw hy
    refine ⟨j, ?_, h2⟩
    unfold mw_rm
    by_cases e : j = a
    · rw [e, hno w hw hy] at h2; cases h2
    · rw [if_neg e]; exact h1
/-- what a try leaves to the others -/
theorem mw_cov_rest {a : Nat} {Y Z A : Nat → Bool} (h : mw_cov lit m a Y A) (hz : ∀ w, w < 64 → Z w = (Y w && !lit a w)) : mw_cov lit m (a + 1) Z (mw_rm A a) := by
  refine ⟨fun j hj => ?_, fun w hw hy => ?_⟩
  · unfold mw_rm at hj
    by_cases e : j = a
    · rw [if_pos e] at hj; cases hj
    · rw [if_neg e] at hj
      have := h.1 j hj
      omega
  · rw [hz w hw, Bool.and_eq_true, Bool.not_eq_true'] at hy
    obtain ⟨j, h1, h2⟩ := h.2 w hw hy.1
    refine ⟨j, ?_, h2⟩
    unfold mw_rm
    by_cases e : j = a
    · rw [e, hy.2] at h2; cases h2
    · rw [if_neg e]; exact h1
theorem mw_cov_with {a : Nat} {Y Z A : Nat → Bool} (ha : a < m) (h : mw_cov lit m (a + 1) Z A) (hz : ∀ w, w < 64 → Z w = (Y w && !lit a w)) : mw_cov lit m a Y (mw_ad A a) := by
  refine ⟨fun j hj => ?_, fun w hw hy => ?_⟩
  · unfold mw_ad at hj
    by_cases e : j = a
    · omega
    · rw [if_neg e] at hj
      have := h.1 j hj
      omega
  · cases hl : lit a w with
    | true => exact ⟨a, if_pos rfl, hl⟩
    | false =>
      obtain ⟨j, h1, h2⟩ := h.2 w hw (by rw [hz w hw, hy, hl]; rfl)
      refine ⟨j, ?_, h2⟩
      unfold mw_ad
      by_cases e : j = a
      · rw [if_pos e]
      · rw [if_neg e]; exact h1
theorem mw_fst_with {a : Nat} {G A : Nat → Bool} (hG : ∀ j, G j = true → a < j) (hA : A a = true) (hA2 : ∀ j, A j = true → a ≤ j) (h : mw_fst G (mw_rm A a)) : mw_fst (mw_ad G a) A := by
  rcases h with h | ⟨i, h1, h2, h3⟩
  · refine Or.inl fun j => ?_
    unfold mw_ad
    by_cases e : j = a
    · rw [if_pos e, e, hA]
    · rw [if_neg e, h j]
      exact if_neg e
  · have hi := hG i h1
    have ne : i ≠ a := by omega
    refine Or.inr ⟨i, ?_, ?_, fun j hj => ?_⟩
    · unfold mw_ad; rw [if_neg ne]; exact h1
    · unfold mw_rm at h2; rw [if_neg ne] at h2; exact h2
    · unfold mw_ad
      by_cases e : j = a
      · rw [if_pos e, e, hA]
      · rw [if_neg e, h3 j hj]
        exact if_neg e
theorem mw_fst_now {a : Nat} {G A : Nat → Bool} (hG : ∀ j, G j = true → a < j) (hA : A a = false) (hA2 : ∀ j, A j = true → a ≤ j) : mw_fst (mw_ad G a) A := by
  refine Or.inr ⟨a, if_pos rfl, hA, fun j hj => ?_⟩
  unfold mw_ad
  rw [if_neg (by omega)]
  have h1 : G j = false := by
    cases h : G j
    · rfl
    · have := hG j h; omega
  have h2 : A j = false := by
    cases h : A j
    · rfl
    · have := hA2 j h; omega
  rw [h1, h2]
/-- a choice of at most so many tries from one on that lights all: the first there is, if none has fewer -/
def mw_good (lit : Nat → Nat → Bool) (m k a : Nat) (Y G : Nat → Bool) : Prop := mw_cov lit m a Y G ∧ mq_ct G m ≤ k ∧ ∀ A, mw_cov lit m a Y A → mq_ct A m ≤ k → (∀ B, mw_cov lit m a Y B → k ≤ mq_ct B m) → mw_fst G A
def mw_none (lit : Nat → Nat → Bool) (m k a : Nat) (Y : Nat → Bool) : Prop := ∀ A, mw_cov lit m a Y A → k < mq_ct A m
theorem mw_good_empty {k a : Nat} {Y : Nat → Bool} (h : ∀ w, w < 64 → Y w = false) : mw_good lit m k a Y (fun _ => false) := by
  have hc : mw_cov lit m a Y (fun _ => false) := ⟨fun j hj => (by cases hj), fun w hw hy => by rw [h w hw] at hy; cases hy⟩
  refine ⟨hc, by rw [mq_ct_none fun _ _ => rfl]; exact Nat.zero_le _, fun A hA hk hB => Or.inl fun j => ?_⟩
  have h0 := hB _ hc
  rw [mq_ct_none fun _ _ => rfl] at h0
  have hz : mq_ct A m = 0 := by omega
  cases e : A j
  · rfl
  · have := mq_ct_0 hz j (hA.1 j e).2
    rw [e] at this
    cases this
theorem mw_none_0 {a : Nat} {Y : Nat → Bool} (h : ¬ ∀ w, w < 64 → Y w = false) : mw_none lit m 0 a Y := by
  intro A hA
  apply Nat.pos_of_ne_zero
  intro hz
  refine h fun w hw => ?_
  cases e : Y w
  · rfl
  · obtain ⟨j, h1, h2⟩ := hA.2 w hw e
    have := mq_ct_0 hz j (hA.1 j h1).2
    rw [h1] at this
    cases this
/-- a try that lights none of them is left out -/
theorem mw_good_idle {k a : Nat} {Y G : Nat → Bool} (ha : a < m) (hno : ∀ w, w < 64 → Y w = true → lit a w = false) (h : mw_good lit m k (a + 1) Y G) : mw_good lit m k a Y G := by
  obtain ⟨h1, h2, h3⟩ := h
  refine ⟨mw_cov_down h1 (by omega), h2, fun A hA hk hB => ?_⟩
  by_cases e : A a = true
  · have := hB _ (mw_cov_down (mw_cov_idle hA hno) (by omega))
    have := mw_rm_ct ha e
    omega
  · exact h3 A (mw_cov_up hA e) hk fun B hb => hB B (mw_cov_down hb (by omega))
theorem mw_none_idle {k a : Nat} {Y : Nat → Bool} (ha : a < m) (hno : ∀ w, w < 64 → Y w = true → lit a w = false) (h : mw_none lit m k (a + 1) Y) : mw_none lit m k a Y := by
  intro A hA
  by_cases e : A a = true
  · have := h _ (mw_cov_idle hA hno)
    have := mw_rm_ct ha e
    omega
  · exact h A (mw_cov_up hA e)
theorem mw_good_with {k a : Nat} {Y Z G : Nat → Bool} (ha : a < m) (hz : ∀ w, w < 64 → Z w = (Y w && !lit a w)) (h : mw_good lit m k (a + 1) Z G) : mw_good lit m (k + 1) a Y (mw_ad G a) := by
  obtain ⟨h1, h2, h3⟩ := h
  have hG : ∀ j, G j = true → a < j := fun j hj => (h1.1 j hj).1
  have hGa : G a = false := by
    cases e : G a
    · rfl
    · have := hG a e; omega
  refine ⟨mw_cov_with ha h1 hz, by rw [mw_ad_ct ha hGa]; omega, fun A hA hk hB => ?_⟩
  by_cases e : A a = true
  · have hc := mw_rm_ct ha e
    refine mw_fst_with hG e (fun j hj => (hA.1 j hj).1) (h3 _ (mw_cov_rest hA hz) (by omega) fun B hb => ?_)
    have hBa : B a = false := by
      cases e2 : B a
      · rfl
      · have := (hb.1 a e2).1; omega
    have := hB _ (mw_cov_with ha hb hz)
    rw [mw_ad_ct ha hBa] at this
    omega
  · exact mw_fst_now hG (by cases h : A a; exact rfl; exact absurd h e) fun j hj => (hA.1 j hj).1
theorem mw_good_next {k a : Nat} {Y Z G : Nat → Bool} (ha : a < m) (hz : ∀ w, w < 64 → Z w = (Y w && !lit a w)) (hn : mw_none lit m k (a + 1) Z) (h : mw_good lit m (k + 1) (a + 1) Y G) : mw_good lit m (k + 1) a Y G := by
  obtain ⟨h1, h2, h3⟩ := h
  refine ⟨mw_cov_down h1 (by omega), h2, fun A hA hk hB => ?_⟩
  by_cases e : A a = true
  · have := hn _ (mw_cov_rest hA hz)
    have := mw_rm_ct ha e
    omega
  · exact h3 A (mw_cov_up hA e) hk fun B hb => hB B (mw_cov_down hb (by omega))
theorem mw_none_next {k a : Nat} {Y Z : Nat → Bool} (ha : a < m) (hz : ∀ w, w < 64 → Z w = (Y w && !lit a w)) (hn : mw_none lit m k (a + 1) Z) (h : mw_none lit m (k + 1) (a + 1) Y) : mw_none lit m (k + 1) a Y := by
  intro A hA
  by_cases e : A a = true
  · have := hn _ (mw_cov_rest hA hz)
    have := mw_rm_ct ha e
    omega
  · exact h A (mw_cov_up hA e)
end
/-- the class holds so many tries -/
def mw_S (lit : Nat → Nat → Bool) (m : Nat) (i : mMI) (l : mML) : Prop := i 31 3 = nI m ∧ m ≤ 20 ∧ (∀ j, j < m → ∀ w, w < 64 → mq_h (l 33 j) w = lit j w) ∧ ∀ j, j ≤ m → ∀ w, w < 64 → (mq_h (l 34 j) w = true ↔ ∃ k, j ≤ k ∧ k < m ∧ lit k w = true)
def mw_tb (g : Nat) : Nat → Bool := fun j => g.testBit j
theorem mw_tb_ad (g x : Nat) : mw_tb (g ||| 2 ^ x) = mw_ad (mw_tb g) x := by
  funext j
  unfold mw_tb mw_ad
  rw [Nat.testBit_or, Nat.testBit_two_pow]
  by_cases e : j = x
  · rw [if_pos e, decide_eq_true e.symm, Bool.or_true]
  · rw [if_neg e, decide_eq_false (fun z => e z.symm), Bool.or_false]
theorem mw_tb_0 : mw_tb 0 = fun _ => false := by
  funext j
  exact Nat.zero_testBit j
section
variable {lit : Nat → Nat → Bool} {m : Nat} {i : mMI} {l : mML}
theorem qs_widest (L : Nat) {a : Nat} (y : Int64) (hS : mw_S lit m i l) (ha : a ≤ m) : ∃ v, v ≤ 64 ∧ qf_Cover_widest L (nI a) y i l = some (nI v, i, l) ∧ ∀ j, a ≤ j → j < m → mq_ct (fun w => lit j w && mq_h y w) 64 ≤ v := by
  have hm := hS.2.1
  have loop : ∀ (f x b : Nat), x + f = m → b ≤ 64 → (∀ j, a ≤ j → j < x → mq_ct (fun w => lit j w && mq_h y w) 64 ≤ b) → ∃ v, v ≤ 64 ∧ qf_Cover_widest_p6 L y (nI b) (nI x) i l = some (nI v, i, l) ∧ ∀ j, a ≤ j → j < m → mq_ct (fun w => lit j w && mq_h y w) 64 ≤ v := by
    intro f
    induction f with
    | zero =>
      intro x b hx hb h
      have hx : x = m := hx
      subst hx
      refine ⟨b, hb, qe_Cover_widest_p6 L _ _ _ i l _ ?_, h⟩
      rw [hS.1, if_pos (nI_le (Nat.le_refl _) (by omega))]
    | succ f ih =>
      intro x b hx hb h
      have e : mq_ct (mq_h (l 33 x &&& y)) 64 = mq_ct (fun w => lit x w && mq_h y w) 64 := mq_ct_congr fun w hw => by rw [mq_h_and, hS.2.2.1 x (by omega) w hw]
      have hc := mq_ct_le (fun w => lit x w && mq_h y w) 64
      have go : ∀ v r, (if nI b < nI (mq_ct (fun w => lit x w && mq_h y w) 64) then nI (mq_ct (fun w => lit x w && mq_h y w) 64) else nI b) = nI v → qf_Cover_widest_p6 L y (nI v) (nI (x + 1)) i l = some r → qf_Cover_widest_p6 L y (nI b) (nI x) i l = some r := by
        intro v r hv hr
        refine qe_Cover_widest_p6 L _ _ _ i l _ ?_
        rw [hS.1, if_neg (nI_ge (by omega) (by omega)), qs_Two_atL_33 L i l (by omega), Option.bind_some]
        dsimp only
        rw [qs_Lng_bitCount, Option.bind_some]
        dsimp only
        rw [e, hv, nI_1]
        exact hr
      by_cases hlt : b < mq_ct (fun w => lit x w && mq_h y w) 64
      · obtain ⟨v, v1, v2, v3⟩ := ih (x + 1) _ (by omega) hc (fun j h1 h2 => by
          by_cases ej : j = x
          · rw [ej]; exact Nat.le_refl _
          · have := h j h1 (by omega)
            omega)
        exact ⟨v, v1, go _ _ (if_pos (nI_lt hlt (by omega))) v2, v3⟩
      · obtain ⟨v, v1, v2, v3⟩ := ih (x + 1) b (by omega) hb (fun j h1 h2 => by
          by_cases ej : j = x
          · rw [ej]; omega
          · exact h j h1 (by omega))
        exact ⟨v, v1, go _ _ (if_neg (nI_nlt (by omega) (by omega))) v2, v3⟩
  obtain ⟨v, v1, v2, v3⟩ := loop (m - a) a 0 (by omega) (by omega) (fun j h1 h2 => by omega)
  exact ⟨v, v1, qe_Cover_widest L _ _ i l _ v2, v3⟩
theorem qs_firstCover (L : Nat) (hS : mw_S lit m i l) : ∀ (k : Nat), k ≤ 20 → ∀ (a : Nat), a ≤ m → ∀ (y : Int64), (∃ g, g < 2 ^ 20 ∧ qf_Cover_firstCover_31 (8 + k) L (nI a) (nI k) y i l = some (nI g, i, l) ∧ mw_good lit m k a (mq_h y) (mw_tb g)) ∨ (qf_Cover_firstCover_31 (8 + k) L (nI a) (nI k) y i l = some (-1, i, l) ∧ mw_none lit m k a (mq_h y)) := by
  have hm := hS.2.1
  intro k
  induction k with
  | zero =>
    intro _ a ha y
    by_cases hy : y = 0
    · refine Or.inl ⟨0, by omega, qe_Cover_firstCover_31 _ L _ _ _ i l _ ?_, ?_⟩
      · rw [if_pos (mq_cmp0.mpr hy)]; rfl
      · rw [mw_tb_0]
        exact mw_good_empty (mq_h_z.mp hy)
    · refine Or.inr ⟨qe_Cover_firstCover_31 _ L _ _ _ i l _ ?_, mw_none_0 fun h => hy (mq_h_z.mpr h)⟩
      rw [if_neg (fun z => hy (mq_cmp0.mp z)), if_pos (by decide)]
  | succ k ih =>
    intro hk a ha y
    by_cases hy : y = 0
    · refine Or.inl ⟨0, by omega, qe_Cover_firstCover_31 _ L _ _ _ i l _ ?_, ?_⟩
      · rw [if_pos (mq_cmp0.mpr hy)]; rfl
      · rw [mw_tb_0]
        exact mw_good_empty (mq_h_z.mp hy)
    have loop : ∀ (f x : Nat), x + f = m → (∃ g, g < 2 ^ 20 ∧ qf_Cover_firstCover_31_p32 (8 + (k + 1)) L (nI (k + 1)) y (nI x) i l = some (nI g, i, l) ∧ mw_good lit m (k + 1) x (mq_h y) (mw_tb g)) ∨ (qf_Cover_firstCover_31_p32 (8 + (k + 1)) L (nI (k + 1)) y (nI x) i l = some (-1, i, l) ∧ mw_none lit m (k + 1) x (mq_h y)) := by
      intro f
      induction f with
      | zero =>
        intro x hx
        have hx : x = m := hx
        subst hx
        refine Or.inr ⟨qe_Cover_firstCover_31_p32 _ L _ _ _ i l _ ?_, fun A hA => ?_⟩
        · rw [hS.1, if_pos (nI_le (Nat.le_refl _) (by omega))]
        · exfalso
          refine hy (mq_h_z.mpr fun w hw => ?_)
          cases e : mq_h y w
          · rfl
          · obtain ⟨j, h1, h2⟩ := hA.2 w hw e
            have := hA.1 j h1
            omega
      | succ f ihf =>
        intro x hx
        have hxm : x < m := by omega
        have e33 := hS.2.2.1 x hxm
        -- the step, once the tries from here on light all
        have go : ∀ r, (if ((lg_cmp (y &&& (l 34 x ^^^ (-1 : Int64))) (0 : Int64)) : Int32) = (0 : Int32) then (if ((lg_cmp (l 33 x &&& y) (0 : Int64)) : Int32) = (0 : Int32) then (qf_Cover_firstCover_31_p32 (8 + (k + 1)) L (nI (k + 1)) y (nI (x + 1)) i l) else ((qf_Cover_firstCover_31 (8 + k) L (nI (x + 1)) (nI k) (y &&& (l 33 x ^^^ (-1 : Int64))) i l).bind fun q3 => (if (q3.1 : Int32) < (0 : Int32) then (qf_Cover_firstCover_31_p32 (8 + (k + 1)) L (nI (k + 1)) y (nI (x + 1)) q3.2.1 q3.2.2) else (some ((q3.1 ||| nI (2 ^ x)), q3.2.1, q3.2.2))))) else (some ((-1 : Int32), i, l))) = some r → qf_Cover_firstCover_31_p32 (8 + (k + 1)) L (nI (k + 1)) y (nI x) i l = some r := by
          intro r hr
          refine qe_Cover_firstCover_31_p32 _ L _ _ _ i l _ ?_
          rw [hS.1, if_neg (nI_ge hxm (by omega)), if_pos (show 1 < 8 + (k + 1) by omega), qs_Two_atL_34 L i l (by omega), Option.bind_some]
          dsimp only
          rw [if_pos (show 1 < 8 + (k + 1) by omega), qs_Two_atL_33 L i l (by omega), Option.bind_some]
          dsimp only
          rw [show nI (k + 1) - (1 : Int32) = nI k from pk_sub (a := k + 1) (b := 1) (by omega), nI_clamp (show k < 2 ^ 31 by omega), if_pos (show 8 + k < 8 + (k + 1) by omega), nI_1, mq_shl (by omega)]
          exact hr
        by_cases c1 : y &&& (l 34 x ^^^ (-1 : Int64)) = 0
        case neg =>
          refine Or.inr ⟨go _ (if_neg (fun z => c1 (mq_cmp0.mp z))), fun A hA => ?_⟩
          exfalso
          refine c1 (mq_h_z.mpr fun w hw => ?_)
          rw [mq_h_and, mq_h_not _ hw]
          cases e : mq_h y w
          · rfl
          · obtain ⟨j, h1, h2⟩ := hA.2 w hw e
            have h3 := hA.1 j h1
            rw [(hS.2.2.2 x (by omega) w hw).mpr ⟨j, h3.1, h3.2, h2⟩]
            rfl
        by_cases c2 : l 33 x &&& y = 0
        · have hno : ∀ w, w < 64 → mq_h y w = true → lit x w = false := fun w hw hyw => by
            have := mq_h_z.mp c2 w hw
            rw [mq_h_and, e33 w hw, hyw, Bool.and_true] at this
            exact this
          rcases ihf (x + 1) (by omega) with ⟨g, g1, g2, g3⟩ | ⟨g2, g3⟩
          · exact Or.inl ⟨g, g1, go _ (by rw [if_pos (mq_cmp0.mpr c1), if_pos (mq_cmp0.mpr c2)]; exact g2), mw_good_idle hxm hno g3⟩
          · exact Or.inr ⟨go _ (by rw [if_pos (mq_cmp0.mpr c1), if_pos (mq_cmp0.mpr c2)]; exact g2), mw_none_idle hxm hno g3⟩
        · have hz : ∀ w, w < 64 → mq_h (y &&& (l 33 x ^^^ (-1 : Int64))) w = (mq_h y w && !lit x w) := fun w hw => by rw [mq_h_and, mq_h_not _ hw, e33 w hw]
          rcases ih (by omega) (x + 1) (by omega) (y &&& (l 33 x ^^^ (-1 : Int64))) with ⟨g, g1, g2, g3⟩ | ⟨g2, g3⟩
          · refine Or.inl ⟨g ||| 2 ^ x, Nat.or_lt_two_pow g1 (Nat.pow_lt_pow_right (by omega) (by omega)), go _ ?_, ?_⟩
            · rw [if_pos (mq_cmp0.mpr c1), if_neg (fun z => c2 (mq_cmp0.mp z)), g2, Option.bind_some]
              dsimp only
              rw [if_neg (nI_pos (by omega)), mq_or]
            · rw [mw_tb_ad]
              exact mw_good_with hxm hz g3
          · have st : ∀ r, qf_Cover_firstCover_31_p32 (8 + (k + 1)) L (nI (k + 1)) y (nI (x + 1)) i l = some r → qf_Cover_firstCover_31_p32 (8 + (k + 1)) L (nI (k + 1)) y (nI x) i l = some r := fun r hr => go r (by
              rw [if_pos (mq_cmp0.mpr c1), if_neg (fun z => c2 (mq_cmp0.mp z)), g2, Option.bind_some]
              dsimp only
              rw [if_pos (by decide)]
              exact hr)
            rcases ihf (x + 1) (by omega) with ⟨g, h1, h2, h3⟩ | ⟨h2, h3⟩
            · exact Or.inl ⟨g, h1, st _ h2, mw_good_next hxm hz g3 h3⟩
            · exact Or.inr ⟨st _ h2, mw_none_next hxm hz g3 h3⟩
    obtain ⟨v, v1, v2, v3⟩ := qs_widest L y hS ha
    have hcy := mq_ct_le (mq_h y) 64
    have hkv : (k + 1) * v ≤ 20 * 64 := Nat.mul_le_mul hk v1
    have go : ∀ r, (if nI (mq_ct (mq_h y) 64) ≤ nI ((k + 1) * v) then (qf_Cover_firstCover_31_p32 (8 + (k + 1)) L (nI (k + 1)) y (nI a) i l) else (some ((-1 : Int32), i, l))) = some r → qf_Cover_firstCover_31 (8 + (k + 1)) L (nI a) (nI (k + 1)) y i l = some r := by
      intro r hr
      refine qe_Cover_firstCover_31 _ L _ _ _ i l _ ?_
      rw [if_neg (fun z => hy (mq_cmp0.mp z)), if_neg (show ¬ nI (k + 1) ≤ (0 : Int32) from nI_ge (a := 0) (b := k + 1) (by omega) (by omega)), if_pos (show 1 < 8 + (k + 1) by omega), qs_Lng_bitCount, Option.bind_some]
      dsimp only
      rw [if_pos (show 2 < 8 + (k + 1) by omega), v2, Option.bind_some]
      dsimp only
      rw [show nI (k + 1) * nI v = nI ((k + 1) * v) from pk_mul (k + 1) v]
      exact hr
    by_cases hp : mq_ct (mq_h y) 64 ≤ (k + 1) * v
    · rcases loop (m - a) a (by omega) with ⟨g, g1, g2, g3⟩ | ⟨g2, g3⟩
      · exact Or.inl ⟨g, g1, go _ (by rw [if_pos (nI_le hp (by omega))]; exact g2), g3⟩
      · exact Or.inr ⟨go _ (by rw [if_pos (nI_le hp (by omega))]; exact g2), g3⟩
    · refine Or.inr ⟨go _ (if_neg (nI_ge (by omega) (by omega))), fun A hA => ?_⟩
      have h1 := mw_cov_many hA v3
      apply Nat.lt_of_not_le
      intro h2
      have h3 := Nat.mul_le_mul_right v h2
      omega
end
