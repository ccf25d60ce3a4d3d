/-! The relation between the two sides, and what keeps it. -/
/-- the model's image at an offset of its kept row -/
def mq_KD (o : Nat) (i : mMI) (D : mq_D) : Prop :=
  i 55 (o + 44) = nI (D 0 0) ∧ i 55 (o + 45) = nI (D 4 0) ∧ i 55 (o + 46) = nI (D 5 0) ∧ i 55 (o + 47) = nI (D 6 0) ∧ i 55 (o + 48) = nI (D 7 0) ∧ i 55 (o + 49) = nI (D 8 0) ∧ i 55 (o + 50) = nI (D 9 0) ∧ (∀ j, j < 8 → i 55 (o + j) = nI (D 1 j)) ∧ (∀ j, j < 8 → i 55 (o + 8 + j) = nI (D 2 j)) ∧ (∀ j, j < 8 → i 55 (o + 16 + j) = nI (D 3 j)) ∧ (∀ j, j < D 9 0 → i 55 (o + 24 + j) = nI (D 10 j)) ∧ (∀ j, j < D 9 0 → i 55 (o + 34 + j) = nI (D 11 j))
def mq_RC (i : mMI) (D P M : mq_D) (R : Nat → Int32) : Prop :=
  mq_CD 2 3 4 5 6 7 i D ∧ i 1 3 = nI (M 0 0) ∧ (M 0 0 = 1 → mq_CD 8 9 10 11 12 13 i P) ∧ i 20 1 = nI (M 1 0) ∧ (∀ j, j < M 1 0 → i 21 j = nI (M 3 j)) ∧ i 1 6 = nI (M 2 0) ∧ (∀ j, j < M 2 0 → i 22 j = nI (M 4 j)) ∧ ∀ j, j < 7 → i 23 j = R j
def mq_RM (i : mMI) (D P M : mq_D) (R : Nat → Int32) : Prop :=
  mq_MD i D ∧ i 42 25 = nI (M 0 0) ∧ ((M 0 0 = 1 → mq_KD 0 i P) ∧ i 68 1 = 0 ∧ i 69 1 = 0) ∧ i 42 19 = nI (M 1 0) ∧ (∀ j, j < M 1 0 → i 49 j = nI (M 3 j)) ∧ i 42 53 = nI (M 2 0) ∧ (∀ j, j < M 2 0 → i 72 j = nI (M 4 j)) ∧ ∀ j, j < 7 → i 43 j = R j
def mq_OkS (D P M : mq_D) : Prop :=
  mq_Ok D ∧ M 0 0 ≤ 1 ∧ (M 0 0 = 1 → mq_Ok P) ∧ M 1 0 ≤ 96 ∧ (∀ j, j < M 1 0 → M 3 j ≤ 255) ∧ M 2 0 ≤ 10 ∧ (∀ j, j < M 2 0 → M 4 j ≤ 255)
/-- one call on both sides: the same answer, and the relation again -/
def mq_P {α : Type} (f g : mMI → mML → Option (α × mMI × mML)) (i : mMI) (l : mML) : Prop :=
  ∃ r i1 l1 i2 l2 D P M R, f i l = some (r, i1, l1) ∧ g i1 l1 = some (r, i2, l2) ∧ mq_RC i2 D P M R ∧ mq_RM i2 D P M R ∧ mq_OkS D P M
theorem mq_RC.congr {i i' : mMI} {D P M : mq_D} {R : Nat → Int32} (h : mq_RC i D P M R) (hk : ∀ k, k < 24 → i' k = i k) : mq_RC i' D P M R := by
  unfold mq_RC mq_CD
  rw [hk 1 (by omega), hk 2 (by omega), hk 3 (by omega), hk 4 (by omega), hk 5 (by omega), hk 6 (by omega), hk 7 (by omega), hk 8 (by omega), hk 9 (by omega), hk 10 (by omega), hk 11 (by omega), hk 12 (by omega), hk 13 (by omega), hk 20 (by omega), hk 21 (by omega), hk 22 (by omega), hk 23 (by omega)]
  exact h
/-- the model's cells that are more than scratch -/
theorem mq_RM.congr {i i' : mMI} {D P M : mq_D} {R : Nat → Int32} (h : mq_RM i D P M R) (h42 : ∀ j, (6 ≤ j ∧ j ≤ 12 ∨ j = 19 ∨ j = 25 ∨ j = 53) → i' 42 j = i 42 j) (hk : ∀ k, (43 ≤ k ∧ k ≤ 49 ∨ k = 55 ∨ k = 68 ∨ k = 69 ∨ k = 72) → i' k = i k) : mq_RM i' D P M R := by
  unfold mq_RM mq_MD mq_KD
  rw [hk 43 (by omega), hk 44 (by omega), hk 45 (by omega), hk 46 (by omega), hk 47 (by omega), hk 48 (by omega), hk 49 (by omega), hk 55 (by omega), hk 68 (by omega), hk 69 (by omega), hk 72 (by omega), h42 6 (by omega), h42 7 (by omega), h42 8 (by omega), h42 9 (by omega), h42 10 (by omega), h42 11 (by omega), h42 12 (by omega), h42 19 (by omega), h42 25 (by omega), h42 53 (by omega)]
  exact h
theorem mq_P_mk {α : Type} {f g : mMI → mML → Option (α × mMI × mML)} {i i1 : mMI} {l l1 : mML} {r : α} {D P M D' P' M' : mq_D} {R R' : Nat → Int32} (hM : mq_RM i D P M R) (hf : f i l = some (r, i1, l1)) (hc : mq_RC i1 D' P' M' R') (hk : ∀ k, 42 ≤ k → i1 k = i k) (hO : mq_OkS D' P' M')
    (hg : ∀ i0, mq_RM i0 D P M R → ∃ i2 l2, g i0 l1 = some (r, i2, l2) ∧ mq_RM i2 D' P' M' R' ∧ ∀ k, k < 42 → i2 k = i0 k) : mq_P f g i l := by
  have hM1 : mq_RM i1 D P M R := hM.congr (fun j _ => by rw [hk 42 (by omega)]) (fun k h => hk k (by omega))
  obtain ⟨i2, l2, g1, g2, g3⟩ := hg i1 hM1
  exact ⟨r, i1, l1, i2, l2, D', P', M', R', hf, g1, hc.congr (fun k h => g3 k (by omega)), g2, hO⟩
/-- a call that leaves all as it was -/
theorem mq_P_same {α : Type} {f g : mMI → mML → Option (α × mMI × mML)} {i : mMI} {l : mML} {r : α} {D P M : mq_D} {R : Nat → Int32} (hC : mq_RC i D P M R) (hM : mq_RM i D P M R) (hO : mq_OkS D P M) (hf : f i l = some (r, i, l)) (hg : ∀ i0, mq_RM i0 D P M R → g i0 l = some (r, i0, l)) : mq_P f g i l :=
  mq_P_mk hM hf hC (fun _ _ => rfl) hO fun i0 h0 => ⟨i0, l, hg i0 h0, h0, fun _ _ => rfl⟩
def mq_u (D : mq_D) (a b v : Nat) : mq_D := fun x y => if x = a ∧ y = b then v else D x y
theorem mq_upn {i : mMI} {a k b : Nat} {v : Int32} (h : b ≠ a) : mj_up i a k v b = i b := by
  funext j
  simp [mj_up, h]
theorem mq_P_ref {α : Type} {f g : mMI → mML → Option (α × mMI × mML)} {i : mMI} {l : mML} {r : α} {D P M : mq_D} {R : Nat → Int32} (hC : mq_RC i D P M R) (hM : mq_RM i D P M R) (hO : mq_OkS D P M) (k : Nat) (hf : f i l = some (r, mq_ref 23 i k, l)) (hg : ∀ i0, mq_RM i0 D P M R → g i0 l = some (r, mq_ref 43 i0 k, l)) : mq_P f g i l := by
  have hr : ∀ (c : Nat) (i : mMI), (∀ j, j < 7 → i c j = R j) → ∀ j, j < 7 → mq_ref c i k c j = (fun j => if j = k then R j + 1 else R j) j := by
    intro c i h j hj
    unfold mq_ref
    rw [mq_upi_at]
    by_cases e : j = k
    · subst e
      simp only [if_true]
      rw [h j hj]
    · simp only [if_neg e]
      exact h j hj
  refine mq_P_mk (D' := D) (P' := P) (M' := M) (R' := fun j => if j = k then R j + 1 else R j) hM hf ?_ (fun a h => mq_upn (by omega)) hO fun i0 h0 => ⟨_, _, hg i0 h0, ?_, fun a h => mq_upn (by omega)⟩
  · have h2 : mq_RC (mq_ref 23 i k) D P M (fun j => mq_ref 23 i k 23 j) := by
      obtain ⟨a0, a1, a2, a3, a4, a5, a6, a7⟩ := hC
      have e : ∀ c, c ≠ 23 → mq_ref 23 i k c = i c := fun c hc => mq_upn hc
      unfold mq_RC mq_CD
      rw [e 1 (by omega), e 2 (by omega), e 3 (by omega), e 4 (by omega), e 5 (by omega), e 6 (by omega), e 7 (by omega), e 8 (by omega), e 9 (by omega), e 10 (by omega), e 11 (by omega), e 12 (by omega), e 13 (by omega), e 20 (by omega), e 21 (by omega), e 22 (by omega)]
      exact ⟨a0, a1, a2, a3, a4, a5, a6, fun _ _ => rfl⟩
    obtain ⟨a0, a1, a2, a3, a4, a5, a6, _⟩ := h2
    exact ⟨a0, a1, a2, a3, a4, a5, a6, hr 23 i hC.2.2.2.2.2.2.2⟩
  · have h2 : mq_RM (mq_ref 43 i0 k) D P M (fun j => mq_ref 43 i0 k 43 j) := by
      obtain ⟨a0, a1, a2, a3, a4, a5, a6, a7⟩ := h0
      have e : ∀ c, c ≠ 43 → mq_ref 43 i0 k c = i0 c := fun c hc => mq_upn hc
      unfold mq_RM mq_MD mq_KD
      rw [e 42 (by omega), e 44 (by omega), e 45 (by omega), e 46 (by omega), e 47 (by omega), e 48 (by omega), e 49 (by omega), e 55 (by omega), e 68 (by omega), e 69 (by omega), e 72 (by omega)]
      exact ⟨a0, a1, a2, a3, a4, a5, a6, fun _ _ => rfl⟩
    obtain ⟨a0, a1, a2, a3, a4, a5, a6, _⟩ := h2
    exact ⟨a0, a1, a2, a3, a4, a5, a6, hr 43 i0 h0.2.2.2.2.2.2.2⟩
/-- the drawer of a relation is changed on both sides -/
theorem mq_P_D {α : Type} {f g : mMI → mML → Option (α × mMI × mML)} {i i1 : mMI} {l l1 : mML} {r : α} {D P M D' : mq_D} {R : Nat → Int32} (hC : mq_RC i D P M R) (hM : mq_RM i D P M R) (hO : mq_OkS D P M) (hf : f i l = some (r, i1, l1)) (hc : mq_CD 2 3 4 5 6 7 i1 D') (hk : ∀ k, (k < 2 ∨ 8 ≤ k ∧ k < 24 ∨ 42 ≤ k) → i1 k = i k) (hO' : mq_Ok D')
    (hg : ∀ i0, mq_RM i0 D P M R → ∃ i2 l2, g i0 l1 = some (r, i2, l2) ∧ mq_MD i2 D' ∧ (∀ k, k < 42 → i2 k = i0 k) ∧ (∀ j, (j = 19 ∨ j = 25 ∨ j = 53) → i2 42 j = i0 42 j) ∧ ∀ k, (k = 43 ∨ k = 49 ∨ k = 55 ∨ k = 68 ∨ k = 69 ∨ k = 72) → i2 k = i0 k) : mq_P f g i l := by
  refine mq_P_mk (D' := D') (P' := P) (M' := M) (R' := R) hM hf ?_ (fun k h => hk k (by omega)) ⟨hO', hO.2⟩ ?_
  · obtain ⟨_, a1, a2, a3, a4, a5, a6, a7⟩ := hC
    refine ⟨hc, ?_⟩
    unfold mq_CD
    rw [hk 1 (by omega), hk 8 (by omega), hk 9 (by omega), hk 10 (by omega), hk 11 (by omega), hk 12 (by omega), hk 13 (by omega), hk 20 (by omega), hk 21 (by omega), hk 22 (by omega), hk 23 (by omega)]
    exact ⟨a1, a2, a3, a4, a5, a6, a7⟩
  · intro i0 h0
    obtain ⟨i2, l2, g1, g2, g3, g4, g5⟩ := hg i0 h0
    refine ⟨i2, l2, g1, ⟨g2, ?_⟩, g3⟩
    obtain ⟨_, a1, a2, a3, a4, a5, a6, a7⟩ := h0
    unfold mq_KD
    rw [g4 19 (by omega), g4 25 (by omega), g4 53 (by omega), g5 43 (by omega), g5 49 (by omega), g5 55 (by omega), g5 68 (by omega), g5 69 (by omega), g5 72 (by omega)]
    exact ⟨a1, a2, a3, a4, a5, a6, a7⟩
/-- a number between two others, or not -/
theorem mq_tri (x a b : Int32) {n m : Nat} (ha : a.toInt = n) (hb : b.toInt = m) : (x < a ∧ ¬ a ≤ x) ∨ (b < x ∧ ¬ x ≤ b ∧ a ≤ x ∧ ¬ x < a ∨ b < x ∧ m < n) ∨ ∃ j, n ≤ j ∧ j ≤ m ∧ x = nI j ∧ a ≤ x ∧ x ≤ b ∧ ¬ x < a ∧ ¬ b < x := by
  simp only [Int32.lt_iff_toInt_lt, Int32.le_iff_toInt_le]
  by_cases h1 : x.toInt < a.toInt
  · exact Or.inl ⟨h1, by omega⟩
  · by_cases h2 : b.toInt < x.toInt
    · exact Or.inr (Or.inl (Or.inl ⟨h2, by omega, by omega, h1⟩))
    · refine Or.inr (Or.inr ⟨x.toInt.toNat, by omega, by omega, ?_, by omega, by omega, by omega, by omega⟩)
      have := Int32.toInt_lt x
      apply Int32.toInt_inj.mp
      rw [nI_toInt (by omega)]
      omega
