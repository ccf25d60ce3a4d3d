/-! Changes of a drawer, on both sides. -/
theorem mq_Ck_s {i : mMI} {D : mq_D} {f v : Nat} (h : mq_CD 2 3 4 5 6 7 i D) (hf : f = 4 ∨ f = 5 ∨ f = 6 ∨ f = 7 ∨ f = 8) : mq_CD 2 3 4 5 6 7 (mj_up i 2 f (nI v)) (mq_u D f 0 v) := by
  obtain ⟨a0, a1, a2, a3, a4, a5, a6, b1, b2, b3, b4, b5⟩ := h
  rcases hf with rfl | rfl | rfl | rfl | rfl <;> simp only [mq_CD, mj_up, mq_u] <;> simp <;> exact ⟨by assumption, by assumption, by assumption, by assumption, by assumption, by assumption, b1, b2, b3, b4, b5⟩
theorem mq_Ck_9 {i : mMI} {D : mq_D} {v : Nat} (h : mq_CD 2 3 4 5 6 7 i D) (hv : v ≤ D 9 0) : mq_CD 2 3 4 5 6 7 (mj_up i 2 9 (nI v)) (mq_u D 9 0 v) := by
  obtain ⟨a0, a1, a2, a3, a4, a5, a6, b1, b2, b3, b4, b5⟩ := h
  simp only [mq_CD, mj_up, mq_u]
  simp
  exact ⟨a0, a1, a2, a3, a4, a5, b1, b2, b3, fun j hj => b4 j (by omega), fun j hj => b5 j (by omega)⟩
theorem mq_Mk_s {i : mMI} {D : mq_D} {f g v : Nat} (h : mq_MD i D) (hf : f = 4 ∧ g = 7 ∨ f = 5 ∧ g = 8 ∨ f = 6 ∧ g = 9 ∨ f = 7 ∧ g = 10 ∨ f = 8 ∧ g = 11) : mq_MD (mj_up i 42 g (nI v)) (mq_u D f 0 v) := by
  obtain ⟨a0, a1, a2, a3, a4, a5, a6, b1, b2, b3, b4, b5⟩ := h
  rcases hf with ⟨rfl, rfl⟩ | ⟨rfl, rfl⟩ | ⟨rfl, rfl⟩ | ⟨rfl, rfl⟩ | ⟨rfl, rfl⟩ <;> simp only [mq_MD, mj_up, mq_u] <;> simp <;> exact ⟨by assumption, by assumption, by assumption, by assumption, by assumption, by assumption, b1, b2, b3, b4, b5⟩
theorem mq_Mk_9 {i : mMI} {D : mq_D} {v : Nat} (h : mq_MD i D) (hv : v ≤ D 9 0) : mq_MD (mj_up i 42 12 (nI v)) (mq_u D 9 0 v) := by
  obtain ⟨a0, a1, a2, a3, a4, a5, a6, b1, b2, b3, b4, b5⟩ := h
  simp only [mq_MD, mj_up, mq_u]
  simp
  exact ⟨a0, a1, a2, a3, a4, a5, b1, b2, b3, fun j hj => b4 j (by omega), fun j hj => b5 j (by omega)⟩
/-- a battery's kind and figure -/
def mq_mark (D : mq_D) (b k f : Nat) : mq_D := mq_u (mq_u D 1 b k) 2 b f
theorem mq_Ck_mark {i : mMI} {D : mq_D} {b k f : Nat} (h : mq_CD 2 3 4 5 6 7 i D) : mq_CD 2 3 4 5 6 7 (mj_up (mj_up i 3 b (nI k)) 4 b (nI f)) (mq_mark D b k f) := by
  obtain ⟨a0, a1, a2, a3, a4, a5, a6, b1, b2, b3, b4, b5⟩ := h
  simp only [mq_CD, mj_up, mq_mark, mq_u]
  simp
  refine ⟨a0, a1, a2, a3, a4, a5, a6, fun j hj => ?_, fun j hj => ?_, b3, b4, b5⟩
  · by_cases e : j = b
    · simp [e]
    · simp [e, b1 j hj]
  · by_cases e : j = b
    · simp [e]
    · simp [e, b2 j hj]
theorem mq_Mk_mark {i : mMI} {D : mq_D} {b k f : Nat} (h : mq_MD i D) : mq_MD (mj_up (mj_up i 44 b (nI k)) 45 b (nI f)) (mq_mark D b k f) := by
  obtain ⟨a0, a1, a2, a3, a4, a5, a6, b1, b2, b3, b4, b5⟩ := h
  simp only [mq_MD, mj_up, mq_mark, mq_u]
  simp
  refine ⟨a0, a1, a2, a3, a4, a5, a6, fun j hj => ?_, fun j hj => ?_, b3, b4, b5⟩
  · by_cases e : j = b
    · simp [e]
    · simp [e, b1 j hj]
  · by_cases e : j = b
    · simp [e]
    · simp [e, b2 j hj]
/-- a try is written into the book -/
def mq_book (D : mq_D) (s t : Nat) : mq_D := mq_u (mq_u (mq_u D 10 (D 9 0) s) 11 (D 9 0) t) 9 0 (D 9 0 + 1)
theorem mq_Ck_book {i : mMI} {D : mq_D} {s t : Nat} (h : mq_CD 2 3 4 5 6 7 i D) : mq_CD 2 3 4 5 6 7 (mj_up (mj_up (mj_up i 6 (D 9 0) (nI s)) 7 (D 9 0) (nI t)) 2 9 (nI (D 9 0 + 1))) (mq_book D s t) := by
  obtain ⟨a0, a1, a2, a3, a4, a5, a6, b1, b2, b3, b4, b5⟩ := h
  simp only [mq_CD, mj_up, mq_book, mq_u]
  simp
  refine ⟨a0, a1, a2, a3, a4, a5, b1, b2, b3, fun j hj => ?_, fun j hj => ?_⟩
  · by_cases e : j = D 9 0
    · simp [e]
    · simp [e, b4 j (by omega)]
  · by_cases e : j = D 9 0
    · simp [e]
    · simp [e, b5 j (by omega)]
theorem mq_Mk_book {i : mMI} {D : mq_D} {s t : Nat} (h : mq_MD i D) : mq_MD (mj_up (mj_up (mj_up i 47 (D 9 0) (nI s)) 48 (D 9 0) (nI t)) 42 12 (nI (D 9 0 + 1))) (mq_book D s t) := by
  obtain ⟨a0, a1, a2, a3, a4, a5, a6, b1, b2, b3, b4, b5⟩ := h
  simp only [mq_MD, mj_up, mq_book, mq_u]
  simp
  refine ⟨a0, a1, a2, a3, a4, a5, b1, b2, b3, fun j hj => ?_, fun j hj => ?_⟩
  · by_cases e : j = D 9 0
    · simp [e]
    · simp [e, b4 j (by omega)]
  · by_cases e : j = D 9 0
    · simp [e]
    · simp [e, b5 j (by omega)]
theorem mq_Ok_truly {D : mq_D} (h : mq_Ok D) {v : Nat} (hv : v < 2 ^ D 0 0) : mq_Ok (mq_u D 4 0 v) := by
  obtain ⟨a0, a1, a2, a3, a4, a5, a6, a7, a8, a9, a10⟩ := h
  simp only [mq_Ok, mq_u]
  simp
  exact ⟨a0, a1, a2, a3, hv, a5, a6, a7, a8, a9, a10⟩
theorem mq_Ok_good {D : mq_D} (h : mq_Ok D) {g a : Nat} (hg : g ≤ D 0 0) (ha : a ≤ 1) : mq_Ok (mq_u (mq_u D 5 0 g) 6 0 a) := by
  obtain ⟨a0, a1, a2, a3, a4, a5, a6, a7, a8, a9, a10⟩ := h
  simp only [mq_Ok, mq_u]
  simp
  exact ⟨a0, a1, a2, a3, a4, hg, ha, a7, a8, a9, a10⟩
theorem mq_Ok_lamp {D : mq_D} (h : mq_Ok D) {k n : Nat} (hk : k ≤ 5) (hn : 2 ≤ n ∧ n ≤ 4) : mq_Ok (mq_u (mq_u (mq_u D 7 0 k) 8 0 n) 9 0 0) := by
  obtain ⟨a0, a1, a2, a3, a4, a5, a6, a7, a8, a9, a10⟩ := h
  simp only [mq_Ok, mq_u]
  simp
  exact ⟨a0, a1, a2, a3, a4, a5, a6, hk, hn⟩
theorem mq_Ok_strike {D : mq_D} (h : mq_Ok D) {v : Nat} (hv : v ≤ D 9 0) : mq_Ok (mq_u D 9 0 v) := by
  obtain ⟨a0, a1, a2, a3, a4, a5, a6, a7, a8, a9, a10⟩ := h
  simp only [mq_Ok, mq_u]
  simp
  exact ⟨a0, a1, a2, a3, a4, a5, a6, a7, a8, by omega, fun j hj => a10 j (by omega)⟩
theorem mq_Ok_mark {D : mq_D} (h : mq_Ok D) {b k f : Nat} (hk : k ≤ 5) (hf : f ≤ 9) : mq_Ok (mq_mark D b k f) := by
  obtain ⟨a0, a1, a2, a3, a4, a5, a6, a7, a8, a9, a10⟩ := h
  simp only [mq_Ok, mq_mark, mq_u]
  simp
  refine ⟨a0, fun j hj => ?_, fun j hj => ?_, a3, a4, a5, a6, a7, a8, a9, a10⟩
  · by_cases e : j = b
    · simp [e, hk]
    · simp [e, a1 j hj]
  · by_cases e : j = b
    · simp [e, hf]
    · simp [e, a2 j hj]
theorem mq_Ok_book {D : mq_D} (h : mq_Ok D) {s t : Nat} (h9 : D 9 0 < 10) (hs : s < 256) (ht : t ≤ 9) : mq_Ok (mq_book D s t) := by
  obtain ⟨a0, a1, a2, a3, a4, a5, a6, a7, a8, a9, a10⟩ := h
  simp only [mq_Ok, mq_book, mq_u]
  simp
  refine ⟨a0, a1, a2, a3, a4, a5, a6, a7, a8, by omega, fun j hj => ?_⟩
  by_cases e : j = D 9 0
  · simp [e, hs, ht]
  · simp [e, a10 j (by omega)]
