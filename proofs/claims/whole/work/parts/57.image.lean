/-! The kept row of the model: kept, or put back. -/
/-- what stands at each place of an image -/
def mq_F (i : mMI) (t : Nat) : Int32 := if t < 8 then i 44 t else if t < 16 then i 45 (t - 8) else if t < 24 then i 46 (t - 16) else if t < 34 then i 47 (t - 24) else if t < 44 then i 48 (t - 34) else i 42 (t - 38)
def mq_Kp (o : Nat) (i0 : mMI) (c : Nat) (i : mMI) : Prop := i 42 26 = 1 ∧ i 42 27 = nI (o + c) ∧ (∀ k, k ≠ 42 → k ≠ 55 → i k = i0 k) ∧ (∀ j, j ≠ 26 → j ≠ 27 → i 42 j = i0 42 j) ∧ (∀ t, t < c → i 55 (o + t) = mq_F i0 t) ∧ (∀ j, (j < o ∨ o + c ≤ j) → i 55 j = i0 55 j)
theorem mq_Kp_s {o c : Nat} {i0 i : mMI} {x : Int32} (h : mq_Kp o i0 c i) (hx : x = mq_F i0 c) : mq_Kp o i0 (c + 1) (mj_up (mj_up i 55 (o + c) x) 42 27 (nI (o + c + 1))) := by
  obtain ⟨h1, h2, h3, h4, h5, h6⟩ := h
  refine ⟨?_, ?_, ?_, ?_, ?_, ?_⟩
  · rw [mq_upi_at, if_neg (by omega), mq_upn (by omega)]; exact h1
  · rw [mq_upi_at, if_pos rfl]; rfl
  · intro k k1 k2
    rw [mq_upn k1, mq_upn k2]; exact h3 k k1 k2
  · intro j j1 j2
    rw [mq_upi_at, if_neg j2, mq_upn (by omega)]; exact h4 j j1 j2
  · intro t ht
    rw [mq_upn (by omega), mq_upi_at]
    by_cases e : t = c
    · rw [if_pos (by omega), e]; exact hx
    · rw [if_neg (by omega)]; exact h5 t (by omega)
  · intro j hj
    rw [mq_upn (by omega), mq_upi_at, if_neg (by omega)]
    exact h6 j (by omega)
theorem mq_Kp_a {o c f : Nat} {i0 i : mMI} {x : Int32} (h : mq_Kp o i0 c i) (hf : f ≠ 26 ∧ f ≠ 27) (hx : x = i0 42 f) : mq_Kp o i0 c (mj_up i 42 f x) := by
  obtain ⟨h1, h2, h3, h4, h5, h6⟩ := h
  refine ⟨?_, ?_, ?_, ?_, ?_, ?_⟩
  · rw [mq_upi_at, if_neg (by omega)]; exact h1
  · rw [mq_upi_at, if_neg (by omega)]; exact h2
  · intro k k1 k2
    rw [mq_upn k1]; exact h3 k k1 k2
  · intro j j1 j2
    rw [mq_upi_at]
    by_cases e : j = f
    · rw [if_pos e, e]; exact hx
    · rw [if_neg e]; exact h4 j j1 j2
  · intro t ht
    rw [mq_upn (by omega)]; exact h5 t ht
  · intro j hj
    rw [mq_upn (by omega)]; exact h6 j hj
theorem qs_one_keep (L : Nat) {o c : Nat} {i0 i : mMI} (x : Int32) (l : mML) (h : mq_Kp o i0 c i) (hc : o + c < 120) : qf_Mod_passOne L x i l = some (x, mj_up (mj_up i 55 (o + c) x) 42 27 (nI (o + c + 1)), l) := by
  refine qe_Mod_passOne L x i l _ ?_
  simp only [h.1, h.2.1, mq_10, ↓reduceIte, if_neg (nI_in hc (show 120 < 2 ^ 31 by omega)), nI_1]
  rw [nI_clamp (by omega)]
def mq_Pp (o : Nat) (i0 : mMI) (c : Nat) (i : mMI) : Prop := i 42 26 = 0 ∧ i 42 27 = nI (o + c) ∧ (∀ k, k ≠ 42 → ¬ (44 ≤ k ∧ k ≤ 48) → i k = i0 k) ∧ (∀ j, ¬ (6 ≤ j ∧ j ≤ 12) → j ≠ 26 → j ≠ 27 → i 42 j = i0 42 j) ∧ (∀ t, t < c → mq_F i t = i0 55 (o + t))
theorem mq_F_27 (i : mMI) (v : Int32) {t : Nat} (ht : t ≤ 50) : mq_F (mj_up i 42 27 v) t = mq_F i t := by
  unfold mq_F mj_up
  (repeat' split) <;> first | rfl | omega
theorem mq_F_f (i : mMI) (v : Int32) {f : Nat} (hf : 6 ≤ f ∧ f ≤ 12) (t : Nat) : mq_F (mj_up i 42 f v) t = if t = 38 + f then v else mq_F i t := by
  unfold mq_F mj_up
  (repeat' split) <;> first | rfl | omega
theorem qs_one_put (L : Nat) {o c : Nat} {i0 i : mMI} (x : Int32) (l : mML) (h : mq_Pp o i0 c i) (hc : o + c < 120) : qf_Mod_passOne L x i l = some (i0 55 (o + c), mj_up i 42 27 (nI (o + c + 1)), l) := by
  refine qe_Mod_passOne L x i l _ ?_
  simp only [h.1, h.2.1, ↓reduceIte, if_neg (nI_in hc (show 120 < 2 ^ 31 by omega)), nI_1]
  rw [nI_clamp (by omega), h.2.2.1 55 (by omega) (by omega)]
theorem mq_Pp_f {o c f : Nat} {i0 i : mMI} (h : mq_Pp o i0 c i) (hf : 6 ≤ f ∧ f ≤ 12) (hc : c = 38 + f) : mq_Pp o i0 (c + 1) (mj_up (mj_up i 42 27 (nI (o + c + 1))) 42 f (i0 55 (o + c))) := by
  obtain ⟨h1, h2, h3, h4, h5⟩ := h
  refine ⟨?_, ?_, ?_, ?_, ?_⟩
  · rw [mq_upi_at, if_neg (by omega), mq_upi_at, if_neg (by omega)]; exact h1
  · rw [mq_upi_at, if_neg (by omega), mq_upi_at, if_pos rfl]; rfl
  · intro k k1 k2
    rw [mq_upn k1, mq_upn k1]; exact h3 k k1 k2
  · intro j j1 j2 j3
    rw [mq_upi_at, if_neg (by omega), mq_upi_at, if_neg j3]; exact h4 j j1 j2 j3
  · intro t ht
    rw [mq_F_f _ _ hf, mq_F_27 _ _ (by omega)]
    by_cases e : t = 38 + f
    · rw [if_pos e, e, hc]
    · rw [if_neg e]; exact h5 t (by omega)

theorem mq_F_44 (i : mMI) (v : Int32) {j : Nat} (hj : j < 8) (t : Nat) : mq_F (mj_up i 44 j v) t = if t = 0 + j then v else mq_F i t := by
  unfold mq_F mj_up
  (repeat' split) <;> first | rfl | omega
theorem mq_Fa_44 (i : mMI) {j : Nat} (hj : j < 8) : mq_F i (0 + j) = i 44 j := by
  have e := mq_F_44 i (i 44 j) hj (0 + j)
  rw [if_pos rfl] at e
  have z : mj_up i 44 j (i 44 j) = i := by
    funext x y
    unfold mj_up
    split
    · next h => rw [h.1, h.2]
    · rfl
  rw [z] at e
  exact e
theorem qs_keep_44 (L : Nat) {o : Nat} {i0 i : mMI} (l : mML) (h : mq_Kp o i0 0 i) (ho : o ≤ 60) : ∃ i', qf_Mod_passes_44 L i l = some (i', l) ∧ mq_Kp o i0 (0 + 8) i' := by
  have loop : ∀ (m j : Nat), j + m = 8 → ∀ i1, mq_Kp o i0 (0 + j) i1 → ∃ i', qf_Mod_passes_44_p2 L (nI j) i1 l = some (i', l) ∧ mq_Kp o i0 (0 + 8) i' := by
    intro m
    induction m with
    | zero =>
      intro j hj i1 h1
      have hj : j = 8 := hj
      subst hj
      refine ⟨i1, qe_Mod_passes_44_p2 L _ i1 l _ ?_, h1⟩
      rw [if_pos (show Int32.ofNat 8 ≤ nI 8 from nI_le (Nat.le_refl _) (by omega))]
    | succ m ih =>
      intro j hj i1 h1
      have hlt : j < 8 := by omega
      have e : i1 44 j = mq_F i0 (0 + j) := by
        rw [mq_Fa_44 i0 hlt, h1.2.2.1 44 (by omega) (by omega)]
      obtain ⟨i', g1, g2⟩ := ih (j + 1) (by omega) _ (mq_Kp_s h1 e)
      refine ⟨i', qe_Mod_passes_44_p2 L _ i1 l _ ?_, g2⟩
      rw [if_neg (show ¬ Int32.ofNat 8 ≤ nI j from nI_ge (by omega) (by omega))]
      simp only [h1.1, h1.2.1, mq_10, ↓reduceIte, if_neg (nI_in hlt (show 8 < 2 ^ 31 by omega)), if_neg (nI_in (show o + (0 + j) < 120 by omega) (show 120 < 2 ^ 31 by omega)), nI_1]
      rw [nI_clamp (by omega), nI_clamp (by omega)]
      exact g1
  obtain ⟨i', g1, g2⟩ := loop 8 0 rfl i h
  exact ⟨i', qe_Mod_passes_44 L i l _ g1, g2⟩
theorem qs_put_44 (L : Nat) {o : Nat} {i0 i : mMI} (l : mML) (h : mq_Pp o i0 0 i) (ho : o ≤ 60) : ∃ i', qf_Mod_passes_44 L i l = some (i', l) ∧ mq_Pp o i0 (0 + 8) i' := by
  have loop : ∀ (m j : Nat), j + m = 8 → ∀ i1, mq_Pp o i0 (0 + j) i1 → ∃ i', qf_Mod_passes_44_p2 L (nI j) i1 l = some (i', l) ∧ mq_Pp o i0 (0 + 8) i' := by
    intro m
    induction m with
    | zero =>
      intro j hj i1 h1
      have hj : j = 8 := hj
      subst hj
      refine ⟨i1, qe_Mod_passes_44_p2 L _ i1 l _ ?_, h1⟩
      rw [if_pos (show Int32.ofNat 8 ≤ nI 8 from nI_le (Nat.le_refl _) (by omega))]
    | succ m ih =>
      intro j hj i1 h1
      have hlt : j < 8 := by omega
      have k1 := h1
      obtain ⟨q1, q2, q3, q4, q5⟩ := k1
      have n1 : mq_Pp o i0 (0 + (j + 1)) (mj_up (mj_up i1 44 j (i0 55 (o + (0 + j)))) 42 27 (nI (o + (0 + j) + 1))) := by
        refine ⟨?_, ?_, ?_, ?_, ?_⟩
        · rw [mq_upi_at, if_neg (by omega), mq_upn (by omega)]; exact q1
        · rw [mq_upi_at, if_pos rfl]; rfl
        · intro k k1 k2
          rw [mq_upn k1, mq_upn (by omega)]; exact q3 k k1 k2
        · intro y y1 y2 y3
          rw [mq_upi_at, if_neg y3, mq_upn (by omega)]; exact q4 y y1 y2 y3
        · intro t ht
          rw [mq_F_27 _ _ (by omega), mq_F_44 _ _ hlt]
          by_cases e : t = 0 + j
          · rw [if_pos e, e]
          · rw [if_neg e]; exact q5 t (by omega)
      obtain ⟨i', g1, g2⟩ := ih (j + 1) (by omega) _ n1
      refine ⟨i', qe_Mod_passes_44_p2 L _ i1 l _ ?_, g2⟩
      rw [if_neg (show ¬ Int32.ofNat 8 ≤ nI j from nI_ge (by omega) (by omega))]
      simp only [q1, q2, ↓reduceIte, if_neg (nI_in hlt (show 8 < 2 ^ 31 by omega)), if_neg (nI_in (show o + (0 + j) < 120 by omega) (show 120 < 2 ^ 31 by omega)), nI_1]
      rw [nI_clamp (by omega), nI_clamp (by omega), q3 55 (by omega) (by omega)]
      exact g1
  obtain ⟨i', g1, g2⟩ := loop 8 0 rfl i h
  exact ⟨i', qe_Mod_passes_44 L i l _ g1, g2⟩

theorem mq_F_45 (i : mMI) (v : Int32) {j : Nat} (hj : j < 8) (t : Nat) : mq_F (mj_up i 45 j v) t = if t = 8 + j then v else mq_F i t := by
  unfold mq_F mj_up
  (repeat' split) <;> first | rfl | omega
theorem mq_Fa_45 (i : mMI) {j : Nat} (hj : j < 8) : mq_F i (8 + j) = i 45 j := by
  have e := mq_F_45 i (i 45 j) hj (8 + j)
  rw [if_pos rfl] at e
  have z : mj_up i 45 j (i 45 j) = i := by
    funext x y
    unfold mj_up
    split
    · next h => rw [h.1, h.2]
    · rfl
  rw [z] at e
  exact e
theorem qs_keep_45 (L : Nat) {o : Nat} {i0 i : mMI} (l : mML) (h : mq_Kp o i0 8 i) (ho : o ≤ 60) : ∃ i', qf_Mod_passes_45 L i l = some (i', l) ∧ mq_Kp o i0 (8 + 8) i' := by
  have loop : ∀ (m j : Nat), j + m = 8 → ∀ i1, mq_Kp o i0 (8 + j) i1 → ∃ i', qf_Mod_passes_45_p2 L (nI j) i1 l = some (i', l) ∧ mq_Kp o i0 (8 + 8) i' := by
    intro m
    induction m with
    | zero =>
      intro j hj i1 h1
      have hj : j = 8 := hj
      subst hj
      refine ⟨i1, qe_Mod_passes_45_p2 L _ i1 l _ ?_, h1⟩
      rw [if_pos (show Int32.ofNat 8 ≤ nI 8 from nI_le (Nat.le_refl _) (by omega))]
    | succ m ih =>
      intro j hj i1 h1
      have hlt : j < 8 := by omega
      have e : i1 45 j = mq_F i0 (8 + j) := by
        rw [mq_Fa_45 i0 hlt, h1.2.2.1 45 (by omega) (by omega)]
      obtain ⟨i', g1, g2⟩ := ih (j + 1) (by omega) _ (mq_Kp_s h1 e)
      refine ⟨i', qe_Mod_passes_45_p2 L _ i1 l _ ?_, g2⟩
      rw [if_neg (show ¬ Int32.ofNat 8 ≤ nI j from nI_ge (by omega) (by omega))]
      simp only [h1.1, h1.2.1, mq_10, ↓reduceIte, if_neg (nI_in hlt (show 8 < 2 ^ 31 by omega)), if_neg (nI_in (show o + (8 + j) < 120 by omega) (show 120 < 2 ^ 31 by omega)), nI_1]
      rw [nI_clamp (by omega), nI_clamp (by omega)]
      exact g1
  obtain ⟨i', g1, g2⟩ := loop 8 0 rfl i h
  exact ⟨i', qe_Mod_passes_45 L i l _ g1, g2⟩
theorem qs_put_45 (L : Nat) {o : Nat} {i0 i : mMI} (l : mML) (h : mq_Pp o i0 8 i) (ho : o ≤ 60) : ∃ i', qf_Mod_passes_45 L i l = some (i', l) ∧ mq_Pp o i0 (8 + 8) i' := by
  have loop : ∀ (m j : Nat), j + m = 8 → ∀ i1, mq_Pp o i0 (8 + j) i1 → ∃ i', qf_Mod_passes_45_p2 L (nI j) i1 l = some (i', l) ∧ mq_Pp o i0 (8 + 8) i' := by
    intro m
    induction m with
    | zero =>
      intro j hj i1 h1
      have hj : j = 8 := hj
      subst hj
      refine ⟨i1, qe_Mod_passes_45_p2 L _ i1 l _ ?_, h1⟩
      rw [if_pos (show Int32.ofNat 8 ≤ nI 8 from nI_le (Nat.le_refl _) (by omega))]
    | succ m ih =>
      intro j hj i1 h1
      have hlt : j < 8 := by omega
      have k1 := h1
      obtain ⟨q1, q2, q3, q4, q5⟩ := k1
      have n1 : mq_Pp o i0 (8 + (j + 1)) (mj_up (mj_up i1 45 j (i0 55 (o + (8 + j)))) 42 27 (nI (o + (8 + j) + 1))) := by
        refine ⟨?_, ?_, ?_, ?_, ?_⟩
        · rw [mq_upi_at, if_neg (by omega), mq_upn (by omega)]; exact q1
        · rw [mq_upi_at, if_pos rfl]; rfl
        · intro k k1 k2
          rw [mq_upn k1, mq_upn (by omega)]; exact q3 k k1 k2
        · intro y y1 y2 y3
          rw [mq_upi_at, if_neg y3, mq_upn (by omega)]; exact q4 y y1 y2 y3
        · intro t ht
          rw [mq_F_27 _ _ (by omega), mq_F_45 _ _ hlt]
          by_cases e : t = 8 + j
          · rw [if_pos e, e]
          · rw [if_neg e]; exact q5 t (by omega)
      obtain ⟨i', g1, g2⟩ := ih (j + 1) (by omega) _ n1
      refine ⟨i', qe_Mod_passes_45_p2 L _ i1 l _ ?_, g2⟩
      rw [if_neg (show ¬ Int32.ofNat 8 ≤ nI j from nI_ge (by omega) (by omega))]
      simp only [q1, q2, ↓reduceIte, if_neg (nI_in hlt (show 8 < 2 ^ 31 by omega)), if_neg (nI_in (show o + (8 + j) < 120 by omega) (show 120 < 2 ^ 31 by omega)), nI_1]
      rw [nI_clamp (by omega), nI_clamp (by omega), q3 55 (by omega) (by omega)]
      exact g1
  obtain ⟨i', g1, g2⟩ := loop 8 0 rfl i h
  exact ⟨i', qe_Mod_passes_45 L i l _ g1, g2⟩

theorem mq_F_46 (i : mMI) (v : Int32) {j : Nat} (hj : j < 8) (t : Nat) : mq_F (mj_up i 46 j v) t = if t = 16 + j then v else mq_F i t := by
  unfold mq_F mj_up
  (repeat' split) <;> first | rfl | omega
theorem mq_Fa_46 (i : mMI) {j : Nat} (hj : j < 8) : mq_F i (16 + j) = i 46 j := by
  have e := mq_F_46 i (i 46 j) hj (16 + j)
  rw [if_pos rfl] at e
  have z : mj_up i 46 j (i 46 j) = i := by
    funext x y
    unfold mj_up
    split
    · next h => rw [h.1, h.2]
    · rfl
  rw [z] at e
  exact e
theorem qs_keep_46 (L : Nat) {o : Nat} {i0 i : mMI} (l : mML) (h : mq_Kp o i0 16 i) (ho : o ≤ 60) : ∃ i', qf_Mod_passes_46 L i l = some (i', l) ∧ mq_Kp o i0 (16 + 8) i' := by
  have loop : ∀ (m j : Nat), j + m = 8 → ∀ i1, mq_Kp o i0 (16 + j) i1 → ∃ i', qf_Mod_passes_46_p2 L (nI j) i1 l = some (i', l) ∧ mq_Kp o i0 (16 + 8) i' := by
    intro m
    induction m with
    | zero =>
      intro j hj i1 h1
      have hj : j = 8 := hj
      subst hj
      refine ⟨i1, qe_Mod_passes_46_p2 L _ i1 l _ ?_, h1⟩
      rw [if_pos (show Int32.ofNat 8 ≤ nI 8 from nI_le (Nat.le_refl _) (by omega))]
    | succ m ih =>
      intro j hj i1 h1
      have hlt : j < 8 := by omega
      have e : i1 46 j = mq_F i0 (16 + j) := by
        rw [mq_Fa_46 i0 hlt, h1.2.2.1 46 (by omega) (by omega)]
      obtain ⟨i', g1, g2⟩ := ih (j + 1) (by omega) _ (mq_Kp_s h1 e)
      refine ⟨i', qe_Mod_passes_46_p2 L _ i1 l _ ?_, g2⟩
      rw [if_neg (show ¬ Int32.ofNat 8 ≤ nI j from nI_ge (by omega) (by omega))]
      simp only [h1.1, h1.2.1, mq_10, ↓reduceIte, if_neg (nI_in hlt (show 8 < 2 ^ 31 by omega)), if_neg (nI_in (show o + (16 + j) < 120 by omega) (show 120 < 2 ^ 31 by omega)), nI_1]
      rw [nI_clamp (by omega), nI_clamp (by omega)]
      exact g1
  obtain ⟨i', g1, g2⟩ := loop 8 0 rfl i h
  exact ⟨i', qe_Mod_passes_46 L i l _ g1, g2⟩
theorem qs_put_46 (L : Nat) {o : Nat} {i0 i : mMI} (l : mML) (h : mq_Pp o i0 16 i) (ho : o ≤ 60) : ∃ i', qf_Mod_passes_46 L i l = some (i', l) ∧ mq_Pp o i0 (16 + 8) i' := by
  have loop : ∀ (m j : Nat), j + m = 8 → ∀ i1, mq_Pp o i0 (16 + j) i1 → ∃ i', qf_Mod_passes_46_p2 L (nI j) i1 l = some (i', l) ∧ mq_Pp o i0 (16 + 8) i' := by
    intro m
    induction m with
    | zero =>
      intro j hj i1 h1
      have hj : j = 8 := hj
      subst hj
      refine ⟨i1, qe_Mod_passes_46_p2 L _ i1 l _ ?_, h1⟩
      rw [if_pos (show Int32.ofNat 8 ≤ nI 8 from nI_le (Nat.le_refl _) (by omega))]
    | succ m ih =>
      intro j hj i1 h1
      have hlt : j < 8 := by omega
      have k1 := h1
      obtain ⟨q1, q2, q3, q4, q5⟩ := k1
      have n1 : mq_Pp o i0 (16 + (j + 1)) (mj_up (mj_up i1 46 j (i0 55 (o + (16 + j)))) 42 27 (nI (o + (16 + j) + 1))) := by
        refine ⟨?_, ?_, ?_, ?_, ?_⟩
        · rw [mq_upi_at, if_neg (by omega), mq_upn (by omega)]; exact q1
        · rw [mq_upi_at, if_pos rfl]; rfl
        · intro k k1 k2
          rw [mq_upn k1, mq_upn (by omega)]; exact q3 k k1 k2
        · intro y y1 y2 y3
          rw [mq_upi_at, if_neg y3, mq_upn (by omega)]; exact q4 y y1 y2 y3
        · intro t ht
          rw [mq_F_27 _ _ (by omega), mq_F_46 _ _ hlt]
          by_cases e : t = 16 + j
          · rw [if_pos e, e]
          · rw [if_neg e]; exact q5 t (by omega)
      obtain ⟨i', g1, g2⟩ := ih (j + 1) (by omega) _ n1
      refine ⟨i', qe_Mod_passes_46_p2 L _ i1 l _ ?_, g2⟩
      rw [if_neg (show ¬ Int32.ofNat 8 ≤ nI j from nI_ge (by omega) (by omega))]
      simp only [q1, q2, ↓reduceIte, if_neg (nI_in hlt (show 8 < 2 ^ 31 by omega)), if_neg (nI_in (show o + (16 + j) < 120 by omega) (show 120 < 2 ^ 31 by omega)), nI_1]
      rw [nI_clamp (by omega), nI_clamp (by omega), q3 55 (by omega) (by omega)]
      exact g1
  obtain ⟨i', g1, g2⟩ := loop 8 0 rfl i h
  exact ⟨i', qe_Mod_passes_46 L i l _ g1, g2⟩

theorem mq_F_47 (i : mMI) (v : Int32) {j : Nat} (hj : j < 10) (t : Nat) : mq_F (mj_up i 47 j v) t = if t = 24 + j then v else mq_F i t := by
  unfold mq_F mj_up
  (repeat' split) <;> first | rfl | omega
theorem mq_Fa_47 (i : mMI) {j : Nat} (hj : j < 10) : mq_F i (24 + j) = i 47 j := by
  have e := mq_F_47 i (i 47 j) hj (24 + j)
  rw [if_pos rfl] at e
  have z : mj_up i 47 j (i 47 j) = i := by
    funext x y
    unfold mj_up
    split
    · next h => rw [h.1, h.2]
    · rfl
  rw [z] at e
  exact e
theorem qs_keep_47 (L : Nat) {o : Nat} {i0 i : mMI} (l : mML) (h : mq_Kp o i0 24 i) (ho : o ≤ 60) : ∃ i', qf_Mod_passes_47 L i l = some (i', l) ∧ mq_Kp o i0 (24 + 10) i' := by
  have loop : ∀ (m j : Nat), j + m = 10 → ∀ i1, mq_Kp o i0 (24 + j) i1 → ∃ i', qf_Mod_passes_47_p2 L (nI j) i1 l = some (i', l) ∧ mq_Kp o i0 (24 + 10) i' := by
    intro m
    induction m with
    | zero =>
      intro j hj i1 h1
      have hj : j = 10 := hj
      subst hj
      refine ⟨i1, qe_Mod_passes_47_p2 L _ i1 l _ ?_, h1⟩
      rw [if_pos (show Int32.ofNat 10 ≤ nI 10 from nI_le (Nat.le_refl _) (by omega))]
    | succ m ih =>
      intro j hj i1 h1
      have hlt : j < 10 := by omega
      have e : i1 47 j = mq_F i0 (24 + j) := by
        rw [mq_Fa_47 i0 hlt, h1.2.2.1 47 (by omega) (by omega)]
      obtain ⟨i', g1, g2⟩ := ih (j + 1) (by omega) _ (mq_Kp_s h1 e)
      refine ⟨i', qe_Mod_passes_47_p2 L _ i1 l _ ?_, g2⟩
      rw [if_neg (show ¬ Int32.ofNat 10 ≤ nI j from nI_ge (by omega) (by omega))]
      simp only [h1.1, h1.2.1, mq_10, ↓reduceIte, if_neg (nI_in hlt (show 10 < 2 ^ 31 by omega)), if_neg (nI_in (show o + (24 + j) < 120 by omega) (show 120 < 2 ^ 31 by omega)), nI_1]
      rw [nI_clamp (by omega), nI_clamp (by omega)]
      exact g1
  obtain ⟨i', g1, g2⟩ := loop 10 0 rfl i h
  exact ⟨i', qe_Mod_passes_47 L i l _ g1, g2⟩
theorem qs_put_47 (L : Nat) {o : Nat} {i0 i : mMI} (l : mML) (h : mq_Pp o i0 24 i) (ho : o ≤ 60) : ∃ i', qf_Mod_passes_47 L i l = some (i', l) ∧ mq_Pp o i0 (24 + 10) i' := by
  have loop : ∀ (m j : Nat), j + m = 10 → ∀ i1, mq_Pp o i0 (24 + j) i1 → ∃ i', qf_Mod_passes_47_p2 L (nI j) i1 l = some (i', l) ∧ mq_Pp o i0 (24 + 10) i' := by
    intro m
    induction m with
    | zero =>
      intro j hj i1 h1
      have hj : j = 10 := hj
      subst hj
      refine ⟨i1, qe_Mod_passes_47_p2 L _ i1 l _ ?_, h1⟩
      rw [if_pos (show Int32.ofNat 10 ≤ nI 10 from nI_le (Nat.le_refl _) (by omega))]
    | succ m ih =>
      intro j hj i1 h1
      have hlt : j < 10 := by omega
      have k1 := h1
      obtain ⟨q1, q2, q3, q4, q5⟩ := k1
      have n1 : mq_Pp o i0 (24 + (j + 1)) (mj_up (mj_up i1 47 j (i0 55 (o + (24 + j)))) 42 27 (nI (o + (24 + j) + 1))) := by
        refine ⟨?_, ?_, ?_, ?_, ?_⟩
        · rw [mq_upi_at, if_neg (by omega), mq_upn (by omega)]; exact q1
        · rw [mq_upi_at, if_pos rfl]; rfl
        · intro k k1 k2
          rw [mq_upn k1, mq_upn (by omega)]; exact q3 k k1 k2
        · intro y y1 y2 y3
          rw [mq_upi_at, if_neg y3, mq_upn (by omega)]; exact q4 y y1 y2 y3
        · intro t ht
          rw [mq_F_27 _ _ (by omega), mq_F_47 _ _ hlt]
          by_cases e : t = 24 + j
          · rw [if_pos e, e]
          · rw [if_neg e]; exact q5 t (by omega)
      obtain ⟨i', g1, g2⟩ := ih (j + 1) (by omega) _ n1
      refine ⟨i', qe_Mod_passes_47_p2 L _ i1 l _ ?_, g2⟩
      rw [if_neg (show ¬ Int32.ofNat 10 ≤ nI j from nI_ge (by omega) (by omega))]
      simp only [q1, q2, ↓reduceIte, if_neg (nI_in hlt (show 10 < 2 ^ 31 by omega)), if_neg (nI_in (show o + (24 + j) < 120 by omega) (show 120 < 2 ^ 31 by omega)), nI_1]
      rw [nI_clamp (by omega), nI_clamp (by omega), q3 55 (by omega) (by omega)]
      exact g1
  obtain ⟨i', g1, g2⟩ := loop 10 0 rfl i h
  exact ⟨i', qe_Mod_passes_47 L i l _ g1, g2⟩

theorem mq_F_48 (i : mMI) (v : Int32) {j : Nat} (hj : j < 10) (t : Nat) : mq_F (mj_up i 48 j v) t = if t = 34 + j then v else mq_F i t := by
  unfold mq_F mj_up
  (repeat' split) <;> first | rfl | omega
theorem mq_Fa_48 (i : mMI) {j : Nat} (hj : j < 10) : mq_F i (34 + j) = i 48 j := by
  have e := mq_F_48 i (i 48 j) hj (34 + j)
  rw [if_pos rfl] at e
  have z : mj_up i 48 j (i 48 j) = i := by
    funext x y
    unfold mj_up
    split
    · next h => rw [h.1, h.2]
    · rfl
  rw [z] at e
  exact e
theorem qs_keep_48 (L : Nat) {o : Nat} {i0 i : mMI} (l : mML) (h : mq_Kp o i0 34 i) (ho : o ≤ 60) : ∃ i', qf_Mod_passes_48 L i l = some (i', l) ∧ mq_Kp o i0 (34 + 10) i' := by
  have loop : ∀ (m j : Nat), j + m = 10 → ∀ i1, mq_Kp o i0 (34 + j) i1 → ∃ i', qf_Mod_passes_48_p2 L (nI j) i1 l = some (i', l) ∧ mq_Kp o i0 (34 + 10) i' := by
    intro m
    induction m with
    | zero =>
      intro j hj i1 h1
      have hj : j = 10 := hj
      subst hj
      refine ⟨i1, qe_Mod_passes_48_p2 L _ i1 l _ ?_, h1⟩
      rw [if_pos (show Int32.ofNat 10 ≤ nI 10 from nI_le (Nat.le_refl _) (by omega))]
    | succ m ih =>
      intro j hj i1 h1
      have hlt : j < 10 := by omega
      have e : i1 48 j = mq_F i0 (34 + j) := by
        rw [mq_Fa_48 i0 hlt, h1.2.2.1 48 (by omega) (by omega)]
      obtain ⟨i', g1, g2⟩ := ih (j + 1) (by omega) _ (mq_Kp_s h1 e)
      refine ⟨i', qe_Mod_passes_48_p2 L _ i1 l _ ?_, g2⟩
      rw [if_neg (show ¬ Int32.ofNat 10 ≤ nI j from nI_ge (by omega) (by omega))]
      simp only [h1.1, h1.2.1, mq_10, ↓reduceIte, if_neg (nI_in hlt (show 10 < 2 ^ 31 by omega)), if_neg (nI_in (show o + (34 + j) < 120 by omega) (show 120 < 2 ^ 31 by omega)), nI_1]
      rw [nI_clamp (by omega), nI_clamp (by omega)]
      exact g1
  obtain ⟨i', g1, g2⟩ := loop 10 0 rfl i h
  exact ⟨i', qe_Mod_passes_48 L i l _ g1, g2⟩
theorem qs_put_48 (L : Nat) {o : Nat} {i0 i : mMI} (l : mML) (h : mq_Pp o i0 34 i) (ho : o ≤ 60) : ∃ i', qf_Mod_passes_48 L i l = some (i', l) ∧ mq_Pp o i0 (34 + 10) i' := by
  have loop : ∀ (m j : Nat), j + m = 10 → ∀ i1, mq_Pp o i0 (34 + j) i1 → ∃ i', qf_Mod_passes_48_p2 L (nI j) i1 l = some (i', l) ∧ mq_Pp o i0 (34 + 10) i' := by
    intro m
    induction m with
    | zero =>
      intro j hj i1 h1
      have hj : j = 10 := hj
      subst hj
      refine ⟨i1, qe_Mod_passes_48_p2 L _ i1 l _ ?_, h1⟩
      rw [if_pos (show Int32.ofNat 10 ≤ nI 10 from nI_le (Nat.le_refl _) (by omega))]
    | succ m ih =>
      intro j hj i1 h1
      have hlt : j < 10 := by omega
      have k1 := h1
      obtain ⟨q1, q2, q3, q4, q5⟩ := k1
      have n1 : mq_Pp o i0 (34 + (j + 1)) (mj_up (mj_up i1 48 j (i0 55 (o + (34 + j)))) 42 27 (nI (o + (34 + j) + 1))) := by
        refine ⟨?_, ?_, ?_, ?_, ?_⟩
        · rw [mq_upi_at, if_neg (by omega), mq_upn (by omega)]; exact q1
        · rw [mq_upi_at, if_pos rfl]; rfl
        · intro k k1 k2
          rw [mq_upn k1, mq_upn (by omega)]; exact q3 k k1 k2
        · intro y y1 y2 y3
          rw [mq_upi_at, if_neg y3, mq_upn (by omega)]; exact q4 y y1 y2 y3
        · intro t ht
          rw [mq_F_27 _ _ (by omega), mq_F_48 _ _ hlt]
          by_cases e : t = 34 + j
          · rw [if_pos e, e]
          · rw [if_neg e]; exact q5 t (by omega)
      obtain ⟨i', g1, g2⟩ := ih (j + 1) (by omega) _ n1
      refine ⟨i', qe_Mod_passes_48_p2 L _ i1 l _ ?_, g2⟩
      rw [if_neg (show ¬ Int32.ofNat 10 ≤ nI j from nI_ge (by omega) (by omega))]
      simp only [q1, q2, ↓reduceIte, if_neg (nI_in hlt (show 10 < 2 ^ 31 by omega)), if_neg (nI_in (show o + (34 + j) < 120 by omega) (show 120 < 2 ^ 31 by omega)), nI_1]
      rw [nI_clamp (by omega), nI_clamp (by omega), q3 55 (by omega) (by omega)]
      exact g1
  obtain ⟨i', g1, g2⟩ := loop 10 0 rfl i h
  exact ⟨i', qe_Mod_passes_48 L i l _ g1, g2⟩

theorem qs_keepAll (L : Nat) {w : Nat} (i : mMI) (l : mML) (hw : w ≤ 1) : ∃ i', qf_Mod_passesAll L (nI w) 1 i l = some (i', l) ∧ mq_Kp (60 * w) i 51 i' := by
  have b0 : mq_Kp (60 * w) i 0 (mj_up (mj_up i 42 27 (nI (60 * w))) 42 26 1) := by
    refine ⟨by rw [mq_upi_at, if_pos rfl], by rw [mq_upi_at, if_neg (by omega), mq_upi_at, if_pos rfl]; rfl, fun k k1 _ => by rw [mq_upn k1, mq_upn k1], fun j j1 j2 => by rw [mq_upi_at, if_neg j1, mq_upi_at, if_neg j2], fun t ht => absurd ht (by omega), fun j _ => by rw [mq_upn (by omega), mq_upn (by omega)]⟩
  obtain ⟨i1, e1, b1⟩ := qs_keep_44 L l b0 (by omega)
  obtain ⟨i2, e2, b2⟩ := qs_keep_45 L l b1 (by omega)
  obtain ⟨i3, e3, b3⟩ := qs_keep_46 L l b2 (by omega)
  obtain ⟨i4, e4, b4⟩ := qs_keep_47 L l b3 (by omega)
  obtain ⟨i5, e5, b5⟩ := qs_keep_48 L l b4 (by omega)
  have x0 : i5 42 6 = i 42 6 := b5.2.2.2.1 6 (by omega) (by omega)
  have o0 := qs_one_keep L (i5 42 6) l b5 (by omega)
  have u0 := mq_Kp_s b5 (x := i5 42 6) (by rw [x0]; rfl)
  have p0 := mq_Kp_a u0 (f := 6) (x := i5 42 6) (by omega) x0
  generalize hs0 : mj_up (mj_up i5 55 (60 * w + (34 + 10)) (i5 42 6)) 42 27 (nI (60 * w + (34 + 10) + 1)) = v0 at o0 u0 p0
  generalize ht0 : mj_up v0 42 6 (i5 42 6) = s0 at p0
  have x1 : s0 42 7 = i 42 7 := p0.2.2.2.1 7 (by omega) (by omega)
  have o1 := qs_one_keep L (s0 42 7) l p0 (by omega)
  have u1 := mq_Kp_s p0 (x := s0 42 7) (by rw [x1]; rfl)
  have p1 := mq_Kp_a u1 (f := 7) (x := s0 42 7) (by omega) x1
  generalize hs1 : mj_up (mj_up s0 55 (60 * w + (34 + 10 + 1)) (s0 42 7)) 42 27 (nI (60 * w + (34 + 10 + 1) + 1)) = v1 at o1 u1 p1
  generalize ht1 : mj_up v1 42 7 (s0 42 7) = s1 at p1
  have x2 : s1 42 8 = i 42 8 := p1.2.2.2.1 8 (by omega) (by omega)
  have o2 := qs_one_keep L (s1 42 8) l p1 (by omega)
  have u2 := mq_Kp_s p1 (x := s1 42 8) (by rw [x2]; rfl)
  have p2 := mq_Kp_a u2 (f := 8) (x := s1 42 8) (by omega) x2
  generalize hs2 : mj_up (mj_up s1 55 (60 * w + (34 + 10 + 1 + 1)) (s1 42 8)) 42 27 (nI (60 * w + (34 + 10 + 1 + 1) + 1)) = v2 at o2 u2 p2
  generalize ht2 : mj_up v2 42 8 (s1 42 8) = s2 at p2
  have x3 : s2 42 9 = i 42 9 := p2.2.2.2.1 9 (by omega) (by omega)
  have o3 := qs_one_keep L (s2 42 9) l p2 (by omega)
  have u3 := mq_Kp_s p2 (x := s2 42 9) (by rw [x3]; rfl)
  have p3 := mq_Kp_a u3 (f := 9) (x := s2 42 9) (by omega) x3
  generalize hs3 : mj_up (mj_up s2 55 (60 * w + (34 + 10 + 1 + 1 + 1)) (s2 42 9)) 42 27 (nI (60 * w + (34 + 10 + 1 + 1 + 1) + 1)) = v3 at o3 u3 p3
  generalize ht3 : mj_up v3 42 9 (s2 42 9) = s3 at p3
  have x4 : s3 42 10 = i 42 10 := p3.2.2.2.1 10 (by omega) (by omega)
  have o4 := qs_one_keep L (s3 42 10) l p3 (by omega)
  have u4 := mq_Kp_s p3 (x := s3 42 10) (by rw [x4]; rfl)
  have p4 := mq_Kp_a u4 (f := 10) (x := s3 42 10) (by omega) x4
  generalize hs4 : mj_up (mj_up s3 55 (60 * w + (34 + 10 + 1 + 1 + 1 + 1)) (s3 42 10)) 42 27 (nI (60 * w + (34 + 10 + 1 + 1 + 1 + 1) + 1)) = v4 at o4 u4 p4
  generalize ht4 : mj_up v4 42 10 (s3 42 10) = s4 at p4
  have x5 : s4 42 11 = i 42 11 := p4.2.2.2.1 11 (by omega) (by omega)
  have o5 := qs_one_keep L (s4 42 11) l p4 (by omega)
  have u5 := mq_Kp_s p4 (x := s4 42 11) (by rw [x5]; rfl)
  have p5 := mq_Kp_a u5 (f := 11) (x := s4 42 11) (by omega) x5
  generalize hs5 : mj_up (mj_up s4 55 (60 * w + (34 + 10 + 1 + 1 + 1 + 1 + 1)) (s4 42 11)) 42 27 (nI (60 * w + (34 + 10 + 1 + 1 + 1 + 1 + 1) + 1)) = v5 at o5 u5 p5
  generalize ht5 : mj_up v5 42 11 (s4 42 11) = s5 at p5
  have x6 : s5 42 12 = i 42 12 := p5.2.2.2.1 12 (by omega) (by omega)
  have o6 := qs_one_keep L (s5 42 12) l p5 (by omega)
  have u6 := mq_Kp_s p5 (x := s5 42 12) (by rw [x6]; rfl)
  have p6 := mq_Kp_a u6 (f := 12) (x := s5 42 12) (by omega) x6
  generalize hs6 : mj_up (mj_up s5 55 (60 * w + (34 + 10 + 1 + 1 + 1 + 1 + 1 + 1)) (s5 42 12)) 42 27 (nI (60 * w + (34 + 10 + 1 + 1 + 1 + 1 + 1 + 1) + 1)) = v6 at o6 u6 p6
  generalize ht6 : mj_up v6 42 12 (s5 42 12) = s6 at p6
  refine ⟨s6, qe_Mod_passesAll L _ _ i l _ ?_, p6⟩
  rw [if_pos (Or.inr rfl), show (60 : Int32) * nI w = nI (60 * w) from pk_mul 60 w, e1, Option.bind_some]
  simp only [e2, e3, e4, e5, Option.bind_some, o0, ht0]
  have y0 : v0 42 7 = s0 42 7 := by rw [← ht0, mq_upi_at, if_neg (by omega)]
  have y1 : v1 42 8 = s1 42 8 := by rw [← ht1, mq_upi_at, if_neg (by omega)]
  have y2 : v2 42 9 = s2 42 9 := by rw [← ht2, mq_upi_at, if_neg (by omega)]
  have y3 : v3 42 10 = s3 42 10 := by rw [← ht3, mq_upi_at, if_neg (by omega)]
  have y4 : v4 42 11 = s4 42 11 := by rw [← ht4, mq_upi_at, if_neg (by omega)]
  have y5 : v5 42 12 = s5 42 12 := by rw [← ht5, mq_upi_at, if_neg (by omega)]
  simp only [y0, o1, ht1, Option.bind_some]
  simp only [y1, o2, ht2, Option.bind_some]
  simp only [y2, o3, ht3, Option.bind_some]
  simp only [y3, o4, ht4, Option.bind_some]
  simp only [y4, o5, ht5, Option.bind_some]
  simp only [y5, o6, ht6, Option.bind_some]
theorem qs_putAll (L : Nat) {w : Nat} (i : mMI) (l : mML) (hw : w ≤ 1) : ∃ i', qf_Mod_passesAll L (nI w) 0 i l = some (i', l) ∧ mq_Pp (60 * w) i 51 i' := by
  have b0 : mq_Pp (60 * w) i 0 (mj_up (mj_up i 42 27 (nI (60 * w))) 42 26 0) := by
    refine ⟨by rw [mq_upi_at, if_pos rfl], by rw [mq_upi_at, if_neg (by omega), mq_upi_at, if_pos rfl]; rfl, fun k k1 _ => by rw [mq_upn k1, mq_upn k1], fun j _ j1 j2 => by rw [mq_upi_at, if_neg j1, mq_upi_at, if_neg j2], fun t ht => absurd ht (by omega)⟩
  obtain ⟨i1, e1, b1⟩ := qs_put_44 L l b0 (by omega)
  obtain ⟨i2, e2, b2⟩ := qs_put_45 L l b1 (by omega)
  obtain ⟨i3, e3, b3⟩ := qs_put_46 L l b2 (by omega)
  obtain ⟨i4, e4, b4⟩ := qs_put_47 L l b3 (by omega)
  obtain ⟨i5, e5, b5⟩ := qs_put_48 L l b4 (by omega)
  have o0 := fun x => qs_one_put L x l b5 (by omega)
  have p0 := mq_Pp_f b5 (f := 6) (by omega) (by omega)
  generalize hs0 : mj_up i5 42 27 (nI (60 * w + (34 + 10) + 1)) = v0 at o0 p0
  generalize ht0 : mj_up v0 42 6 (i 55 (60 * w + (34 + 10))) = s0 at p0
  have o1 := fun x => qs_one_put L x l p0 (by omega)
  have p1 := mq_Pp_f p0 (f := 7) (by omega) (by omega)
  generalize hs1 : mj_up s0 42 27 (nI (60 * w + (34 + 10 + 1) + 1)) = v1 at o1 p1
  generalize ht1 : mj_up v1 42 7 (i 55 (60 * w + (34 + 10 + 1))) = s1 at p1
  have o2 := fun x => qs_one_put L x l p1 (by omega)
  have p2 := mq_Pp_f p1 (f := 8) (by omega) (by omega)
  generalize hs2 : mj_up s1 42 27 (nI (60 * w + (34 + 10 + 1 + 1) + 1)) = v2 at o2 p2
  generalize ht2 : mj_up v2 42 8 (i 55 (60 * w + (34 + 10 + 1 + 1))) = s2 at p2
  have o3 := fun x => qs_one_put L x l p2 (by omega)
  have p3 := mq_Pp_f p2 (f := 9) (by omega) (by omega)
  generalize hs3 : mj_up s2 42 27 (nI (60 * w + (34 + 10 + 1 + 1 + 1) + 1)) = v3 at o3 p3
  generalize ht3 : mj_up v3 42 9 (i 55 (60 * w + (34 + 10 + 1 + 1 + 1))) = s3 at p3
  have o4 := fun x => qs_one_put L x l p3 (by omega)
  have p4 := mq_Pp_f p3 (f := 10) (by omega) (by omega)
  generalize hs4 : mj_up s3 42 27 (nI (60 * w + (34 + 10 + 1 + 1 + 1 + 1) + 1)) = v4 at o4 p4
  generalize ht4 : mj_up v4 42 10 (i 55 (60 * w + (34 + 10 + 1 + 1 + 1 + 1))) = s4 at p4
  have o5 := fun x => qs_one_put L x l p4 (by omega)
  have p5 := mq_Pp_f p4 (f := 11) (by omega) (by omega)
  generalize hs5 : mj_up s4 42 27 (nI (60 * w + (34 + 10 + 1 + 1 + 1 + 1 + 1) + 1)) = v5 at o5 p5
  generalize ht5 : mj_up v5 42 11 (i 55 (60 * w + (34 + 10 + 1 + 1 + 1 + 1 + 1))) = s5 at p5
  have o6 := fun x => qs_one_put L x l p5 (by omega)
  have p6 := mq_Pp_f p5 (f := 12) (by omega) (by omega)
  generalize hs6 : mj_up s5 42 27 (nI (60 * w + (34 + 10 + 1 + 1 + 1 + 1 + 1 + 1) + 1)) = v6 at o6 p6
  generalize ht6 : mj_up v6 42 12 (i 55 (60 * w + (34 + 10 + 1 + 1 + 1 + 1 + 1 + 1))) = s6 at p6
  refine ⟨s6, qe_Mod_passesAll L _ _ i l _ ?_, p6⟩
  rw [if_pos (Or.inl rfl), show (60 : Int32) * nI w = nI (60 * w) from pk_mul 60 w, e1, Option.bind_some]
  simp only [e2, e3, e4, e5, Option.bind_some, o0, ht0]
  simp only [o1, ht1, Option.bind_some]
  simp only [o2, ht2, Option.bind_some]
  simp only [o3, ht3, Option.bind_some]
  simp only [o4, ht4, Option.bind_some]
  simp only [o5, ht5, Option.bind_some]
  simp only [o6, ht6, Option.bind_some]
theorem mq_Kp_KD {o : Nat} {i0 i : mMI} {D : mq_D} (h : mq_Kp o i0 51 i) (hM : mq_MD i0 D) (h10 : D 9 0 ≤ 10) : mq_KD o i D := by
  obtain ⟨-, -, -, -, h5, -⟩ := h
  obtain ⟨c0, c4, c5, c6, c7, c8, c9, d1, d2, d3, d4, d5⟩ := hM
  refine ⟨(h5 44 (by omega)).trans c0, (h5 45 (by omega)).trans c4, (h5 46 (by omega)).trans c5, (h5 47 (by omega)).trans c6, (h5 48 (by omega)).trans c7, (h5 49 (by omega)).trans c8, (h5 50 (by omega)).trans c9, fun j hj => ?_, fun j hj => ?_, fun j hj => ?_, fun j hj => ?_, fun j hj => ?_⟩
  · have e := mq_Fa_44 i0 hj
    rw [Nat.zero_add] at e
    exact (h5 j (by omega)).trans (e.trans (d1 j hj))
  · rw [Nat.add_assoc]
    exact (h5 (8 + j) (by omega)).trans ((mq_Fa_45 i0 hj).trans (d2 j hj))
  · rw [Nat.add_assoc]
    exact (h5 (16 + j) (by omega)).trans ((mq_Fa_46 i0 hj).trans (d3 j hj))
  · rw [Nat.add_assoc]
    exact (h5 (24 + j) (by omega)).trans ((mq_Fa_47 i0 (by omega)).trans (d4 j hj))
  · rw [Nat.add_assoc]
    exact (h5 (34 + j) (by omega)).trans ((mq_Fa_48 i0 (by omega)).trans (d5 j hj))
theorem mq_Pp_MD {o : Nat} {i0 i : mMI} {D : mq_D} (h : mq_Pp o i0 51 i) (hK : mq_KD o i0 D) (h10 : D 9 0 ≤ 10) : mq_MD i D := by
  obtain ⟨-, -, -, -, h5⟩ := h
  obtain ⟨c0, c4, c5, c6, c7, c8, c9, d1, d2, d3, d4, d5⟩ := hK
  refine ⟨(h5 44 (by omega)).trans c0, (h5 45 (by omega)).trans c4, (h5 46 (by omega)).trans c5, (h5 47 (by omega)).trans c6, (h5 48 (by omega)).trans c7, (h5 49 (by omega)).trans c8, (h5 50 (by omega)).trans c9, fun j hj => ?_, fun j hj => ?_, fun j hj => ?_, fun j hj => ?_, fun j hj => ?_⟩
  · have e := mq_Fa_44 i hj
    rw [Nat.zero_add] at e
    exact e.symm.trans ((h5 j (by omega)).trans (d1 j hj))
  · exact (mq_Fa_45 i hj).symm.trans ((h5 (8 + j) (by omega)).trans (by rw [← Nat.add_assoc]; exact d2 j hj))
  · exact (mq_Fa_46 i hj).symm.trans ((h5 (16 + j) (by omega)).trans (by rw [← Nat.add_assoc]; exact d3 j hj))
  · exact (mq_Fa_47 i (by omega)).symm.trans ((h5 (24 + j) (by omega)).trans (by rw [← Nat.add_assoc]; exact d4 j hj))
  · exact (mq_Fa_48 i (by omega)).symm.trans ((h5 (34 + j) (by omega)).trans (by rw [← Nat.add_assoc]; exact d5 j hj))
section
variable {i : mMI} {l : mML} {D P M : mq_D} {R : Nat → Int32}
theorem qp_image (L : Nat) (hC : mq_RC i D P M R) (hM : mq_RM i D P M R) (hO : mq_OkS D P M) : mq_P (fun i l => qf_Two_image L i l) (fun i l => qf_Mod_image L i l) i l := by
  have h10 := hO.1.2.2.2.2.2.2.2.2.2.1
  have k1 : mq_u M 0 0 1 0 0 = 1 := by simp [mq_u]
  have k2 : mq_u M 0 0 1 1 0 = M 1 0 := by simp [mq_u]
  have k3 : mq_u M 0 0 1 2 0 = M 2 0 := by simp [mq_u]
  have k4 : ∀ y, mq_u M 0 0 1 3 y = M 3 y := fun y => by simp [mq_u]
  have k5 : ∀ y, mq_u M 0 0 1 4 y = M 4 y := fun y => by simp [mq_u]
  obtain ⟨i1, e1, c1, f1⟩ := qs_become_8_2 L i l hC.1 h10
  have z : mq_CD 2 3 4 5 6 7 (mj_up i1 1 3 (1 : Int32)) D := hC.1.congr (fun k h1 h2 => (mq_upn (by omega)).trans (f1 k (by omega) (by omega) (by omega) (by omega) (by omega) (by omega)))
  refine mq_P_mk (D' := D) (P' := D) (R' := R) (M' := mq_u M 0 0 1) (r := nI (D 9 0)) (i1 := mj_up i1 1 3 (1 : Int32)) (l1 := l) hM (qe_Two_image L i l _ ?_) ?_ (fun k h => (mq_upn (by omega)).trans (f1 k (by omega) (by omega) (by omega) (by omega) (by omega) (by omega))) ?_ (fun i0 h => ?_)
  · rw [e1, Option.bind_some]
    dsimp only
    rw [f1 2 (by omega) (by omega) (by omega) (by omega) (by omega) (by omega), hC.1.2.2.2.2.2.2.1]
  · obtain ⟨a0, a1, a2, a3, a4, a5, a6, a7⟩ := hC
    have g : ∀ k, k ≠ 1 → (k < 8 ∨ 13 < k) → mj_up i1 1 3 (1 : Int32) k = i k := fun k h1 h2 => (mq_upn h1).trans (f1 k (by omega) (by omega) (by omega) (by omega) (by omega) (by omega))
    refine ⟨z, ?_, fun _ => ?_, ?_, ?_, ?_, ?_, ?_⟩
    · rw [k1, mq_upi_at, if_pos rfl]; rfl
    · unfold mq_CD
      simp only [mq_upn (show 8 ≠ 1 by omega), mq_upn (show 9 ≠ 1 by omega), mq_upn (show 10 ≠ 1 by omega), mq_upn (show 11 ≠ 1 by omega), mq_upn (show 12 ≠ 1 by omega), mq_upn (show 13 ≠ 1 by omega)]
      exact c1
    · rw [k2, g 20 (by omega) (by omega)]; exact a3
    · rw [k2, g 21 (by omega) (by omega)]; intro y hy; rw [k4]; exact a4 y hy
    · rw [k3, mq_upi_at, if_neg (by omega), f1 1 (by omega) (by omega) (by omega) (by omega) (by omega) (by omega)]; exact a5
    · rw [k3, g 22 (by omega) (by omega)]; intro y hy; rw [k5]; exact a6 y hy
    · rw [g 23 (by omega) (by omega)]; exact a7
  · obtain ⟨o0, o1, o2, o3, o4, o5, o6⟩ := hO
    refine ⟨o0, by rw [k1]; omega, fun _ => o0, by rw [k2]; exact o3, fun y hy => ?_, by rw [k3]; exact o5, fun y hy => ?_⟩
    · rw [k2] at hy; rw [k4]; exact o4 y hy
    · rw [k3] at hy; rw [k5]; exact o6 y hy
  · have hm0 : mq_MD (mj_up i0 42 25 (1 : Int32)) D := h.1.congr (fun j h1 h2 => by rw [mq_upi_at, if_neg (by omega)]) (fun k h1 h2 => mq_upn (by omega))
    obtain ⟨i2, e2, p2⟩ := qs_keepAll L (w := 0) (mj_up i0 42 25 (1 : Int32)) l (by omega)
    have kd := mq_Kp_KD p2 hm0 h10
    obtain ⟨-, -, q3, q4, -, -⟩ := p2
    have e2' : qf_Mod_passesAll L (0 : Int32) (1 : Int32) (mj_up i0 42 25 (1 : Int32)) l = some (i2, l) := e2
    have g : ∀ k, k ≠ 42 → k ≠ 55 → i2 k = i0 k := fun k h1 h2 => (q3 k h1 h2).trans (mq_upn h1)
    have g42 : ∀ j, j ≠ 25 → j ≠ 26 → j ≠ 27 → i2 42 j = i0 42 j := fun j h1 h2 h3 => (q4 j h2 h3).trans (by rw [mq_upi_at, if_neg h1])
    refine ⟨i2, l, qe_Mod_image L i0 l _ ?_, ?_, fun k hk => g k (by omega) (by omega)⟩
    · rw [e2', Option.bind_some]
      dsimp only
      rw [g42 12 (by omega) (by omega) (by omega), h.1.2.2.2.2.2.2.1]
    · obtain ⟨a0, a1, ⟨-, t1, t2⟩, a3, a4, a5, a6, a7⟩ := h
      refine ⟨a0.congr (fun j h1 h2 => g42 j (by omega) (by omega) (by omega)) (fun k h1 h2 => g k (by omega) (by omega)), ?_, ⟨fun _ => kd, ?_, ?_⟩, ?_, ?_, ?_, ?_, ?_⟩
      · rw [k1, q4 25 (by omega) (by omega), mq_upi_at, if_pos rfl]; rfl
      · rw [g 68 (by omega) (by omega)]; exact t1
      · rw [g 69 (by omega) (by omega)]; exact t2
      · rw [k2, g42 19 (by omega) (by omega) (by omega)]; exact a3
      · rw [k2, g 49 (by omega) (by omega)]; intro y hy; rw [k4]; exact a4 y hy
      · rw [k3, g42 53 (by omega) (by omega) (by omega)]; exact a5
      · rw [k3, g 72 (by omega) (by omega)]; intro y hy; rw [k5]; exact a6 y hy
      · rw [g 43 (by omega) (by omega)]; exact a7
theorem qp_restore (L : Nat) (hC : mq_RC i D P M R) (hM : mq_RM i D P M R) (hO : mq_OkS D P M) : mq_P (fun i l => qf_Two_restore L i l) (fun i l => qf_Mod_restore L i l) i l := by
  have e0 : nI (M 0 0) = (0 : Int32) ↔ M 0 0 = 0 := nI_eq (b := 0) (by have := hO.2.1; omega) (by omega)
  by_cases h0 : M 0 0 = 0
  · refine mq_P_ref (r := -3) hC hM hO 3 (qe_Two_restore L i l _ ?_) (fun i0 h => qe_Mod_restore L i0 l _ ?_)
    · rw [hC.2.1, if_pos (e0.mpr h0), qs_refuse L i l mq_r3 (by omega), Option.bind_some]
    · rw [h.2.1, if_pos (e0.mpr h0), qs_no L i0 l mq_r3 (by omega), Option.bind_some]
  · have h1 : M 0 0 = 1 := by have := hO.2.1; omega
    have hP := hO.2.2.1 h1
    have h10 := hP.2.2.2.2.2.2.2.2.2.1
    obtain ⟨i1, e1, c1, f1⟩ := qs_become_2_8 L i l (hC.2.2.1 h1) h10
    have g1 : ∀ k, (k < 2 ∨ 7 < k) → i1 k = i k := fun k h => f1 k (by omega) (by omega) (by omega) (by omega) (by omega) (by omega)
    refine mq_P_mk (D' := P) (P' := P) (R' := R) (M' := M) (r := nI (P 9 0)) (i1 := i1) (l1 := l) hM (qe_Two_restore L i l _ ?_) ?_ (fun k h => g1 k (by omega)) ⟨hP, hO.2⟩ (fun i0 h => ?_)
    · rw [hC.2.1, if_neg (fun q => h0 (e0.mp q)), e1, Option.bind_some]
      dsimp only
      rw [c1.2.2.2.2.2.2.1]
    · obtain ⟨a0, a1, a2, a3, a4, a5, a6, a7⟩ := hC
      refine ⟨c1, ?_⟩
      unfold mq_CD
      rw [g1 1 (by omega), g1 8 (by omega), g1 9 (by omega), g1 10 (by omega), g1 11 (by omega), g1 12 (by omega), g1 13 (by omega), g1 20 (by omega), g1 21 (by omega), g1 22 (by omega), g1 23 (by omega)]
      exact ⟨a1, a2, a3, a4, a5, a6, a7⟩
    · obtain ⟨i2, e2, p2⟩ := qs_putAll L (w := 0) i0 l (by omega)
      have md := mq_Pp_MD p2 (h.2.2.1.1 h1) h10
      have e2' : qf_Mod_passesAll L (0 : Int32) (0 : Int32) i0 l = some (i2, l) := e2
      obtain ⟨-, -, q3, q4, -⟩ := p2
      refine ⟨i2, l, qe_Mod_restore L i0 l _ ?_, ?_, fun k hk => q3 k (by omega) (by omega)⟩
      · rw [h.2.1, if_neg (fun q => h0 (e0.mp q)), e2', Option.bind_some]
        dsimp only
        rw [md.2.2.2.2.2.2.1]
      · obtain ⟨a0, a1, a2, a3, a4, a5, a6, a7⟩ := h
        refine ⟨md, ?_⟩
        unfold mq_KD
        rw [q4 25 (by omega) (by omega) (by omega), q4 19 (by omega) (by omega) (by omega), q4 53 (by omega) (by omega) (by omega), q3 43 (by omega) (by omega), q3 49 (by omega) (by omega), q3 55 (by omega) (by omega), q3 68 (by omega) (by omega), q3 69 (by omega) (by omega), q3 72 (by omega) (by omega)]
        exact ⟨a1, a2, a3, a4, a5, a6, a7⟩
end