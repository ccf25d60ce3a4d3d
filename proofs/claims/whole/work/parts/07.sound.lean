/-! What the small machine does, the machine does: pictures. -/
def mj_ad (b base : Nat) (k : Nat) : Nat := match k with
  | 0 => b
  | n + 1 => base + n
def mj_v (b base : Nat) (v : Value) : Value := match v with
  | .ref k => .ref (mj_ad b base k)
  | v => v
theorem mj_v_cat (b base : Nat) (v : Value) : (mj_v b base v).category = v.category := by cases v <;> rfl
noncomputable def mj_ent (cI cL : ClassId) (b base : Nat) (w : mjW) (k : Nat) : va_E := match (mj_nth w.1 k).1 with
  | 0 => .inl (cI, (mj_nth w.1 k).2, .inl (w.2.2.1 k))
  | 1 => .inl (cL, (mj_nth w.1 k).2, .inr (.inl (w.2.2.2 k)))
  | c + 2 => .inr (c, (List.range (mj_nth w.1 k).2).map (fun j => mj_v b base (mj_rd (mj_tc c j) w k j)))
noncomputable def mj_cells (cI cL : ClassId) (b base : Nat) (w : mjW) : va_W := (List.range (w.1.length - 1)).map (fun k => (base + k, mj_ent cI cL b base w (k + 1)))
def mj_lg : List Cond := lw_tbl.filter goodWord
def mj_nw (U : State) : Prop := ∀ (a : String) (i : Nat) (x : MethodName) (h : String), Cond.methodLinkNest a i x h ∈ lw_tbl → va_Nw (.methodLinkNest a i x h) U
def mj_wf (l : List (Nat × Nat)) : Prop := ∀ k c, (mj_nth l k).1 = c + 2 → k < l.length → c ≤ 6 ∧ (mj_nth l k).2 = mj_N c
def mj_X (D : va_G) (cI cL : ClassId) (b base : Nat) (w : mjW) (U : State) (H : Heap) : Prop :=
  (∃ L, mj_nth w.1 0 = (0, L) ∧ va_X b L (w.2.2.1 0) U H) ∧ 0 < w.1.length ∧ H.size = base + (w.1.length - 1) ∧ b < base ∧ va_P D mj_cl (mj_cells cI cL b base w) H ∧ va_K D mj_cl [(cI, .int), (cL, .long)] U ∧ mj_wf w.1 ∧ mj_nw U
def mj_L (b base : Nat) (ls : Array Slot) (nL : Nat) (l : List (Option Value)) : Prop := ls.size = nL ∧ lv_wf ls ∧ ∀ i v, mj_at l i = some v → ls[i]? = some (.val (mj_v b base v))
theorem mj_nw.moved {s U : State} (h : mj_nw s) (hW : s.WarmedH U.vm) : mj_nw U := fun a i x hh hm => va_Nw.warmM hW (h a i x hh hm)
theorem mj_nw.same {u U : State} (h : mj_nw u) (e : u.vm = U.vm) : mj_nw U := fun a i x hh hm => va_Nw.same rfl e (h a i x hh hm)
theorem mj_X.moved {D : va_G} {cI cL : ClassId} {b base : Nat} {w : mjW} {s U : State} {H : Heap} (h : mj_X D cI cL b base w s H) (hvm : s.vm.Alike U.vm) (hn : mj_nw U) : mj_X D cI cL b base w U H := by
  obtain ⟨⟨L, h1, h2⟩, h3, h4, h5, h6, h7, h8, h9⟩ := h
  exact ⟨⟨L, h1, h2.moved hvm⟩, h3, h4, h5, h6, h7.moved hvm, h8, hn⟩
/-! locals -/
theorem mj_at_set_ne {l : List (Option Value)} {i j : Nat} {x : Option Value} (h : j ≠ i) : mj_at (mj_set l i x) j = mj_at l j := by
  induction l generalizing i j with
  | nil => rfl
  | cons u l ih =>
    cases i with
    | zero =>
      cases j with
      | zero => exact absurd rfl h
      | succ j => rfl
    | succ i =>
      cases j with
      | zero => rfl
      | succ j => exact ih (fun e => h (by rw [e]))
theorem mj_at_set_eq {l : List (Option Value)} {i : Nat} {x : Option Value} {u : Value} (h : mj_at (mj_set l i x) i = some u) : x = some u := by
  induction l generalizing i with
  | nil => cases h
  | cons y l ih =>
    cases i with
    | zero => exact h
    | succ i => exact ih h
theorem mj_at_k2 {l : List (Option Value)} {i j : Nat} {u : Value} (h : mj_at (mj_k2 l i) j = some u) : mj_at l j = some u ∧ ¬ (j + 1 = i ∧ u.category = 2) := by
  cases i with
  | zero => exact ⟨h, fun q => by omega⟩
  | succ n =>
    cases hw : mj_at l n with
    | none =>
      simp only [mj_k2, hw] at h
      refine ⟨h, fun q => ?_⟩
      obtain ⟨q1, -⟩ := q
      have : j = n := by omega
      subst this
      rw [hw] at h
      cases h
    | some z =>
      simp only [mj_k2, hw] at h
      cases hz : Nat.beq z.category 2 with
      | false =>
        simp only [hz, cond_false] at h
        refine ⟨h, fun q => ?_⟩
        obtain ⟨q1, q2⟩ := q
        have : j = n := by omega
        subst this
        rw [hw] at h
        cases h
        rw [q2] at hz
        cases hz
      | true =>
        simp only [hz, cond_true] at h
        by_cases e : j = n
        · subst e
          have := mj_at_set_eq h
          cases this
        · rw [mj_at_set_ne e] at h
          exact ⟨h, fun q => e (by omega)⟩
def mj_pr (b base : Nat) : Nat → List (Option Value) → List (Nat × Value)
  | _, [] => []
  | i, some v :: l => (i, mj_v b base v) :: mj_pr b base (i + 1) l
  | i, none :: l => mj_pr b base (i + 1) l
theorem mj_pr_of (b base : Nat) (l : List (Option Value)) : ∀ (k : Nat) (q : Nat × Value), q ∈ mj_pr b base k l → ∃ j v, q.1 = k + j ∧ mj_at l j = some v ∧ q.2 = mj_v b base v := by
  induction l with
  | nil => intro k q h; cases h
  | cons u l ih =>
    intro k q h
    cases u with
    | none =>
      obtain ⟨j, v, h1, h2, h3⟩ := ih (k + 1) q h
      exact ⟨j + 1, v, by omega, h2, h3⟩
    | some z =>
      rcases List.mem_cons.mp h with rfl | h
      · exact ⟨0, z, rfl, rfl, rfl⟩
      · obtain ⟨j, v, h1, h2, h3⟩ := ih (k + 1) q h
        exact ⟨j + 1, v, by omega, h2, h3⟩
theorem mj_pr_in (b base : Nat) (l : List (Option Value)) : ∀ (k j : Nat) (v : Value), mj_at l j = some v → (k + j, mj_v b base v) ∈ mj_pr b base k l := by
  induction l with
  | nil => intro k j v h; cases h
  | cons u l ih =>
    intro k j v h
    cases j with
    | zero =>
      have : u = some v := h
      subst this
      exact List.mem_cons_self
    | succ j =>
      have h2 := ih (k + 1) j v h
      rw [show k + 1 + j = k + (j + 1) by omega] at h2
      cases u with
      | none => exact h2
      | some z => exact List.mem_cons_of_mem _ h2
theorem mj_L.has {b base : Nat} {ls : Array Slot} {nL : Nat} {l : List (Option Value)} (h : mj_L b base ls nL l) : lv_has ls nL (mj_pr b base 0 l) := by
  refine ⟨h.1, h.2.1, fun q hq => ?_⟩
  obtain ⟨j, v, h1, h2, h3⟩ := mj_pr_of b base l 0 q hq
  rw [h1, h3, Nat.zero_add]
  exact h.2.2 j v h2
theorem mj_L.put {b base : Nat} {ls' : Array Slot} {nL i : Nat} {l : List (Option Value)} {v : Value} (h : lv_has ls' nL ((i, mj_v b base v) :: (mj_pr b base 0 l).filter (fun q => !(q.1 == i) && !(q.1 + 1 == i && q.2.category == 2)))) : mj_L b base ls' nL (mj_put l i v) := by
  refine ⟨h.1, h.2.1, fun j u hu => ?_⟩
  unfold mj_put at hu
  by_cases e : j = i
  · subst e
    cases mj_at_set_eq hu
    exact h.2.2 (j, mj_v b base v) List.mem_cons_self
  · rw [mj_at_set_ne e] at hu
    obtain ⟨h1, h2⟩ := mj_at_k2 hu
    have hm := mj_pr_in b base l 0 j u h1
    rw [Nat.zero_add] at hm
    refine h.2.2 (j, mj_v b base u) (List.mem_cons_of_mem _ (List.mem_filter.mpr ⟨hm, ?_⟩))
    simp only [mj_v_cat]
    simp only [Bool.and_eq_true, Bool.not_eq_true', beq_eq_false_iff_ne, ne_eq, Bool.and_eq_false_iff]
    refine ⟨e, ?_⟩
    by_cases q : j + 1 = i
    · exact Or.inr fun z => h2 ⟨q, z⟩
    · exact Or.inl q
theorem mj_L.put2 {b base : Nat} {ls' : Array Slot} {nL i : Nat} {l : List (Option Value)} {v : Value} (h : lv_has ls' nL ((i, mj_v b base v) :: (mj_pr b base 0 l).filter (fun q => !(q.1 == i) && (!(q.1 == i + 1) && !(q.1 + 1 == i && q.2.category == 2))))) : mj_L b base ls' nL (mj_put2 l i v) := by
  refine ⟨h.1, h.2.1, fun j u hu => ?_⟩
  unfold mj_put2 at hu
  by_cases e2 : j = i + 1
  · subst e2
    cases mj_at_set_eq hu
  · rw [mj_at_set_ne e2] at hu
    by_cases e : j = i
    · subst e
      cases mj_at_set_eq hu
      exact h.2.2 (j, mj_v b base v) List.mem_cons_self
    · rw [mj_at_set_ne e] at hu
      obtain ⟨h1, h2⟩ := mj_at_k2 hu
      have hm := mj_pr_in b base l 0 j u h1
      rw [Nat.zero_add] at hm
      refine h.2.2 (j, mj_v b base u) (List.mem_cons_of_mem _ (List.mem_filter.mpr ⟨hm, ?_⟩))
      simp only [mj_v_cat]
      simp only [Bool.and_eq_true, Bool.not_eq_true', beq_eq_false_iff_ne, ne_eq, Bool.and_eq_false_iff]
      refine ⟨e, e2, ?_⟩
      by_cases q : j + 1 = i
      · exact Or.inr fun z => h2 ⟨q, z⟩
      · exact Or.inl q
/-! cells -/
theorem mj_nth_lt {l : List (Nat × Nat)} {k c : Nat} (h : (mj_nth l k).1 = c) (hc : c ≤ 8) : k < l.length := by
  induction l generalizing k with
  | nil =>
    have h : 9999 = c := h
    omega
  | cons u l ih =>
    cases k with
    | zero => simp
    | succ k =>
      have := ih (k := k) h
      simp only [List.length_cons]
      omega
theorem mj_nth_app {l : List (Nat × Nat)} {q : Nat × Nat} {k : Nat} (h : k < l.length) : mj_nth (l ++ [q]) k = mj_nth l k := by
  induction l generalizing k with
  | nil => simp at h
  | cons u l ih =>
    cases k with
    | zero => rfl
    | succ k =>
      simp only [List.length_cons] at h
      exact ih (k := k) (by omega)
theorem mj_nth_last (l : List (Nat × Nat)) (q : Nat × Nat) : mj_nth (l ++ [q]) l.length = q := by
  induction l with
  | nil => rfl
  | cons u l ih => exact ih
theorem mj_cells_len (cI cL : ClassId) (b base : Nat) (w : mjW) : (mj_cells cI cL b base w).length = w.1.length - 1 := by simp [mj_cells]
theorem mj_cells_at {cI cL : ClassId} {b base : Nat} {w : mjW} {k : Nat} (h : k + 1 < w.1.length) : (mj_cells cI cL b base w)[k]? = some (base + k, mj_ent cI cL b base w (k + 1)) := by
  unfold mj_cells
  rw [List.getElem?_map, List.getElem?_range (by omega)]
  rfl
theorem mj_cells_in {cI cL : ClassId} {b base : Nat} {w : mjW} {k : Nat} {q : Nat × va_E} (h : (mj_cells cI cL b base w)[k]? = some q) : k + 1 < w.1.length ∧ q = (base + k, mj_ent cI cL b base w (k + 1)) := by
  have hl := (List.getElem?_eq_some_iff.mp h).1
  rw [mj_cells_len] at hl
  have h2 : k + 1 < w.1.length := by omega
  rw [mj_cells_at h2] at h
  exact ⟨h2, (Option.some.inj h).symm⟩
theorem mj_cells_D (cI cL : ClassId) (b base : Nat) (w : mjW) : va_D (fun q => base ≤ q) (mj_cells cI cL b base w) := by
  refine ⟨fun i j p q hi hj hpq => ?_, fun k q hk => ?_⟩
  · obtain ⟨-, rfl⟩ := mj_cells_in hi
    obtain ⟨-, rfl⟩ := mj_cells_in hj
    have : base + i = base + j := hpq
    omega
  · obtain ⟨-, rfl⟩ := mj_cells_in hk
    exact Nat.le_add_right _ _
theorem mj_ent_i {cI cL : ClassId} {b base : Nat} {w : mjW} {k : Nat} (h : (mj_nth w.1 k).1 = 0) : mj_ent cI cL b base w k = .inl (cI, (mj_nth w.1 k).2, .inl (w.2.2.1 k)) := by unfold mj_ent; rw [h]
theorem mj_ent_l {cI cL : ClassId} {b base : Nat} {w : mjW} {k : Nat} (h : (mj_nth w.1 k).1 = 1) : mj_ent cI cL b base w k = .inl (cL, (mj_nth w.1 k).2, .inr (.inl (w.2.2.2 k))) := by unfold mj_ent; rw [h]
theorem mj_ent_o {cI cL : ClassId} {b base : Nat} {w : mjW} {k c : Nat} (h : (mj_nth w.1 k).1 = c + 2) : mj_ent cI cL b base w k = .inr (c, (List.range (mj_nth w.1 k).2).map (fun j => mj_v b base (mj_rd (mj_tc c j) w k j))) := by unfold mj_ent; rw [h]
/-- two worlds of one shape that differ in one cell alone -/
theorem mj_cells_set {cI cL : ClassId} {b base : Nat} {w w2 : mjW} {k : Nat} (h1 : w2.1 = w.1) (hk : k + 1 < w.1.length) (hne : ∀ j, j ≠ k + 1 → mj_ent cI cL b base w2 j = mj_ent cI cL b base w j) :
    mj_cells cI cL b base w2 = (mj_cells cI cL b base w).set k (base + k, mj_ent cI cL b base w2 (k + 1)) := by
  refine List.ext_getElem? fun j => ?_
  by_cases e : j = k
  · subst e
    rw [List.getElem?_set_self (by rw [mj_cells_len]; omega), mj_cells_at (by rw [h1]; exact hk)]
  · rw [List.getElem?_set_ne (Ne.symm e)]
    unfold mj_cells
    rw [h1, List.getElem?_map, List.getElem?_map]
    cases hj : (List.range (w.1.length - 1))[j]? with
    | none => rfl
    | some x =>
      obtain ⟨hx, rfl⟩ := List.getElem?_eq_some_iff.mp hj
      simp only [Option.map_some, List.getElem_range]
      rw [hne (j + 1) (by omega)]
