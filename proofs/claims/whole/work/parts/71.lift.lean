/-! The constructors' run for every script: cell 0 plays no part in it. -/
def mj_TT (L : Nat) (xs : Nat → Int32) (w : mjW) : mjW := ((0, L) :: w.1.tail, w.2.1, (fun k j => if k = 0 then xs j else w.2.2.1 k j), w.2.2.2)
def mj_G (lo : List (Option Value)) (st : List Value) (w : mjW) : Prop := (∀ v ∈ lo, v ≠ some (.ref 0)) ∧ (∀ v ∈ st, v ≠ .ref 0) ∧ (∀ a k, w.2.1 a k ≠ some 0) ∧ 0 < w.1.length
def mj_cs : Instr → Bool
  | .aload_n _ => true
  | .invokespecial _ => true
  | .new _ => true
  | .dup => true
  | .bipush _ => true
  | .putfield _ => true
  | .newarray _ => true
  | .iconst _ => true
  | .invokevirtual _ => true
  | .iload_n _ => true
  | .istore_n _ => true
  | .if_icmp _ _ => true
  | .getfield _ => true
  | .invokestatic _ => true
  | .ifCond _ _ => true
  | .arraylength => true
  | .iastore => true
  | .return_ => true
  | .iinc _ _ => true
  | .goto _ => true
  | .ishl => true
  | .isub => true
  | .iand => true
  | .sipush _ => true
  | .irem => true
  | .ior => true
  | _ => false
def mj_cm (y : Nat) : Bool := [0, 10, 11, 13, 26, 46, 64, 78, 130, 133, 140].contains y
set_option maxRecDepth 100000 in
theorem mj_ca9 : [0, 10, 11, 13, 26, 46, 64, 78, 130, 133, 140].all (fun y => (List.range (mj_sz y)).all (fun p => match mj_co y p with
  | none => true
  | some e => mj_cs e.1 && (!(mj_isc e) || mj_cm e.2.2.2))) = true := by decide +kernel
theorem mj_cc9 {y p : Nat} {e : mjE} (hy : mj_cm y = true) (h : mj_co y p = some e) : mj_cs e.1 = true ∧ (mj_isc e = true → mj_cm e.2.2.2 = true) := by
  obtain ⟨h1, h2⟩ := mj_cob h
  have hm : y ∈ [0, 10, 11, 13, 26, 46, 64, 78, 130, 133, 140] := by
    unfold mj_cm at hy
    exact List.contains_iff_mem.mp hy
  have h3 := List.all_eq_true.mp mj_ca9 y hm
  have h4 := List.all_eq_true.mp h3 p (List.mem_range.mpr h2)
  simp only [h, Bool.and_eq_true, Bool.or_eq_true, Bool.not_eq_true'] at h4
  refine ⟨h4.1, fun hc => ?_⟩
  rcases h4.2 with h5 | h5
  · rw [h5] at hc; cases hc
  · exact h5
theorem mj_nth_T {L : Nat} {xs : Nat → Int32} {w : mjW} {a : Nat} (hw : 0 < w.1.length) (ha : a ≠ 0) : mj_nth (mj_TT L xs w).1 a = mj_nth w.1 a := by
  obtain ⟨w1, w2⟩ := w
  cases w1 with
  | nil => cases hw
  | cons q t =>
    cases a with
    | zero => exact absurd rfl ha
    | succ a => rfl
theorem mj_T_grow {L : Nat} {xs : Nat → Int32} {w : mjW} (hw : 0 < w.1.length) (t n : Nat) : mj_TT L xs (mj_grow w t n) = mj_grow (mj_TT L xs w) t n := by
  obtain ⟨w1, w2, w3, w4⟩ := w
  cases w1 with
  | nil => cases hw
  | cons q r =>
    have e : ((0, L) :: r).length = (q :: r).length := rfl
    unfold mj_TT mj_grow mj_new
    simp only [List.cons_append, List.tail_cons, List.length_cons]
    refine Prod.ext rfl (Prod.ext rfl (Prod.ext ?_ rfl))
    funext k j
    by_cases hk : k = 0
    · subst hk
      simp
    · simp only [hk, if_false]
theorem mj_T_up {L : Nat} {xs : Nat → Int32} {w : mjW} {a k : Nat} {v : Int32} (ha : a ≠ 0) : (fun b j => if b = 0 then xs j else mj_up w.2.2.1 a k v b j) = mj_up (mj_TT L xs w).2.2.1 a k v := by
  funext b j
  unfold mj_up mj_TT
  by_cases hb : b = 0
  · subst hb
    simp only [if_true]
    rw [if_neg (fun h : 0 = a ∧ j = k => ha h.1.symm)]
  · simp only [hb, if_false]
theorem mj_at_mem {l : List (Option Value)} : ∀ {i : Nat} {v : Value}, mj_at l i = some v → some v ∈ l := by
  induction l with
  | nil => intro i v h; cases h
  | cons u l ih =>
    intro i v h
    cases i with
    | zero =>
      have h : u = some v := h
      rw [h]
      exact List.mem_cons_self ..
    | succ i => exact List.mem_cons_of_mem _ (ih h)
theorem mj_set_mem {l : List (Option Value)} : ∀ {i : Nat} {x v : Option Value}, v ∈ mj_set l i x → v ∈ l ∨ v = x := by
  induction l with
  | nil => intro i x v h; cases h
  | cons u l ih =>
    intro i x v h
    cases i with
    | zero =>
      rcases List.mem_cons.mp h with h | h
      · exact Or.inr h
      · exact Or.inl (List.mem_cons_of_mem _ h)
    | succ i =>
      rcases List.mem_cons.mp h with h | h
      · exact Or.inl (by rw [h]; exact List.mem_cons_self ..)
      · rcases ih h with h | h
        · exact Or.inl (List.mem_cons_of_mem _ h)
        · exact Or.inr h
theorem mj_k2_mem {l : List (Option Value)} {i : Nat} {v : Option Value} (h : v ∈ mj_k2 l i) : v ∈ l ∨ v = none := by
  cases i with
  | zero => exact Or.inl h
  | succ n =>
    cases hc : mj_at l n with
    | none => simp only [mj_k2, hc] at h; exact Or.inl h
    | some w =>
      simp only [mj_k2, hc] at h
      cases hb : Nat.beq w.category 2 with
      | false => rw [hb] at h; exact Or.inl h
      | true => rw [hb] at h; exact mj_set_mem h
theorem mj_put_G {lo : List (Option Value)} {i : Nat} {u : Value} (h : ∀ v ∈ lo, v ≠ some (.ref 0)) (hu : u ≠ .ref 0) : ∀ v ∈ mj_put lo i u, v ≠ some (.ref 0) := by
  intro v hv
  rcases mj_set_mem hv with h1 | h1
  · rcases mj_k2_mem h1 with h2 | h2
    · exact h v h2
    · rw [h2]; exact fun q => by cases q
  · rw [h1]; exact fun q => hu (Option.some.inj q)
theorem mj_ic2 (c : ClassFile.Cond) (a b : Int32) : ∃ q : Bool, ∀ A B : Option mjS, mj_ic c a b A B = if q = true then A else B := by
  cases c
  · by_cases h : a = b
    · exact ⟨true, fun A B => by simp [mj_ic, h]⟩
    · exact ⟨false, fun A B => by simp [mj_ic, h]⟩
  · by_cases h : a = b
    · exact ⟨false, fun A B => by simp [mj_ic, h]⟩
    · exact ⟨true, fun A B => by simp [mj_ic, h]⟩
  · by_cases h : a < b
    · exact ⟨true, fun A B => by simp [mj_ic, h]⟩
    · exact ⟨false, fun A B => by simp [mj_ic, h]⟩
  · by_cases h : b ≤ a
    · exact ⟨true, fun A B => by simp [mj_ic, h]⟩
    · exact ⟨false, fun A B => by simp [mj_ic, h]⟩
  · by_cases h : b < a
    · exact ⟨true, fun A B => by simp [mj_ic, h]⟩
    · exact ⟨false, fun A B => by simp [mj_ic, h]⟩
  · by_cases h : a ≤ b
    · exact ⟨true, fun A B => by simp [mj_ic, h]⟩
    · exact ⟨false, fun A B => by simp [mj_ic, h]⟩
theorem mj_G_push {lo : List (Option Value)} {st : List Value} {w : mjW} (g : mj_G lo st w) {v : Value} (hv : v ≠ .ref 0) : mj_G lo (v :: st) w := ⟨g.1, fun u hu => by
  rcases List.mem_cons.mp hu with h | h
  · rw [h]; exact hv
  · exact g.2.1 u h, g.2.2⟩
theorem mj_G_tail {lo : List (Option Value)} {v : Value} {st : List Value} {w : mjW} (g : mj_G lo (v :: st) w) : v ≠ .ref 0 ∧ mj_G lo st w := ⟨g.2.1 v (List.mem_cons_self ..), g.1, fun u hu => g.2.1 u (List.mem_cons_of_mem _ hu), g.2.2⟩
theorem mj_ni (x : Int32) : (Value.int x) ≠ .ref 0 := fun q => by cases q
theorem mj_G_grow {lo : List (Option Value)} {st : List Value} {w : mjW} (g : mj_G lo st w) (t n : Nat) : mj_G lo (.ref w.1.length :: st) (mj_grow w t n) := by
  obtain ⟨g1, g2, g3, g4⟩ := g
  refine ⟨g1, fun u hu => ?_, fun a k => ?_, ?_⟩
  · rcases List.mem_cons.mp hu with h | h
    · rw [h]
      intro q
      have q2 : w.1.length = 0 := by injection q
      omega
    · exact g2 u h
  · show mj_new w.2.1 w.1.length none a k ≠ some 0
    unfold mj_new
    split
    · exact fun q => by cases q
    · exact g3 a k
  · show 0 < (w.1 ++ [(t, n)]).length
    rw [List.length_append, List.length_singleton]
    omega
theorem mj_rd_T {L : Nat} {xs : Nat → Int32} {w : mjW} {t a k : Nat} (ha : a ≠ 0) : mj_rd t (mj_TT L xs w) a k = mj_rd t w a k := by
  unfold mj_rd mj_TT
  simp only [ha, if_false]
theorem mj_rd_G {w : mjW} {t a k : Nat} (h : ∀ a k, w.2.1 a k ≠ some 0) : mj_rd t w a k ≠ .ref 0 := by
  unfold mj_rd
  cases Nat.beq t 2 with
  | false => exact fun q => by cases q
  | true =>
    show (match w.2.1 a k with | some r => Value.ref r | none => .null) ≠ .ref 0
    cases hr : w.2.1 a k with
    | none => exact fun q => by cases q
    | some r =>
      intro q
      injection q with q
      exact h a k (by rw [hr, q])
theorem mj_pf_T {L : Nat} {xs : Nat → Int32} {tt p a k : Nat} {lo : List (Option Value)} {w : mjW} {v : Value} {r : List Value} {t : mjS} (ha : a ≠ 0) (hv : v ≠ .ref 0) (g : mj_G lo r w) (h : mj_pf tt p lo w a k v r = some t) : mj_pf tt p lo (mj_TT L xs w) a k v r = some (t.1, t.2.1, t.2.2.1, mj_TT L xs t.2.2.2) ∧ mj_G t.2.1 t.2.2.1 t.2.2.2 := by
  obtain ⟨w1, w2, w3, w4⟩ := w
  unfold mj_pf at h ⊢
  cases h0 : Nat.beq tt 0 with
  | true =>
    rw [h0] at h
    cases v with
    | int x =>
      cases h
      refine ⟨?_, g⟩
      simp only [cond_true, mj_TT, Option.some.injEq, Prod.mk.injEq, true_and, and_true]
      exact (mj_T_up (L := L) (w := (w1, w2, w3, w4)) ha).symm
    | _ => cases h
  | false =>
    rw [h0] at h
    simp only [cond_false] at h ⊢
    cases h1 : Nat.beq tt 1 with
    | true =>
      rw [h1] at h
      simp only [cond_true] at h ⊢
      cases v with
      | int x =>
        simp only at h ⊢
        by_cases hx : x = 0 ∨ x = 1
        · rw [if_pos hx] at h ⊢
          cases h
          refine ⟨?_, g⟩
          simp only [mj_TT, Option.some.injEq, Prod.mk.injEq, true_and, and_true]
          exact (mj_T_up (L := L) (w := (w1, w2, w3, w4)) ha).symm
        · rw [if_neg hx] at h
          cases h
      | _ => cases h
    | false =>
      rw [h1] at h
      simp only [cond_false] at h ⊢
      cases v with
      | ref x =>
        cases h
        refine ⟨rfl, g.1, g.2.1, fun b j => ?_, g.2.2.2⟩
        show mj_up w2 a k (some x) b j ≠ some 0
        unfold mj_up
        split
        · intro q
          injection q with q
          exact hv (by rw [q])
        · exact g.2.2.1 b j
      | _ => cases h
theorem mj_sf_T {L : Nat} {xs : Nat → Int32} {y p : Nat} {e : mjE} {lo : List (Option Value)} {st : List Value} {w : mjW} {t : mjS} (hs : mj_cs e.1 = true) (g : mj_G lo st w) (h : mj_sf y e p lo st w = some t) : mj_sf y e p lo st (mj_TT L xs w) = some (t.1, t.2.1, t.2.2.1, mj_TT L xs t.2.2.2) ∧ mj_G t.2.1 t.2.2.1 t.2.2.2 := by
  obtain ⟨i, n, k0, k⟩ := e
  cases i <;> first
    | (cases hs; done)
    | (cases h; done)
    | (cases h; exact ⟨rfl, mj_G_push g (mj_ni _)⟩)
    | (cases h; exact ⟨rfl, g⟩)
    | (obtain ⟨x, h1, h2⟩ := mj_ldi_of h; cases h2; exact ⟨by simp only [mj_sf, mj_ldi, h1], mj_G_push g (mj_ni _)⟩)
    | (obtain ⟨x, h1, h2⟩ := mj_ldi_of h; cases h2; exact ⟨by simp only [mj_sf, mj_ldi, h1], mj_put_G g.1 (mj_ni _), g.2⟩)
    | (obtain ⟨x, h1, h2⟩ := mj_lda_of h; cases h2; exact ⟨by simp only [mj_sf, mj_lda, h1], mj_G_push g (fun q => g.1 _ (mj_at_mem h1) (by rw [q]))⟩)
    | (obtain ⟨x, r, rfl, h2⟩ := mj_i1_of h; cases h2; exact ⟨rfl, mj_put_G g.1 (mj_ni _), (mj_G_tail g).2.2⟩)
    | (obtain ⟨v, r, rfl, hv, h2⟩ := mj_d1_of h; cases h2; exact ⟨by simp only [mj_sf, mj_d1, hv]; rfl, mj_G_push g (mj_G_tail g).1⟩)
    | (obtain ⟨x, z, r, rfl, h2⟩ := mj_i2_of h; cases h2; exact ⟨rfl, mj_G_push (mj_G_tail (mj_G_tail g).2).2 (mj_ni _)⟩)
    | (obtain ⟨x, z, r, rfl, h2⟩ := mj_i2_of h; obtain ⟨h3, h2⟩ := mj_ite h2; cases h2; exact ⟨by simp only [mj_sf, mj_i2]; rw [if_neg h3], mj_G_push (mj_G_tail (mj_G_tail g).2).2 (mj_ni _)⟩)
    | (obtain ⟨x, r, rfl, h2⟩ := mj_i1_of h; obtain ⟨q, hq⟩ := mj_ic2 _ x 0; rw [hq] at h2; refine ⟨?_, ?_⟩ <;> cases q <;> first | (cases h2; exact (mj_G_tail g).2) | (cases h2; simp only [mj_sf, mj_i1]; rw [hq]; rfl))
    | (obtain ⟨x, z, r, rfl, h2⟩ := mj_i2_of h; obtain ⟨q, hq⟩ := mj_ic2 _ x z; rw [hq] at h2; refine ⟨?_, ?_⟩ <;> cases q <;> first | (cases h2; exact (mj_G_tail (mj_G_tail g).2).2) | (cases h2; simp only [mj_sf, mj_i2]; rw [hq]; rfl))
    | skip
  case getfield ix =>
    obtain ⟨a, r, rfl, h2⟩ := mj_a1_of h
    obtain ⟨h3, h2⟩ := mj_bif h2
    cases h2
    obtain ⟨g1, g2⟩ := mj_G_tail g
    have ha : a ≠ 0 := fun q => g1 (by rw [q])
    refine ⟨?_, mj_G_push g2 (mj_rd_G g.2.2.1)⟩
    simp only [mj_sf, mj_a1, mj_nth_T g.2.2.2 ha, mj_rd_T ha]
    simp only at h3
    rw [h3]
    rfl
  case putfield ix =>
    obtain ⟨a, v, r, rfl, h2⟩ := mj_av_of h
    obtain ⟨h3, h2⟩ := mj_bif h2
    obtain ⟨g1, g2⟩ := mj_G_tail g
    obtain ⟨g3, g4⟩ := mj_G_tail g2
    have ha : a ≠ 0 := fun q => g3 (by rw [q])
    obtain ⟨r1, r2⟩ := mj_pf_T (L := L) (xs := xs) ha g1 g4 h2
    refine ⟨?_, r2⟩
    simp only [mj_sf, mj_av, mj_nth_T g.2.2.2 ha]
    simp only at h3
    rw [h3]
    exact r1
  case arraylength =>
    obtain ⟨a, r, rfl, h2⟩ := mj_a1_of h
    obtain ⟨h3, h2⟩ := mj_bif h2
    cases h2
    obtain ⟨g1, g2⟩ := mj_G_tail g
    have ha : a ≠ 0 := fun q => g1 (by rw [q])
    refine ⟨?_, mj_G_push g2 (mj_ni _)⟩
    simp only [mj_sf, mj_a1, mj_nth_T g.2.2.2 ha]
    rw [h3]
    rfl
  case iastore =>
    obtain ⟨a, i, x, r, rfl, h2⟩ := mj_aii_of h
    obtain ⟨h3, h2⟩ := mj_bif h2
    obtain ⟨h4, h2⟩ := mj_ite h2
    cases h2
    obtain ⟨g1, g2⟩ := mj_G_tail g
    obtain ⟨g3, g4⟩ := mj_G_tail g2
    obtain ⟨g5, g6⟩ := mj_G_tail g4
    have ha : a ≠ 0 := fun q => g5 (by rw [q])
    refine ⟨?_, g6⟩
    simp only [mj_sf, mj_aii, mj_nth_T g.2.2.2 ha]
    rw [h3]
    simp only [cond_true]
    rw [if_neg h4]
    simp only [mj_TT, Option.some.injEq, Prod.mk.injEq, true_and, and_true]
    exact (mj_T_up (L := L) (w := w) ha).symm
  case newarray ty =>
    obtain ⟨x, r, rfl, h2⟩ := mj_i1_of h
    obtain ⟨h3, h2⟩ := mj_ite h2
    obtain ⟨g1, g2⟩ := mj_G_tail g
    have hlen : (mj_TT L xs w).1.length = w.1.length := by
      obtain ⟨w1, w2⟩ := w
      cases w1 with
      | nil => exact absurd g.2.2.2 (by show ¬ 0 < 0; omega)
      | cons q r => rfl
    cases ty <;> first
      | (cases h2; done)
      | (cases h2
         refine ⟨?_, mj_G_grow g2 _ _⟩
         simp only [mj_sf, mj_i1]
         rw [if_neg h3, mj_T_grow g.2.2.2, hlen])
  case new ix =>
    cases h
    have hlen : (mj_TT L xs w).1.length = w.1.length := by
      obtain ⟨w1, w2⟩ := w
      cases w1 with
      | nil => exact absurd g.2.2.2 (by show ¬ 0 < 0; omega)
      | cons q r => rfl
    refine ⟨?_, mj_G_grow g _ _⟩
    simp only [mj_sf]
    rw [mj_T_grow g.2.2.2, hlen]
  case invokestatic ix =>
    obtain ⟨x, z, r, rfl, h2⟩ := mj_i2_of h
    obtain ⟨h3, h2⟩ := mj_bif h2
    have g2 := (mj_G_tail (mj_G_tail g).2).2
    simp only at h2
    cases hz : Nat.beq k 1000 with
    | true =>
      rw [hz] at h2
      cases h2
      refine ⟨?_, mj_G_push g2 (mj_ni _)⟩
      simp only [mj_sf, mj_i2]
      rw [h3, hz]
      rfl
    | false =>
      rw [hz] at h2
      cases h2
      refine ⟨?_, mj_G_push g2 (mj_ni _)⟩
      simp only [mj_sf, mj_i2]
      rw [h3, hz]
      rfl
  case invokespecial ix =>
    obtain ⟨a, r, rfl, h2⟩ := mj_a1_of h
    obtain ⟨h3, h2⟩ := mj_bif h2
    cases h2
    refine ⟨?_, (mj_G_tail g).2⟩
    simp only [mj_sf, mj_a1]
    rw [h3]
    rfl
