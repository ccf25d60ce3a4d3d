/-! Whole runs: lifted; where references are; cell 0 is never written. -/
theorem mj_ex_G : ∀ {a : List Value}, (∀ v ∈ a, v ≠ .ref 0) → ∀ v ∈ mj_ex a, v ≠ some (.ref 0)
  | [], _, v, hv => by cases hv
  | u :: a, h, v, hv => by
    have ih := mj_ex_G (a := a) (fun v hv => h v (List.mem_cons_of_mem _ hv))
    have hu := h u (List.mem_cons_self ..)
    unfold mj_ex at hv
    cases hb : Nat.beq u.category 2 with
    | true =>
      rw [hb] at hv
      rcases List.mem_cons.mp hv with e | hv
      · rw [e]; exact fun q => hu (Option.some.inj q)
      · rcases List.mem_cons.mp hv with e | hv
        · rw [e]; exact fun q => by cases q
        · exact ih v hv
    | false =>
      rw [hb] at hv
      rcases List.mem_cons.mp hv with e | hv
      · rw [e]; exact fun q => hu (Option.some.inj q)
      · exact ih v hv
theorem mj_pad_G : ∀ (n : Nat) {a : List (Option Value)}, (∀ v ∈ a, v ≠ some (.ref 0)) → ∀ v ∈ mj_pad n a, v ≠ some (.ref 0)
  | 0, a, _, v, hv => by cases hv
  | n + 1, [], h, v, hv => by
    rcases List.mem_cons.mp hv with e | hv
    · rw [e]; exact fun q => by cases q
    · exact mj_pad_G n h v hv
  | n + 1, u :: a, h, v, hv => by
    rcases List.mem_cons.mp hv with e | hv
    · rw [e]; exact h u (List.mem_cons_self ..)
    · exact mj_pad_G n (fun v hv => h v (List.mem_cons_of_mem _ hv)) v hv
theorem mj_ca_T {L : Nat} {xs : Nat → Int32} {d z : Nat} {lo : List (Option Value)} {st : List Value} {w : mjW} (g : mj_G lo st w) {a r : List Value} (h : mj_ca d z st w = some (a, r)) : mj_ca d z st (mj_TT L xs w) = some (a, r) ∧ (∀ v ∈ a, v ≠ .ref 0) ∧ ∀ v ∈ r, v ≠ .ref 0 := by
  unfold mj_ca at h ⊢
  cases hp : mj_pop (mj_np z) st [] with
  | none => rw [hp] at h; cases h
  | some q =>
    obtain ⟨a0, r0⟩ := q
    rw [hp] at h
    obtain ⟨u, e1, e2, -⟩ := mj_pop_of _ _ _ _ _ hp
    have ga : ∀ v ∈ a0, v ≠ .ref 0 := by
      intro v hv
      rw [e2, List.append_nil, List.mem_reverse] at hv
      exact g.2.1 v (by rw [e1]; exact List.mem_append_left _ hv)
    have gr : ∀ v ∈ r0, v ≠ .ref 0 := fun v hv => g.2.1 v (by rw [e1]; exact List.mem_append_right _ hv)
    simp only at h ⊢
    cases hs : mj_sk z with
    | true =>
      rw [hs] at h
      simp only [cond_true] at h ⊢
      obtain ⟨h1, h2⟩ := mj_bif h
      cases h2
      exact ⟨h, ga, gr⟩
    | false =>
      rw [hs] at h
      simp only [cond_false] at h ⊢
      cases r0 with
      | nil => cases h
      | cons x r0 =>
        cases x with
        | ref o =>
          simp only at h ⊢
          have ho : o ≠ 0 := fun q => gr _ (List.mem_cons_self ..) (by rw [q])
          obtain ⟨h1, h2⟩ := mj_bif h
          cases h2
          rw [mj_nth_T g.2.2.2 ho]
          refine ⟨h, fun v hv => ?_, fun v hv => gr v (List.mem_cons_of_mem _ hv)⟩
          rcases List.mem_cons.mp hv with e | hv
          · rw [e]; exact gr _ (List.mem_cons_self ..)
          · exact ga v hv
        | _ => cases h
theorem mj_go_T {L : Nat} {xs : Nat → Int32} : ∀ (n d y p : Nat) (lo : List (Option Value)) (st : List Value) (w : mjW) (v : Option Value) (w' : mjW), mj_cm y = true → mj_G lo st w → mj_go n d y p lo st w = some (v, w') → mj_go n d y p lo st (mj_TT L xs w) = some (v, mj_TT L xs w') ∧ v = none ∧ (∀ a k, w'.2.1 a k ≠ some 0) ∧ 0 < w'.1.length := by
  intro n
  induction n with
  | zero => intro d y p lo st w v w' _ _ h; cases h
  | succ n ih =>
    intro d y p lo st w v w' hy g h
    unfold mj_go at h ⊢
    cases hco : mj_co y p with
    | none => rw [hco] at h; cases h
    | some e =>
      rw [hco] at h
      obtain ⟨hs, hcm⟩ := mj_cc9 hy hco
      simp only at h ⊢
      cases hr : mj_isr e.1 with
      | true =>
        rw [hr] at h
        simp only [cond_true] at h ⊢
        obtain ⟨i, x1, x2, x3⟩ := e
        cases i <;> first
          | (cases hr; done)
          | (cases hs; done)
          | skip
        cases st with
        | nil =>
          cases h
          exact ⟨rfl, rfl, g.2.2⟩
        | cons u st => cases h
      | false =>
        rw [hr] at h
        simp only [cond_false] at h ⊢
        cases hc : mj_isc e with
        | true =>
          rw [hc] at h
          simp only [cond_true] at h ⊢
          cases hca : mj_ca d e.2.2.2 st w with
          | none => rw [hca] at h; cases h
          | some q =>
            obtain ⟨a, r⟩ := q
            rw [hca] at h
            obtain ⟨c1, c2, c3⟩ := mj_ca_T (L := L) (xs := xs) g hca
            rw [c1]
            simp only at h ⊢
            cases hg : mj_go n (mj_rk e.2.2.2 a) e.2.2.2 0 (mj_lo e.2.2.2 a) [] w with
            | none => rw [hg] at h; cases h
            | some t =>
              rw [hg] at h
              obtain ⟨v1, w1⟩ := t
              obtain ⟨r1, r2, r3⟩ := ih _ _ _ _ _ _ v1 w1 (hcm hc) ⟨mj_pad_G _ (mj_ex_G c2), (fun v hv => by cases hv), g.2.2⟩ hg
              have r1 : mj_go n (mj_rk e.2.2.2 a) e.2.2.2 0 (mj_lo e.2.2.2 a) [] (mj_TT L xs w) = some (v1, mj_TT L xs w1) := r1
              rw [r1]
              subst r2
              simp only at h ⊢
              exact ih _ _ _ _ _ _ v w' hy ⟨g.1, c3, r3⟩ h
        | false =>
          rw [hc] at h
          simp only [cond_false] at h ⊢
          cases hsf : mj_sf y e p lo st w with
          | none => rw [hsf] at h; cases h
          | some t =>
            rw [hsf] at h
            obtain ⟨r1, r2⟩ := mj_sf_T (L := L) (xs := xs) hs g hsf
            rw [r1]
            simp only at h ⊢
            exact ih _ _ _ _ _ _ v w' hy r2 h
/-! references lie in cells that there are, at fields below 64 -/
def mj_P9 (w : mjW) : Prop := ∀ a k, (w.1.length ≤ a ∨ 64 ≤ k) → w.2.1 a k = none
set_option maxRecDepth 100000 in
theorem mj_ca10 : [0, 10, 11, 13, 26, 46, 64, 78, 130, 133, 140].all (fun y => (List.range (mj_sz y)).all (fun p => match mj_co y p with
  | none => true
  | some e => match e.1 with
    | .putfield _ => Nat.ble e.2.2.2 447
    | _ => true)) = true := by decide +kernel
theorem mj_cc10 {y p : Nat} {ix n k : Nat} {k0 : Int32} (hy : mj_cm y = true) (h : mj_co y p = some (.putfield ix, n, k0, k)) : k ≤ 447 := by
  obtain ⟨h1, h2⟩ := mj_cob h
  have hm : y ∈ [0, 10, 11, 13, 26, 46, 64, 78, 130, 133, 140] := by
    unfold mj_cm at hy
    exact List.contains_iff_mem.mp hy
  have h3 := List.all_eq_true.mp mj_ca10 y hm
  have h4 := List.all_eq_true.mp h3 p (List.mem_range.mpr h2)
  simp only [h] at h4
  exact Nat.le_of_ble_eq_true h4
theorem mj_P9_grow {w : mjW} (h : mj_P9 w) (t n : Nat) : mj_P9 (mj_grow w t n) := by
  intro a k hak
  have e : (mj_grow w t n).1.length = w.1.length + 1 := by
    show (w.1 ++ [(t, n)]).length = _
    rw [List.length_append, List.length_singleton]
  rw [e] at hak
  show mj_new w.2.1 w.1.length none a k = none
  unfold mj_new
  split
  · rfl
  · exact h a k (by omega)
theorem mj_sf_P {y p : Nat} {e : mjE} {lo : List (Option Value)} {st : List Value} {w : mjW} {t : mjS} (hy : mj_cm y = true) (hco : mj_co y p = some e) (g : mj_P9 w) (h : mj_sf y e p lo st w = some t) : mj_P9 t.2.2.2 := by
  have hs := (mj_cc9 hy hco).1
  obtain ⟨i, n, k0, k⟩ := e
  cases i <;> first
    | (cases hs; done)
    | (cases h; done)
    | (cases h; exact g)
    | (cases h; exact mj_P9_grow g _ _)
    | (obtain ⟨x, h1, h2⟩ := mj_ldi_of h; cases h2; exact g)
    | (obtain ⟨x, h1, h2⟩ := mj_lda_of h; cases h2; exact g)
    | (obtain ⟨x, r, rfl, h2⟩ := mj_i1_of h; cases h2; exact g)
    | (obtain ⟨v, r, rfl, hv, h2⟩ := mj_d1_of h; cases h2; exact g)
    | (obtain ⟨x, z, r, rfl, h2⟩ := mj_i2_of h; cases h2; exact g)
    | (obtain ⟨x, z, r, rfl, h2⟩ := mj_i2_of h; obtain ⟨h3, h2⟩ := mj_ite h2; cases h2; exact g)
    | (obtain ⟨x, r, rfl, h2⟩ := mj_i1_of h; rcases mj_ic_of h2 with rfl | rfl <;> exact g)
    | (obtain ⟨x, z, r, rfl, h2⟩ := mj_i2_of h; rcases mj_ic_of h2 with rfl | rfl <;> exact g)
    | (obtain ⟨a, r, rfl, h2⟩ := mj_a1_of h; obtain ⟨h3, h2⟩ := mj_bif h2; cases h2; exact g)
    | (obtain ⟨a, i, x, r, rfl, h2⟩ := mj_aii_of h; obtain ⟨h3, h2⟩ := mj_bif h2; obtain ⟨h4, h2⟩ := mj_ite h2; cases h2; exact g)
    | skip
  case putfield ix =>
    obtain ⟨a, v, r, rfl, h2⟩ := mj_av_of h
    obtain ⟨h3, h2⟩ := mj_bif h2
    have hk := mj_cc10 hy hco
    have hlt : a < w.1.length := mj_nth_lt (Nat.eq_of_beq_eq_true h3) (by show k / 64 + 2 ≤ 8; omega)
    unfold mj_pf at h2
    cases h0 : Nat.beq (mj_tc (k / 64) (k % 64)) 0 with
    | true =>
      rw [h0] at h2
      cases v <;> cases h2
      exact g
    | false =>
      rw [h0] at h2
      simp only [cond_false] at h2
      cases h1 : Nat.beq (mj_tc (k / 64) (k % 64)) 1 with
      | true =>
        rw [h1] at h2
        simp only [cond_true] at h2
        cases v with
        | int x =>
          simp only at h2
          by_cases hx : x = 0 ∨ x = 1
          · rw [if_pos hx] at h2
            cases h2
            exact g
          · rw [if_neg hx] at h2
            cases h2
        | _ => cases h2
      | false =>
        rw [h1] at h2
        simp only [cond_false] at h2
        cases v with
        | ref x =>
          cases h2
          intro b j hbj
          show mj_up w.2.1 a (k % 64) (some x) b j = none
          unfold mj_up
          rw [if_neg (fun q : b = a ∧ j = k % 64 => by
            have hbj : w.1.length ≤ b ∨ 64 ≤ j := hbj
            rcases hbj with z | z
            · rw [q.1] at z
              exact absurd hlt (Nat.not_lt.mpr z)
            · rw [q.2] at z
              have := Nat.mod_lt k (show 0 < 64 by omega)
              omega)]
          exact g b j hbj
        | _ => cases h2
  case newarray ty =>
    obtain ⟨x, r, rfl, h2⟩ := mj_i1_of h
    obtain ⟨h3, h2⟩ := mj_ite h2
    cases ty <;> first
      | (cases h2; done)
      | (cases h2; exact mj_P9_grow g _ _)
  case invokestatic ix =>
    obtain ⟨x, z, r, rfl, h2⟩ := mj_i2_of h
    obtain ⟨h3, h2⟩ := mj_bif h2
    cases hz : Nat.beq k 1000 <;> rw [hz] at h2 <;> cases h2 <;> exact g
theorem mj_go_P : ∀ (n d y p : Nat) (lo : List (Option Value)) (st : List Value) (w : mjW) (v : Option Value) (w' : mjW), mj_cm y = true → mj_P9 w → mj_go n d y p lo st w = some (v, w') → mj_P9 w' := by
  intro n
  induction n with
  | zero => intro d y p lo st w v w' _ _ h; cases h
  | succ n ih =>
    intro d y p lo st w v w' hy g h
    unfold mj_go at h
    cases hco : mj_co y p with
    | none => rw [hco] at h; cases h
    | some e =>
      rw [hco] at h
      obtain ⟨hs, hcm⟩ := mj_cc9 hy hco
      simp only at h
      cases hr : mj_isr e.1 with
      | true =>
        rw [hr] at h
        simp only [cond_true] at h
        obtain ⟨i, x1, x2, x3⟩ := e
        cases i <;> first
          | (cases hr; done)
          | (cases hs; done)
          | skip
        cases st with
        | nil => cases h; exact g
        | cons u st => cases h
      | false =>
        rw [hr] at h
        simp only [cond_false] at h
        cases hc : mj_isc e with
        | true =>
          rw [hc] at h
          simp only [cond_true] at h
          cases hca : mj_ca d e.2.2.2 st w with
          | none => rw [hca] at h; cases h
          | some q =>
            rw [hca] at h
            simp only at h
            cases hg : mj_go n (mj_rk e.2.2.2 q.1) e.2.2.2 0 (mj_lo e.2.2.2 q.1) [] w with
            | none => rw [hg] at h; cases h
            | some t =>
              rw [hg] at h
              exact ih _ _ _ _ _ _ v w' hy (ih _ _ _ _ _ _ t.1 t.2 (hcm hc) g hg) h
        | false =>
          rw [hc] at h
          simp only [cond_false] at h
          cases hsf : mj_sf y e p lo st w with
          | none => rw [hsf] at h; cases h
          | some t =>
            rw [hsf] at h
            exact ih _ _ _ _ _ _ v w' hy (mj_sf_P hy hco g hsf) h
/-! cell 0 -/
theorem mj_up_0 {f : Nat → Nat → Int32} {a k : Nat} {v : Int32} (ha : a ≠ 0) : mj_up f a k v 0 = f 0 := by
  funext j
  unfold mj_up
  rw [if_neg (fun q => ha q.1.symm)]
theorem mj_pf_0 {tt p a k : Nat} {lo : List (Option Value)} {w : mjW} {v : Value} {r : List Value} {t : mjS} (ha : a ≠ 0) (h : mj_pf tt p lo w a k v r = some t) : t.2.2.2.2.2.1 0 = w.2.2.1 0 := by
  unfold mj_pf at h
  cases h0 : Nat.beq tt 0 with
  | true =>
    rw [h0] at h
    cases v <;> cases h
    exact mj_up_0 ha
  | false =>
    rw [h0] at h
    simp only [cond_false] at h
    cases h1 : Nat.beq tt 1 with
    | true =>
      rw [h1] at h
      simp only [cond_true] at h
      cases v with
      | int x =>
        simp only at h
        by_cases hx : x = 0 ∨ x = 1
        · rw [if_pos hx] at h
          cases h
          exact mj_up_0 ha
        · rw [if_neg hx] at h
          cases h
      | _ => cases h
    | false =>
      rw [h1] at h
      simp only [cond_false] at h
      cases v with
      | ref x => cases h; rfl
      | _ => cases h
theorem mj_sf_0 {y p : Nat} {e : mjE} {lo : List (Option Value)} {st : List Value} {w : mjW} {t : mjS} (hz : (mj_nth w.1 0).1 = 0) (ha : mj_isa e.1 = false) (h : mj_sf y e p lo st w = some t) : t.2.2.2.2.2.1 0 = w.2.2.1 0 := by
  obtain ⟨i, n, k0, k⟩ := e
  cases i <;> first
    | (cases ha; done)
    | (cases h; done)
    | (cases h; rfl)
    | (obtain ⟨x, r, -, h2⟩ := mj_i1_of h; cases h2; rfl)
    | (obtain ⟨x, z, r, -, h2⟩ := mj_i2_of h; cases h2; rfl)
    | (obtain ⟨x, r, -, h2⟩ := mj_l1_of h; cases h2; rfl)
    | (obtain ⟨x, z, r, -, h2⟩ := mj_l2_of h; cases h2; rfl)
    | (obtain ⟨x, z, r, -, h2⟩ := mj_li_of h; cases h2; rfl)
    | (obtain ⟨x, r, -, h2⟩ := mj_a1_of h; cases h2; rfl)
    | (obtain ⟨x, -, h2⟩ := mj_ldi_of h; cases h2; rfl)
    | (obtain ⟨x, -, h2⟩ := mj_ldl_of h; cases h2; rfl)
    | (obtain ⟨x, -, h2⟩ := mj_lda_of h; cases h2; rfl)
    | (obtain ⟨v, r, -, -, h2⟩ := mj_d1_of h; cases h2; rfl)
    | (obtain ⟨v, r, -, -, h2⟩ := mj_d1_of h; obtain ⟨v, r, -, -, h2⟩ := mj_d1_of h2; cases h2; rfl)
    | (obtain ⟨x, z, r, -, h2⟩ := mj_i2_of h; obtain ⟨-, h2⟩ := mj_ite h2; cases h2; rfl)
    | (obtain ⟨x, z, r, -, h2⟩ := mj_l2_of h; obtain ⟨-, h2⟩ := mj_ite h2; cases h2; rfl)
    | (obtain ⟨x, r, -, h2⟩ := mj_i1_of h; rcases mj_ic_of h2 with rfl | rfl <;> rfl)
    | (obtain ⟨x, z, r, -, h2⟩ := mj_i2_of h; rcases mj_ic_of h2 with rfl | rfl <;> rfl)
    | (obtain ⟨x, r, -, h2⟩ := mj_a1_of h; obtain ⟨-, h2⟩ := mj_bif h2; cases h2; rfl)
    | (obtain ⟨a, i, r, -, h2⟩ := mj_ai_of h; obtain ⟨-, h2⟩ := mj_bif h2; obtain ⟨-, h2⟩ := mj_ite h2; cases h2; rfl)
    | (obtain ⟨a, i, x, r, -, h2⟩ := mj_ail_of h; obtain ⟨-, h2⟩ := mj_bif h2; obtain ⟨-, h2⟩ := mj_ite h2; cases h2; rfl)
    | (obtain ⟨a, i, x, r, -, h2⟩ := mj_aii_of h; obtain ⟨h3, h2⟩ := mj_bif h2; obtain ⟨-, h2⟩ := mj_ite h2; cases h2; exact mj_up_0 (fun q => by rw [q] at h3; simp at h3))
    | (obtain ⟨a, v, r, -, h2⟩ := mj_av_of h; obtain ⟨h3, h2⟩ := mj_bif h2; exact mj_pf_0 (fun q => by have h4 := Nat.eq_of_beq_eq_true h3; rw [q, hz] at h4; omega) h2)
    | (obtain ⟨x, z, r, -, h2⟩ := mj_i2_of h; obtain ⟨-, h2⟩ := mj_bif h2; cases hz : Nat.beq k 1000 <;> rw [hz] at h2 <;> cases h2 <;> rfl)
    | (cases hq9 : mj_lr (1000 * mj_mc y + _) <;> simp only [mj_sf, hq9] at h <;> cases h <;> rfl)
    | (unfold mj_sf at h; simp only at h; split at h <;> first | (cases h; rfl) | (obtain ⟨x, r, -, h2⟩ := mj_i1_of h; cases h2; rfl) | (cases h; done))
theorem mj_go_0 : ∀ (n d y p : Nat) (lo : List (Option Value)) (st : List Value) (w : mjW) (v : Option Value) (w' : mjW), mj_qe y = true → (mj_nth w.1 0).1 = 0 → mj_go n d y p lo st w = some (v, w') → w'.2.2.1 0 = w.2.2.1 0 ∧ w'.1 = w.1 := by
  intro n
  induction n with
  | zero => intro d y p lo st w v w' _ _ h; cases h
  | succ n ih =>
    intro d y p lo st w v w' hy hz h
    unfold mj_go at h
    cases hco : mj_co y p with
    | none => rw [hco] at h; cases h
    | some e =>
      rw [hco] at h
      simp only at h
      have hE := mj_coE hco
      have hq := mj_qc hy hco
      cases hr : mj_isr e.1 with
      | true =>
        rw [hr] at h
        simp only [cond_true] at h
        obtain ⟨i, n1, k0, k⟩ := e
        obtain ⟨rfl, -, -, hk⟩ := mj_rt_of hE hr h
        exact ⟨rfl, rfl⟩
      | false =>
        rw [hr] at h
        simp only [cond_false] at h
        cases hc : mj_isc e with
        | true =>
          rw [hc] at h
          simp only [cond_true] at h
          cases hca : mj_ca d e.2.2.2 st w with
          | none => rw [hca] at h; cases h
          | some q =>
            rw [hca] at h
            simp only at h
            cases hg : mj_go n (mj_rk e.2.2.2 q.1) e.2.2.2 0 (mj_lo e.2.2.2 q.1) [] w with
            | none => rw [hg] at h; cases h
            | some t =>
              rw [hg] at h
              have hz2 : mj_qe e.2.2.2 = true := by
                unfold mj_qi at hq
                rw [hc] at hq
                simp only [Bool.and_eq_true, Bool.not_true, Bool.false_or] at hq
                exact hq.2
              obtain ⟨a1, a2⟩ := ih _ _ _ _ _ _ t.1 t.2 hz2 hz hg
              obtain ⟨b1, b2⟩ := ih _ _ _ _ _ _ _ _ hy (by rw [a2]; exact hz) h
              exact ⟨b1.trans a1, b2.trans a2⟩
        | false =>
          rw [hc] at h
          simp only [cond_false] at h
          cases hs : mj_sf y e p lo st w with
          | none => rw [hs] at h; cases h
          | some t =>
            rw [hs] at h
            have ha : mj_isa e.1 = false := by
              unfold mj_qi at hq
              simp only [Bool.and_eq_true] at hq
              cases hh : mj_isa e.1 with
              | false => rfl
              | true => rw [hh] at hq; exact absurd hq.1.1 (by simp)
            have a2 := mj_sf_sh ha hs
            obtain ⟨b1, b2⟩ := ih _ _ _ _ _ _ _ _ hy (by rw [a2]; exact hz) h
            exact ⟨b1.trans (mj_sf_0 hz ha hs), b2.trans a2⟩
theorem mj_c0E {d z p L : Nat} {lo : List (Option Value)} {st : List Value} {i : mMI} {l : mML} {v : Option Value} {w : mjW} (hq : mj_qe z = true) (h : mj_E d z p lo st L i l = some (v, w)) : w.2.2.1 0 = i 0 := by
  obtain ⟨n, hn⟩ := mj_ev_iff.mp h
  exact (mj_go_0 _ _ _ _ _ _ _ _ _ hq rfl hn).1
theorem mj_c0I {d z p L : Nat} {lo : List (Option Value)} {st : List Value} {i i' : mMI} {l l' : mML} {r : Int32} (hq : mj_qe z = true) (h : mj_tI (mj_E d z p lo st L i l) = some (r, i', l')) : i' 0 = i 0 := by
  unfold mj_tI at h
  split at h
  · rename_i r0 w0 hE
    cases h
    exact mj_c0E hq hE
  · cases h
theorem mj_c0J {d z p L : Nat} {lo : List (Option Value)} {st : List Value} {i i' : mMI} {l l' : mML} {r : Int64} (hq : mj_qe z = true) (h : mj_tJ (mj_E d z p lo st L i l) = some (r, i', l')) : i' 0 = i 0 := by
  unfold mj_tJ at h
  split at h
  · rename_i r0 w0 hE
    cases h
    exact mj_c0E hq hE
  · cases h
