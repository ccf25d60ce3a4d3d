/-! What the small machine does in a method, the machine does. -/
def mj_rok (mt : Option FieldType) (i : Instr) (v : Option Value) : Prop := match i, v with
  | .ireturn, some (.int x) => mt = some .int ∨ (mt = some .boolean ∧ (x = 0 ∨ x = 1))
  | .lreturn, some (.long _) => mt = some .long
  | .return_, none => mt = none
  | _, _ => False
def mj_WW (l : Launch) (n : Nat) : Prop := ∀ (d y p : Nat) (lo : List (Option Value)) (st : List Value) (w : mjW) (v : Option Value) (w' : mjW), mj_go n d y p lo st w = some (v, w') →
  (∃ ext, w'.1 = w.1 ++ ext) ∧
  ∀ (P : Program) (ev : Env) (R : Room) (s : State) (m : MethodId) (args : Array Value) (below : List Frame) (meth : Method) (c : Code) (H : Heap) (locs : List Loc) (cells slots cells2 slots2 : Nat) (Q : State → Prop) (D : va_G) (cI cL : ClassId) (b base : Nat) (ls : Array Slot),
    mj_C P m c meth s args y base → mj_I D cI cL b base s y w H locs ls lo → d + 1 ≤ R.frames → 64 * d + 30 ≤ R.locals → cells2 = cells + (w'.1.length - w.1.length) → slots2 = slots + (mj_tot w'.1 - mj_tot w.1) → cells2 ≤ R.cells → slots2 ≤ R.slots →
    (∀ (p' : Nat) (ls' : Array Slot) (H' : Heap) (locs' : List Loc) (i : Instr), decode (mj_mb y) p' = .ok (i, 1) → mj_rok (mj_mt y) i v → mj_X D cI cL b base w' s H' → va_S (mj_A base) s.heap H' locs' → W P l ev R s m args below meth c H' locs' cells2 slots2 Q (F0 m p' ls' (v.toList.map (mj_v b base)))) →
    W P l ev R s m args below meth c H locs cells slots Q (F0 m p ls (st.map (mj_v b base)))
theorem mj_at_pad : ∀ (n : Nat) (l : List (Option Value)) (i : Nat) (v : Value), mj_at (mj_pad n l) i = some v → mj_at l i = some v
  | 0, l, i, v, h => by cases h
  | n + 1, [], 0, v, h => by cases h
  | n + 1, [], i + 1, v, h => by
    have := mj_at_pad n [] i v h
    cases this
  | n + 1, u :: l, 0, v, h => h
  | n + 1, u :: l, i + 1, v, h => mj_at_pad n l i v h
theorem mj_at_ex (b base : Nat) : ∀ (a : List Value) (k i : Nat) (v : Value), mj_at (mj_ex a) i = some v → (k + i, mj_v b base v) ∈ lv_args k (a.map (mj_v b base))
  | [], k, i, v, h => by cases h
  | u :: r, k, i, v, h => by
    simp only [List.map_cons, lv_args, mj_v_cat]
    simp only [mj_ex] at h
    cases hu : Nat.beq u.category 2 with
    | true =>
      rw [hu] at h
      simp only [cond_true] at h
      rw [if_pos (Nat.eq_of_beq_eq_true hu)]
      match i, h with
      | 0, h =>
        cases h
        exact List.mem_cons_self
      | 1, h => cases h
      | i + 2, h =>
        have := mj_at_ex b base r (k + 2) i v h
        rw [show k + (i + 2) = k + 2 + i by omega]
        exact List.mem_cons_of_mem _ this
    | false =>
      rw [hu] at h
      simp only [cond_false] at h
      rw [if_neg (fun e => by rw [e] at hu; cases hu)]
      match i, h with
      | 0, h =>
        cases h
        exact List.mem_cons_self
      | i + 1, h =>
        have := mj_at_ex b base r (k + 1) i v h
        rw [show k + (i + 1) = k + 1 + i by omega]
        exact List.mem_cons_of_mem _ this
theorem mj_ex_len (b base : Nat) : ∀ (a : List Value), (lg_sl (a.map (mj_v b base))).length = (mj_ex a).length
  | [] => rfl
  | u :: r => by
    have ih := mj_ex_len b base r
    simp only [lg_sl, List.map_cons, List.flatMap_cons, List.length_append, mj_v_cat, mj_ex] at ih ⊢
    cases hu : Nat.beq u.category 2 with
    | true =>
      rw [if_pos (Nat.eq_of_beq_eq_true hu)]
      simp only [cond_true, List.length_cons, List.length_nil]
      omega
    | false =>
      rw [if_neg (fun e => by rw [e] at hu; cases hu)]
      simp only [cond_false, List.length_cons, List.length_nil]
      omega
theorem mj_isc_k {y p n k : Nat} {k0 : Int32} {i : Instr} (hE : mj_okE y p (i, n, k0, k) = true) (hi : mj_isc (i, n, k0, k) = true) : k ≤ 225 ∧ mj_mc k ≠ 8 := by
  have h6 : ∀ {k : Nat}, k ≤ 225 → mj_sk k = false → mj_mc k ≠ 8 := by
    have := (by decide +kernel : (List.range 226).all (fun k => mj_sk k || Nat.ble (mj_mc k) 6) = true)
    intro k h1 h2 e
    have h3 := List.all_eq_true.mp this k (List.mem_range.mpr (by omega))
    rw [h2] at h3
    have := Nat.le_of_ble_eq_true h3
    omega
  cases i <;> first | cases hi | skip
  · rename_i ix
    simp only [mj_okE, Bool.and_eq_true, Bool.or_eq_true, Bool.not_eq_true', decide_eq_true_eq] at hE
    obtain ⟨-, -, hx, hm⟩ := hE
    split at hm
    · rename_i q hq
      simp only [Bool.and_eq_true, Bool.or_eq_true, Bool.not_eq_true', decide_eq_true_eq] at hm
      rcases hm.2 with m2 | m2
      · have := Nat.eq_of_beq_eq_true m2.1
        have hz : (!(Nat.ble 999 k)) = true := hi
        rw [this] at hz
        cases hz
      · have hk := Nat.le_of_ble_eq_true m2.1.1.1
        exact ⟨hk, h6 hk m2.2⟩
    · cases hm
  · rename_i ix
    simp only [mj_okE, Bool.and_eq_true, Bool.or_eq_true, Bool.not_eq_true', decide_eq_true_eq] at hE
    obtain ⟨-, -, hx, hm⟩ := hE
    split at hm
    · rename_i q hq
      simp only [Bool.and_eq_true, Bool.or_eq_true, Bool.not_eq_true', decide_eq_true_eq] at hm
      have hz : (!(Nat.ble 999 k)) = true := hi
      rcases hm.2 with m2 | m2
      · exact ⟨Nat.le_of_ble_eq_true m2.1.1, fun e => by rw [e] at m2; exact absurd m2.2 (by decide)⟩
      · rcases m2.1 with e | e <;> (have := Nat.eq_of_beq_eq_true e; rw [this] at hz; cases hz)
    · cases hm
  · rename_i ix
    simp only [mj_okE, Bool.and_eq_true, Bool.or_eq_true, Bool.not_eq_true', decide_eq_true_eq] at hE
    obtain ⟨-, -, ⟨hx, hs⟩, hm⟩ := hE
    split at hm
    · rename_i q hq
      simp only [Bool.and_eq_true, decide_eq_true_eq] at hm
      have hk := Nat.le_of_ble_eq_true hm.1.2
      exact ⟨hk, h6 hk hs⟩
    · cases hm
theorem mj_ca_of {d z : Nat} {s : List Value} {w : mjW} {a r : List Value} (h : mj_ca d z s w = some (a, r)) : mj_rk z a < d ∧ (mj_ex a).length ≤ mj_ml z := by
  unfold mj_ca at h
  split at h
  · cases h
  · rename_i a0 r0 hp
    cases hs : mj_sk z with
    | true =>
      rw [hs] at h
      simp only [cond_true] at h
      obtain ⟨hb, h⟩ := mj_bif h
      simp only [Bool.and_eq_true] at hb
      cases h
      have b2 := Nat.le_of_ble_eq_true hb.1.2
      exact ⟨by omega, Nat.le_of_ble_eq_true hb.2⟩
    | false =>
      rw [hs] at h
      simp only [cond_false] at h
      split at h
      · obtain ⟨hb, h⟩ := mj_bif h
        simp only [Bool.and_eq_true] at hb
        cases h
        have b2 := Nat.le_of_ble_eq_true hb.1.2
        exact ⟨by omega, Nat.le_of_ble_eq_true hb.2⟩
      · cases h
theorem mj_met {l : Launch} {n d z : Nat} {a : List Value} {w w' : mjW} {v : Option Value} (ih : mj_WW l n) (hk : z ≤ 225) (h8 : mj_mc z ≠ 8) (hex : (mj_ex a).length ≤ mj_ml z) (h : mj_go n d z 0 (mj_lo z a) [] w = some (v, w')) : mj_MZ l z d a w v w' := by
  obtain ⟨-, z2, -, z4, -, z6, -⟩ := mj_okz hk h8
  intro D cI cL b base
  refine Met.ofW (cc := mj_mb z) (maxL := mj_ml z) (ret := mj_mt z) z4 rfl ?_
  intro p e s m args below meth c s₁ B hml hv
  obtain ⟨rfl, hX⟩ := hv
  have hts := atoms_spec (ws := mj_ws z) B.pre
  have hb : base ≤ s.heap.size := by have := hX.2.2.1; omega
  have C : mj_C p m c meth s (a.map (mj_v b base)).toArray z base := ⟨B.exec, B.bytes, B.returns, hml, by rw [← z6]; exact findClass_of_methodNamed B.named, (name_of_methodNamed B.named B.method).1, fun q hq => hts q (List.mem_cons_of_mem _ hq), hb⟩
  rw [lg_entry_eq]
  have hle : (lg_sl (a.map (mj_v b base))).length ≤ mj_ml z := by rw [mj_ex_len]; exact hex
  have hl := lv_entry (a.map (mj_v b base)) (n := mj_ml z) hle
  refine (ih d z 0 (mj_lo z a) [] w v w' h).2 p e (mj_rm d (w'.1.length - w.1.length) (mj_tot w'.1 - mj_tot w.1)) s m _ below meth c s.heap [] 0 0 _ _ _ D cI cL b base _ C ⟨hX, va_S.rf, hl.1, hl.2.1, fun i u hu => ?_⟩ (Nat.le_refl _) (Nat.le_refl _) (Nat.zero_add _).symm (Nat.zero_add _).symm (Nat.le_refl _) (Nat.le_refl _) ?_
  · have h1 := mj_at_ex b base a 0 i u (mj_at_pad _ _ _ _ hu)
    rw [Nat.zero_add] at h1
    exact hl.2.2 _ h1
  · intro p' ls' H' locs' i hd hr hX' hS'
    have hq : ∀ t : State, t.heap = H' → s.WarmedH t.vm → mj_Qc D cI cL b base v w' (a.map (mj_v b base)).toArray s (.returned (v.map (mj_v b base))) t := fun t ht hW => ⟨rfl, by rw [ht]; exact mj_X.moved hX' hW.alike (mj_nw.moved hX'.2.2.2.2.2.2.2 hW), hS'.F ht⟩
    have hlocks := B.notSynchronized
    cases i <;> first
      | exact hr.elim
      | skip
    · cases v with
      | none => exact hr.elim
      | some v =>
        cases v with
        | int x =>
          rcases hr with hr | ⟨hr, hx⟩
          · exact W.iret B.exec B.bytes (B.returns.trans hr) hq hS'.2.2 hd
          · exact W.zret (ty := .boolean) B.exec B.bytes (B.returns.trans hr) (by rcases hx with rfl | rfl <;> rfl) hq hS'.2.2 hd
        | _ => exact hr.elim
    · cases v with
      | none => exact hr.elim
      | some v =>
        cases v with
        | long x => exact W.lret B.exec B.bytes (B.returns.trans hr) hq hS'.2.2 hd
        | _ => exact hr.elim
    · cases v with
      | none => exact W.vret B.exec B.bytes (B.returns.trans hr) hq hS'.2.2 hd
      | some v => exact hr.elim
theorem mj_rt_of {y p n k : Nat} {k0 : Int32} {i : Instr} {st : List Value} {w w' : mjW} {v : Option Value} (hE : mj_okE y p (i, n, k0, k) = true) (hi : mj_isr i = true) (h : mj_rt y i st w = some (v, w')) : w' = w ∧ st = v.toList ∧ decode (mj_mb y) p = .ok (i, 1) ∧ mj_rok (mj_mt y) i v := by
  have hd := mj_E1 hE
  have hlen : n = mj_len i := by
    refine mj_E2 hE rfl ?_ ?_ <;> intros <;> intro e <;> subst e <;> cases hi
  subst hlen
  cases i <;> first
    | cases hi
    | skip
  · simp only [mj_okE, Bool.and_eq_true, Bool.or_eq_true, decide_eq_true_eq] at hE
    have hE := hE.2.2
    unfold mj_rt at h
    simp only at h
    split at h
    · rename_i x
      split at h
      · rename_i hmt
        by_cases hx : x = 0 ∨ x = 1
        · rw [if_pos hx] at h
          cases h
          exact ⟨rfl, rfl, hd, Or.inr ⟨hmt, hx⟩⟩
        · rw [if_neg hx] at h
          cases h
      · rename_i hmt
        cases h
        refine ⟨rfl, rfl, hd, ?_⟩
        rcases hE with hE | hE
        · exact Or.inl hE
        · exact absurd hE hmt
    · cases h
  · simp only [mj_okE, Bool.and_eq_true, decide_eq_true_eq] at hE
    have hE := hE.2.2
    unfold mj_rt at h
    simp only at h
    split at h
    · cases h
      exact ⟨rfl, rfl, hd, hE⟩
    · cases h
  · simp only [mj_okE, Bool.and_eq_true, decide_eq_true_eq] at hE
    have hE := hE.2.2
    unfold mj_rt at h
    simp only at h
    split at h
    · cases h
      exact ⟨rfl, rfl, hd, hE⟩
    · cases h
theorem mj_ic_of {c : ClassFile.Cond} {a b : Int32} {A B t : mjS} (h : mj_ic c a b (some A) (some B) = some t) : t = A ∨ t = B := by
  cases c <;> simp only [mj_ic] at h <;> split at h <;> cases h <;> simp
theorem mj_pf_of {tt p a k : Nat} {l : List (Option Value)} {w : mjW} {v : Value} {r : List Value} {t : mjS} (h : mj_pf tt p l w a k v r = some t) : t.2.2.2.1 = w.1 := by
  unfold mj_pf at h
  cases h0 : Nat.beq tt 0 with
  | true =>
    rw [h0] at h
    cases v <;> cases h
    rfl
  | false =>
    rw [h0] at h
    cases h1 : Nat.beq tt 1 with
    | true =>
      rw [h1] at h
      cases v with
      | int x =>
        simp only [cond_false, cond_true] at h
        by_cases hx : x = 0 ∨ x = 1
        · rw [if_pos hx] at h
          cases h
          rfl
        · rw [if_neg hx] at h
          cases h
      | _ => cases h
    | false =>
      rw [h1] at h
      cases v <;> cases h
      rfl
theorem mj_sf_sh {y p : Nat} {e : mjE} {lo : List (Option Value)} {st : List Value} {w : mjW} {t : mjS} (ha : mj_isa e.1 = false) (h : mj_sf y e p lo st w = some t) : t.2.2.2.1 = w.1 := by
  obtain ⟨i, n, k0, k⟩ := e
  cases i <;> first
    | (cases ha; done)
    | (cases h; done)
    | (cases h; rfl)
    | (obtain ⟨x, r, -, h2⟩ := mj_i1_of h; cases h2; rfl)
    | (obtain ⟨x, z, r, -, h2⟩ := mj_i2_of h; cases h2; rfl)
    | (obtain ⟨x, r, -, h2⟩ := mj_l1_of h; cases h2; rfl)
    | (obtain ⟨x, z, r, -, h2⟩ := mj_l2_of h; cases h2; rfl)
    | (obtain ⟨x, z, r, -, h2⟩ := mj_li_of h; cases h2; rfl)
    | (obtain ⟨x, r, -, h2⟩ := mj_a1_of h; cases h2; rfl)
    | (obtain ⟨x, -, h2⟩ := mj_ldi_of h; cases h2; rfl)
    | (obtain ⟨x, -, h2⟩ := mj_ldl_of h; cases h2; rfl)
    | (obtain ⟨x, -, h2⟩ := mj_lda_of h; cases h2; rfl)
    | (obtain ⟨v, r, -, -, h2⟩ := mj_d1_of h; cases h2; rfl)
    | (obtain ⟨v, r, -, -, h2⟩ := mj_d1_of h; obtain ⟨v, r, -, -, h2⟩ := mj_d1_of h2; cases h2; rfl)
    | (obtain ⟨x, z, r, -, h2⟩ := mj_i2_of h; obtain ⟨-, h2⟩ := mj_ite h2; cases h2; rfl)
    | (obtain ⟨x, z, r, -, h2⟩ := mj_l2_of h; obtain ⟨-, h2⟩ := mj_ite h2; cases h2; rfl)
    | (obtain ⟨x, r, -, h2⟩ := mj_i1_of h; rcases mj_ic_of h2 with rfl | rfl <;> rfl)
    | (obtain ⟨x, z, r, -, h2⟩ := mj_i2_of h; rcases mj_ic_of h2 with rfl | rfl <;> rfl)
    | (obtain ⟨x, r, -, h2⟩ := mj_a1_of h; obtain ⟨-, h2⟩ := mj_bif h2; cases h2; rfl)
    | (obtain ⟨a, i, r, -, h2⟩ := mj_ai_of h; obtain ⟨-, h2⟩ := mj_bif h2; obtain ⟨-, h2⟩ := mj_ite h2; cases h2; rfl)
    | (obtain ⟨a, i, x, r, -, h2⟩ := mj_aii_of h; obtain ⟨-, h2⟩ := mj_bif h2; obtain ⟨-, h2⟩ := mj_ite h2; cases h2; rfl)
    | (obtain ⟨a, i, x, r, -, h2⟩ := mj_ail_of h; obtain ⟨-, h2⟩ := mj_bif h2; obtain ⟨-, h2⟩ := mj_ite h2; cases h2; rfl)
    | (obtain ⟨a, v, r, -, h2⟩ := mj_av_of h; obtain ⟨-, h2⟩ := mj_bif h2; exact mj_pf_of h2)
    | (obtain ⟨x, z, r, -, h2⟩ := mj_i2_of h; obtain ⟨-, h2⟩ := mj_bif h2; cases hz : Nat.beq k 1000 <;> rw [hz] at h2 <;> cases h2 <;> rfl)
    | (cases hq : mj_lr (1000 * mj_mc y + _) <;> simp only [mj_sf, hq] at h <;> cases h <;> rfl)
    | (unfold mj_sf at h; simp only at h; split at h <;> first | (cases h; rfl) | (obtain ⟨x, r, -, h2⟩ := mj_i1_of h; cases h2; rfl) | (cases h; done))
theorem mj_sf_al {y p : Nat} {e : mjE} {lo : List (Option Value)} {st : List Value} {w : mjW} {t : mjS} (ha : mj_isa e.1 = true) (h : mj_sf y e p lo st w = some t) : ∃ tt nn, t.2.2.2 = mj_grow w tt nn := by
  obtain ⟨i, n, k0, k⟩ := e
  cases i <;> first
    | (cases ha; done)
    | skip
  · cases h
    exact ⟨_, _, rfl⟩
  · rename_i a
    obtain ⟨x, r, rfl, h2⟩ := mj_i1_of h
    obtain ⟨-, h2⟩ := mj_ite h2
    cases a <;> cases h2
    · exact ⟨_, _, rfl⟩
    · exact ⟨_, _, rfl⟩
theorem mj_alloc {P : Program} {l : Launch} {ev : Env} {R : Room} {s : State} {m : MethodId} {args : Array Value} {below : List Frame} {meth : Method} {c : Code} {cells slots : Nat} {Q : State → Prop} {D : va_G} {cI cL : ClassId} {b base y p : Nat} {lo : List (Option Value)} {st : List Value} {w : mjW} {t : mjS} {e : mjE} (C : mj_C P m c meth s args y base) (ha : mj_isa e.1 = true) (hE : mj_okE y p e = true) (h : mj_sf y e p lo st w = some t) : mj_Wal P l ev R s m args below meth c cells slots Q D cI cL b base y p lo st w t := by
  obtain ⟨i, n, k0, k⟩ := e
  cases i <;> first
    | (cases ha; done)
    | exact mj_s_new C hE h
    | exact mj_s_newarray C hE h
theorem mj_main (l : Launch) : ∀ n, mj_WW l n := by
  intro n
  induction n with
  | zero =>
    intro d y p lo st w v w' h
    cases h
  | succ n ih =>
    intro d y p lo st w v w' h
    unfold mj_go at h
    cases hco : mj_co y p with
    | none =>
      rw [hco] at h
      cases h
    | some e =>
      rw [hco] at h
      have hE := mj_coE hco
      simp only at h
      cases hr : mj_isr e.1 with
      | true =>
        rw [hr] at h
        simp only [cond_true] at h
        obtain ⟨i, n1, k0, k⟩ := e
        obtain ⟨rfl, rfl, hd, hk⟩ := mj_rt_of hE hr h
        refine ⟨⟨[], by simp⟩, ?_⟩
        intro P ev R s m args below meth c H locs cells slots cells2 slots2 Q D cI cL b base ls C I f1 f2 e1 e2 f3 f4 kk
        rw [Nat.sub_self, Nat.add_zero] at e1 e2
        subst e1; subst e2
        exact kk p ls H locs i hd hk I.1 I.2.1
      | false =>
        rw [hr] at h
        simp only [cond_false] at h
        cases hc : mj_isc e with
        | true =>
          rw [hc] at h
          simp only [cond_true] at h
          cases hca : mj_ca d e.2.2.2 st w with
          | none =>
            rw [hca] at h
            cases h
          | some q =>
            rw [hca] at h
            simp only at h
            cases hg : mj_go n (mj_rk e.2.2.2 q.1) e.2.2.2 0 (mj_lo e.2.2.2 q.1) [] w with
            | none =>
              rw [hg] at h
              cases h
            | some t =>
              rw [hg] at h
              simp only at h
              obtain ⟨i, n1, k0, k⟩ := e
              obtain ⟨v1, w1⟩ := t
              obtain ⟨a, r⟩ := q
              obtain ⟨hz, h8⟩ := mj_isc_k hE hc
              obtain ⟨hrk, hex⟩ := mj_ca_of hca
              obtain ⟨⟨x1, hx1⟩, -⟩ := ih _ _ _ _ _ _ _ _ hg
              obtain ⟨⟨x2, hx2⟩, hW⟩ := ih _ _ _ _ _ _ _ _ h
              have hM := mj_met ih hz h8 hex hg
              simp only at hx2 hx1
              refine ⟨⟨x1 ++ x2, by rw [hx2, hx1, List.append_assoc]⟩, ?_⟩
              intro P ev R s m args below meth c H locs cells slots cells2 slots2 Q D cI cL b base ls C I f1 f2 e1 e2 f3 f4 kk
              have g1 : w1.1.length = w.1.length + x1.length := by rw [hx1, List.length_append]
              have g2 : w'.1.length = w.1.length + x1.length + x2.length := by rw [hx2, List.length_append, g1]
              have g3 : mj_tot w1.1 = mj_tot w.1 + mj_tot x1 := by rw [hx1, mj_tot_app]
              have g4 : mj_tot w'.1 = mj_tot w.1 + mj_tot x1 + mj_tot x2 := by rw [hx2, mj_tot_app, g3]
              refine mj_call C I f1 f2 hc hE hca hM ⟨by omega, by omega⟩ fun H1 locs1 X1 S1 => ?_
              exact hW P ev R s m args below meth c H1 locs1 _ _ cells2 slots2 Q D cI cL b base ls C ⟨X1, S1, I.2.2⟩ f1 f2 (by simp only; omega) (by simp only; omega) f3 f4 kk
        | false =>
          rw [hc] at h
          simp only [cond_false] at h
          cases hs : mj_sf y e p lo st w with
          | none =>
            rw [hs] at h
            cases h
          | some t =>
            rw [hs] at h
            simp only at h
            obtain ⟨⟨x2, hx2⟩, hW⟩ := ih _ _ _ _ _ _ _ _ h
            cases ha : mj_isa e.1 with
            | false =>
              have hsh := mj_sf_sh ha hs
              refine ⟨⟨x2, by rw [hx2, hsh]⟩, ?_⟩
              intro P ev R s m args below meth c H locs cells slots cells2 slots2 Q D cI cL b base ls C I f1 f2 e1 e2 f3 f4 kk
              refine (mj_step C ⟨by omega, by omega, by omega, by omega⟩ hc ha hE hs).2 H locs ls I fun H1 locs1 ls1 I1 => ?_
              exact hW P ev R s m args below meth c H1 locs1 cells slots cells2 slots2 Q D cI cL b base ls1 C I1 f1 f2 (by rw [hsh]; exact e1) (by rw [hsh]; exact e2) f3 f4 kk
            | true =>
              obtain ⟨t0, n0, hg0⟩ := mj_sf_al ha hs
              refine ⟨⟨(t0, n0) :: x2, by rw [hx2, hg0]; simp [mj_grow]⟩, ?_⟩
              intro P ev R s m args below meth c H locs cells slots cells2 slots2 Q D cI cL b base ls C I f1 f2 e1 e2 f3 f4 kk
              obtain ⟨t1, n1, hg1, hw⟩ := mj_alloc (P := P) (l := l) (ev := ev) (R := R) (below := below) (cells := cells) (slots := slots) (Q := Q) (D := D) (cI := cI) (cL := cL) (b := b) C ha hE hs
              have g1 : t.2.2.2.1.length = w.1.length + 1 := by rw [hg1, mj_grow_len]
              have g2 : w'.1.length = w.1.length + 1 + x2.length := by rw [hx2, List.length_append, g1]
              have g3 : mj_tot t.2.2.2.1 = mj_tot w.1 + n1 := by
                rw [hg1]
                show mj_tot (w.1 ++ [(t1, n1)]) = _
                rw [mj_tot_app]
                rfl
              have g4 : mj_tot w'.1 = mj_tot w.1 + n1 + mj_tot x2 := by rw [hx2, mj_tot_app, g3]
              refine hw (by omega) (by omega) H locs ls I fun H1 locs1 ls1 I1 => ?_
              exact hW P ev R s m args below meth c H1 locs1 _ _ cells2 slots2 Q D cI cL b base ls1 C I1 f1 f2 (by omega) (by omega) f3 f4 kk
