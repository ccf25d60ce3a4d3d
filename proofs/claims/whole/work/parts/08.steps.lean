/-! What the small machine does, the machine does: one instruction. -/
/-- what stays through a method -/
def mj_C (P : Program) (m : MethodId) (c : Code) (meth : Method) (s : State) (args : Array Value) (y base : Nat) : Prop :=
  P.tables.exec = Jvm.exec ∧ c.code = mj_mb y ∧ meth.sig.returnType = mj_mt y ∧ c.maxLocals = mj_ml y ∧ s.vm.findClass (mj_cn (mj_mc y)) = some m.cls ∧ meth.name = (mj_mn y).name ∧ (∀ q ∈ mj_lg, q.before args s = true) ∧ base ≤ s.heap.size
def mj_A (base : Nat) : Nat → Prop := fun q => base ≤ q
/-- the picture of a frame: the world, what was written, the locals -/
def mj_I (D : va_G) (cI cL : ClassId) (b base : Nat) (s : State) (y : Nat) (w : mjW) (H : Heap) (locs : List Loc) (ls : Array Slot) (lo : List (Option Value)) : Prop :=
  mj_X D cI cL b base w s H ∧ va_S (mj_A base) s.heap H locs ∧ mj_L b base ls (mj_ml y) lo
def mj_Wto (P : Program) (l : Launch) (ev : Env) (R : Room) (s : State) (m : MethodId) (args : Array Value) (below : List Frame) (meth : Method) (c : Code) (cells slots : Nat) (Q : State → Prop) (D : va_G) (cI cL : ClassId) (b base y p : Nat) (lo : List (Option Value)) (st : List Value) (w : mjW) (t : mjS) : Prop :=
  t.2.2.2.1 = w.1 ∧ ∀ (H : Heap) (locs : List Loc) (ls : Array Slot), mj_I D cI cL b base s y w H locs ls lo →
    (∀ (H1 : Heap) (locs1 : List Loc) (ls1 : Array Slot), mj_I D cI cL b base s y t.2.2.2 H1 locs1 ls1 t.2.1 → W P l ev R s m args below meth c H1 locs1 cells slots Q (F0 m t.1 ls1 (t.2.2.1.map (mj_v b base)))) →
    W P l ev R s m args below meth c H locs cells slots Q (F0 m p ls (st.map (mj_v b base)))
theorem mj_C.own {P : Program} {m : MethodId} {c : Code} {meth : Method} {s : State} {args : Array Value} {y base : Nat} (C : mj_C P m c meth s args y base) : s.vm.findClass (mj_cn (mj_mc y)) = some m.cls := C.2.2.2.2.1
theorem mj_C.wd {P : Program} {m : MethodId} {c : Code} {meth : Method} {s : State} {args : Array Value} {y base : Nat} (C : mj_C P m c meth s args y base) {q : Cond} (h : q ∈ lw_tbl) (hg : goodWord q = true := by rfl) : q.before args s = true := C.2.2.2.2.2.2.1 q (List.mem_filter.mpr ⟨h, hg⟩)
theorem mj_dm {a i : Nat} (h : i ≤ 999) : (1000 * a + i) / 1000 = a ∧ (1000 * a + i) % 1000 = i := by omega
theorem mj_kr_ok {q : Nat} {n : Int32} (h : mj_kr q = some n) : Cond.constant (mj_cn (q / 1000)) (q % 1000) n ∈ lw_tbl := by
  have hq : q < 11000 := by
    refine Nat.lt_of_not_le fun hh => ?_
    unfold mj_kr at h
    rw [Nat.ble_eq_true_of_le hh] at h
    cases h
  have this := List.all_eq_true.mp mj_kra q (List.mem_range.mpr hq)
  simp only [h] at this
  exact mj_is_mem this
theorem mj_lr_ok {q : Nat} {n : Int64} (h : mj_lr q = some n) : Cond.constantLong (mj_cn (q / 1000)) (q % 1000) n ∈ lw_tbl := by
  have hq : q < 11000 := by
    refine Nat.lt_of_not_le fun hh => ?_
    unfold mj_lr at h
    rw [Nat.ble_eq_true_of_le hh] at h
    cases h
  have this := List.all_eq_true.mp mj_lra q (List.mem_range.mpr hq)
  simp only [h] at this
  exact mj_is_mem this
theorem mj_cr_ok {q n : Nat} (h : mj_cr q = some n) : Cond.classLink (mj_cn (q / 1000)) (q % 1000) (mj_cn n) ∈ lw_tbl := by
  have hq : q < 11000 := by
    refine Nat.lt_of_not_le fun hh => ?_
    unfold mj_cr at h
    rw [Nat.ble_eq_true_of_le hh] at h
    cases h
  have this := List.all_eq_true.mp mj_cra q (List.mem_range.mpr hq)
  simp only [h] at this
  exact mj_is_mem this
theorem mj_fr_ok {q n : Nat} (h : mj_fr q = some n) : mj_okF q n = true := by
  have hq : q < 11000 := by
    refine Nat.lt_of_not_le fun hh => ?_
    unfold mj_fr at h
    rw [Nat.ble_eq_true_of_le hh] at h
    cases h
  have this := List.all_eq_true.mp mj_fra q (List.mem_range.mpr hq)
  simp only [h] at this
  exact this
theorem mj_mr_ok {q : Nat} {n : Nat × Nat} (h : mj_mr q = some n) : mj_okM q n = true := by
  have hq : q < 11000 := by
    refine Nat.lt_of_not_le fun hh => ?_
    unfold mj_mr at h
    rw [Nat.ble_eq_true_of_le hh] at h
    cases h
  have this := List.all_eq_true.mp mj_mra q (List.mem_range.mpr hq)
  simp only [h] at this
  exact this
theorem mj_E1 {y p : Nat} {e : mjE} (h : mj_okE y p e = true) : decode (mj_mb y) p = .ok (e.1, e.2.1) := by
  unfold mj_okE at h
  exact of_decide_eq_true ((Bool.and_eq_true _ _).mp h).1
theorem mj_E2 {y p : Nat} {e : mjE} {i : Instr} (h : mj_okE y p e = true) (hi : e.1 = i) (h1 : ∀ a b c d, i ≠ .tableswitch a b c d) (h2 : ∀ a b, i ≠ .lookupswitch a b) : e.2.1 = mj_len i := by
  subst hi
  unfold mj_okE at h
  have h := ((Bool.and_eq_true _ _).mp h).2
  cases hh : e.1 <;> rw [hh] at h <;> first
    | exact absurd hh (h1 _ _ _ _)
    | exact absurd hh (h2 _ _)
    | exact Nat.eq_of_beq_eq_true ((Bool.and_eq_true _ _).mp h).1
def mj_k3 : Instr → Option Int32
  | .iconst j => some (Int32.ofInt j)
  | .bipush j => some (Int8.ofInt j).toInt32
  | .sipush j => some (Int16.ofInt j).toInt32
  | _ => none
theorem mj_E3 {y p n k : Nat} {k0 v : Int32} {i : Instr} (h : mj_okE y p (i, n, k0, k) = true) (hi : mj_k3 i = some v) : v = k0 := by
  cases i <;> simp only [mj_k3, reduceCtorEq] at hi <;> simp only [mj_okE, Bool.and_eq_true, decide_eq_true_eq] at h <;> cases hi <;> exact h.2.2
theorem mj_E3l {y p n k : Nat} {k0 : Int32} {i : Fin 2} (h : mj_okE y p (.lconst i, n, k0, k) = true) : i.val = k := by
  simp only [mj_okE, Bool.and_eq_true, decide_eq_true_eq] at h
  exact Nat.eq_of_beq_eq_true h.2.2
theorem mj_E3c {y p n k : Nat} {k0 : Int32} {ix : Nat} (h : mj_okE y p (.ldc ix, n, k0, k) = true ∨ mj_okE y p (.ldc_w ix, n, k0, k) = true) : Cond.constant (mj_cn (mj_mc y)) ix k0 ∈ lw_tbl := by
  have key : ix ≤ 999 ∧ mj_kr (1000 * mj_mc y + ix) = some k0 := by
    rcases h with h | h <;> simp only [mj_okE, Bool.and_eq_true, decide_eq_true_eq] at h <;> exact ⟨Nat.le_of_ble_eq_true h.2.2.1, h.2.2.2⟩
  have r := mj_kr_ok key.2
  rw [(mj_dm key.1).1, (mj_dm key.1).2] at r
  exact r
theorem mj_E3d {y p n k : Nat} {k0 : Int32} {ix : Nat} (h : mj_okE y p (.ldc2_w ix, n, k0, k) = true) {v : Int64} (hv : mj_lr (1000 * mj_mc y + ix) = some v) : Cond.constantLong (mj_cn (mj_mc y)) ix v ∈ lw_tbl := by
  simp only [mj_okE, Bool.and_eq_true] at h
  have hx := Nat.le_of_ble_eq_true h.2.2
  have r := mj_lr_ok hv
  rw [(mj_dm hx).1, (mj_dm hx).2] at r
  exact r
def mj_loc : Instr → Option Nat
  | .iload_n k => some k.val
  | .lload_n k => some k.val
  | .aload_n k => some k.val
  | .iload k => some k
  | .lload k => some k
  | _ => none
theorem mj_E4 {y p n k j : Nat} {k0 : Int32} {i : Instr} (h : mj_okE y p (i, n, k0, k) = true) (hi : mj_loc i = some j) : j = k := by
  cases i <;> simp only [mj_loc, reduceCtorEq] at hi <;> simp only [mj_okE, Bool.and_eq_true] at h <;> cases hi <;> exact Nat.eq_of_beq_eq_true h.2.2
def mj_sl1 : Instr → Option Nat
  | .istore_n k => some k.val
  | .astore_n k => some k.val
  | .istore k => some k
  | _ => none
theorem mj_E5 {y p n k j : Nat} {k0 : Int32} {i : Instr} (h : mj_okE y p (i, n, k0, k) = true) (hi : mj_sl1 i = some j) : j = k ∧ k < mj_ml y := by
  cases i <;> simp only [mj_sl1, reduceCtorEq] at hi <;> simp only [mj_okE, Bool.and_eq_true] at h <;> cases hi <;> (have e := Nat.eq_of_beq_eq_true h.2.2.1; have g := Nat.le_of_ble_eq_true h.2.2.2; exact ⟨e, by omega⟩)
def mj_sl2 : Instr → Option Nat
  | .lstore_n k => some k.val
  | .lstore k => some k
  | _ => none
theorem mj_E6 {y p n k j : Nat} {k0 : Int32} {i : Instr} (h : mj_okE y p (i, n, k0, k) = true) (hi : mj_sl2 i = some j) : j = k ∧ k + 1 < mj_ml y := by
  cases i <;> simp only [mj_sl2, reduceCtorEq] at hi <;> simp only [mj_okE, Bool.and_eq_true] at h <;> cases hi <;> (have e := Nat.eq_of_beq_eq_true h.2.2.1; have g := Nat.le_of_ble_eq_true h.2.2.2; exact ⟨e, by omega⟩)
theorem mj_E7 {y p n k i : Nat} {k0 : Int32} {j : Int} (h : mj_okE y p (.iinc i j, n, k0, k) = true) : i = k ∧ k < mj_ml y ∧ Int32.ofInt j = k0 := by
  simp only [mj_okE, Bool.and_eq_true, decide_eq_true_eq] at h
  have e := Nat.eq_of_beq_eq_true h.2.2.1.1
  have g := Nat.le_of_ble_eq_true h.2.2.1.2
  exact ⟨e, by omega, h.2.2.2⟩
def mj_jmp : Instr → Option Int
  | .goto o => some o
  | .ifCond _ o => some o
  | .if_icmp _ o => some o
  | _ => none
theorem mj_E8 {y p n k : Nat} {k0 : Int32} {i : Instr} {o : Int} (h : mj_okE y p (i, n, k0, k) = true) (hi : mj_jmp i = some o) : (p : Int) + o = (k : Int) := by
  cases i <;> simp only [mj_jmp, reduceCtorEq] at hi <;> simp only [mj_okE, Bool.and_eq_true, decide_eq_true_eq] at h <;> cases hi <;> exact h.2.2
theorem mj_i1_of {s : List Value} {f : Int32 → List Value → Option mjS} {t : mjS} (h : mj_i1 s f = some t) : ∃ x r, s = .int x :: r ∧ f x r = some t := by
  unfold mj_i1 at h
  split at h
  · exact ⟨_, _, rfl, h⟩
  · cases h
theorem mj_i2_of {s : List Value} {f : Int32 → Int32 → List Value → Option mjS} {t : mjS} (h : mj_i2 s f = some t) : ∃ x z r, s = .int z :: .int x :: r ∧ f x z r = some t := by
  unfold mj_i2 at h
  split at h
  · exact ⟨_, _, _, rfl, h⟩
  · cases h
theorem mj_l1_of {s : List Value} {f : Int64 → List Value → Option mjS} {t : mjS} (h : mj_l1 s f = some t) : ∃ x r, s = .long x :: r ∧ f x r = some t := by
  unfold mj_l1 at h
  split at h
  · exact ⟨_, _, rfl, h⟩
  · cases h
theorem mj_l2_of {s : List Value} {f : Int64 → Int64 → List Value → Option mjS} {t : mjS} (h : mj_l2 s f = some t) : ∃ x z r, s = .long z :: .long x :: r ∧ f x z r = some t := by
  unfold mj_l2 at h
  split at h
  · exact ⟨_, _, _, rfl, h⟩
  · cases h
theorem mj_li_of {s : List Value} {f : Int64 → Int32 → List Value → Option mjS} {t : mjS} (h : mj_li s f = some t) : ∃ x z r, s = .int z :: .long x :: r ∧ f x z r = some t := by
  unfold mj_li at h
  split at h
  · exact ⟨_, _, _, rfl, h⟩
  · cases h
theorem mj_a1_of {s : List Value} {f : Nat → List Value → Option mjS} {t : mjS} (h : mj_a1 s f = some t) : ∃ x r, s = .ref x :: r ∧ f x r = some t := by
  unfold mj_a1 at h
  split at h
  · exact ⟨_, _, rfl, h⟩
  · cases h
theorem mj_ai_of {s : List Value} {f : Nat → Int32 → List Value → Option mjS} {t : mjS} (h : mj_ai s f = some t) : ∃ a i r, s = .int i :: .ref a :: r ∧ f a i r = some t := by
  unfold mj_ai at h
  split at h
  · exact ⟨_, _, _, rfl, h⟩
  · cases h
theorem mj_aii_of {s : List Value} {f : Nat → Int32 → Int32 → List Value → Option mjS} {t : mjS} (h : mj_aii s f = some t) : ∃ a i x r, s = .int x :: .int i :: .ref a :: r ∧ f a i x r = some t := by
  unfold mj_aii at h
  split at h
  · exact ⟨_, _, _, _, rfl, h⟩
  · cases h
theorem mj_ail_of {s : List Value} {f : Nat → Int32 → Int64 → List Value → Option mjS} {t : mjS} (h : mj_ail s f = some t) : ∃ a i x r, s = .long x :: .int i :: .ref a :: r ∧ f a i x r = some t := by
  unfold mj_ail at h
  split at h
  · exact ⟨_, _, _, _, rfl, h⟩
  · cases h
theorem mj_av_of {s : List Value} {f : Nat → Value → List Value → Option mjS} {t : mjS} (h : mj_av s f = some t) : ∃ a v r, s = v :: .ref a :: r ∧ f a v r = some t := by
  unfold mj_av at h
  split at h
  · exact ⟨_, _, _, rfl, h⟩
  · cases h
theorem mj_ldi_of {l : List (Option Value)} {i : Nat} {f : Int32 → Option mjS} {t : mjS} (h : mj_ldi l i f = some t) : ∃ x, mj_at l i = some (.int x) ∧ f x = some t := by
  unfold mj_ldi at h
  split at h
  · exact ⟨_, by assumption, h⟩
  · cases h
theorem mj_ldl_of {l : List (Option Value)} {i : Nat} {f : Int64 → Option mjS} {t : mjS} (h : mj_ldl l i f = some t) : ∃ x, mj_at l i = some (.long x) ∧ f x = some t := by
  unfold mj_ldl at h
  split at h
  · exact ⟨_, by assumption, h⟩
  · cases h
theorem mj_lda_of {l : List (Option Value)} {i : Nat} {f : Nat → Option mjS} {t : mjS} (h : mj_lda l i f = some t) : ∃ x, mj_at l i = some (.ref x) ∧ f x = some t := by
  unfold mj_lda at h
  split at h
  · exact ⟨_, by assumption, h⟩
  · cases h
theorem mj_d1_of {s : List Value} {f : Value → List Value → Option mjS} {t : mjS} (h : mj_d1 s f = some t) : ∃ v r, s = v :: r ∧ v.category = 1 ∧ f v r = some t := by
  unfold mj_d1 at h
  split at h
  · rename_i v r
    cases hv : Nat.beq v.category 1 with
    | false => rw [hv] at h; cases h
    | true => rw [hv] at h; exact ⟨_, _, rfl, Nat.eq_of_beq_eq_true hv, h⟩
  · cases h
section
variable {P : Program} {l : Launch} {ev : Env} {R : Room} {s : State} {m : MethodId} {args : Array Value} {below : List Frame} {meth : Method} {c : Code} {cells slots : Nat} {Q : State → Prop} {D : va_G} {cI cL : ClassId} {b base y p : Nat} {lo : List (Option Value)} {st : List Value} {w : mjW} {t : mjS}

theorem mj_s_iadd {n k : Nat} {k0 : Int32} (C : mj_C P m c meth s args y base) (hE : mj_okE y p (.iadd, n, k0, k) = true) (h : mj_sf y (.iadd, n, k0, k) p lo st w = some t) : mj_Wto P l ev R s m args below meth c cells slots Q D cI cL b base y p lo st w t := by
  have hd := mj_E1 hE
  obtain rfl : n = 1 := mj_E2 hE rfl (by intros; exact nofun) (by intros; exact nofun)
  obtain ⟨x, z, r, rfl, h2⟩ := mj_i2_of h
  replace h := h2
  cases h
  exact ⟨rfl, fun H locs ls I kk => lv_iadd C.1 C.2.1 hd (kk H locs ls I)⟩
theorem mj_s_isub {n k : Nat} {k0 : Int32} (C : mj_C P m c meth s args y base) (hE : mj_okE y p (.isub, n, k0, k) = true) (h : mj_sf y (.isub, n, k0, k) p lo st w = some t) : mj_Wto P l ev R s m args below meth c cells slots Q D cI cL b base y p lo st w t := by
  have hd := mj_E1 hE
  obtain rfl : n = 1 := mj_E2 hE rfl (by intros; exact nofun) (by intros; exact nofun)
  obtain ⟨x, z, r, rfl, h2⟩ := mj_i2_of h
  replace h := h2
  cases h
  exact ⟨rfl, fun H locs ls I kk => lv_isub C.1 C.2.1 hd (kk H locs ls I)⟩
theorem mj_s_imul {n k : Nat} {k0 : Int32} (C : mj_C P m c meth s args y base) (hE : mj_okE y p (.imul, n, k0, k) = true) (h : mj_sf y (.imul, n, k0, k) p lo st w = some t) : mj_Wto P l ev R s m args below meth c cells slots Q D cI cL b base y p lo st w t := by
  have hd := mj_E1 hE
  obtain rfl : n = 1 := mj_E2 hE rfl (by intros; exact nofun) (by intros; exact nofun)
  obtain ⟨x, z, r, rfl, h2⟩ := mj_i2_of h
  replace h := h2
  cases h
  exact ⟨rfl, fun H locs ls I kk => lv_imul C.1 C.2.1 hd (kk H locs ls I)⟩
theorem mj_s_iand {n k : Nat} {k0 : Int32} (C : mj_C P m c meth s args y base) (hE : mj_okE y p (.iand, n, k0, k) = true) (h : mj_sf y (.iand, n, k0, k) p lo st w = some t) : mj_Wto P l ev R s m args below meth c cells slots Q D cI cL b base y p lo st w t := by
  have hd := mj_E1 hE
  obtain rfl : n = 1 := mj_E2 hE rfl (by intros; exact nofun) (by intros; exact nofun)
  obtain ⟨x, z, r, rfl, h2⟩ := mj_i2_of h
  replace h := h2
  cases h
  exact ⟨rfl, fun H locs ls I kk => lv_iand C.1 C.2.1 hd (kk H locs ls I)⟩
theorem mj_s_ior {n k : Nat} {k0 : Int32} (C : mj_C P m c meth s args y base) (hE : mj_okE y p (.ior, n, k0, k) = true) (h : mj_sf y (.ior, n, k0, k) p lo st w = some t) : mj_Wto P l ev R s m args below meth c cells slots Q D cI cL b base y p lo st w t := by
  have hd := mj_E1 hE
  obtain rfl : n = 1 := mj_E2 hE rfl (by intros; exact nofun) (by intros; exact nofun)
  obtain ⟨x, z, r, rfl, h2⟩ := mj_i2_of h
  replace h := h2
  cases h
  exact ⟨rfl, fun H locs ls I kk => lv_ior C.1 C.2.1 hd (kk H locs ls I)⟩
theorem mj_s_ixor {n k : Nat} {k0 : Int32} (C : mj_C P m c meth s args y base) (hE : mj_okE y p (.ixor, n, k0, k) = true) (h : mj_sf y (.ixor, n, k0, k) p lo st w = some t) : mj_Wto P l ev R s m args below meth c cells slots Q D cI cL b base y p lo st w t := by
  have hd := mj_E1 hE
  obtain rfl : n = 1 := mj_E2 hE rfl (by intros; exact nofun) (by intros; exact nofun)
  obtain ⟨x, z, r, rfl, h2⟩ := mj_i2_of h
  replace h := h2
  cases h
  exact ⟨rfl, fun H locs ls I kk => lv_ixor C.1 C.2.1 hd (kk H locs ls I)⟩
theorem mj_s_ishl {n k : Nat} {k0 : Int32} (C : mj_C P m c meth s args y base) (hE : mj_okE y p (.ishl, n, k0, k) = true) (h : mj_sf y (.ishl, n, k0, k) p lo st w = some t) : mj_Wto P l ev R s m args below meth c cells slots Q D cI cL b base y p lo st w t := by
  have hd := mj_E1 hE
  obtain rfl : n = 1 := mj_E2 hE rfl (by intros; exact nofun) (by intros; exact nofun)
  obtain ⟨x, z, r, rfl, h2⟩ := mj_i2_of h
  replace h := h2
  cases h
  exact ⟨rfl, fun H locs ls I kk => lv_ishl C.1 C.2.1 hd (kk H locs ls I)⟩
theorem mj_s_ishr {n k : Nat} {k0 : Int32} (C : mj_C P m c meth s args y base) (hE : mj_okE y p (.ishr, n, k0, k) = true) (h : mj_sf y (.ishr, n, k0, k) p lo st w = some t) : mj_Wto P l ev R s m args below meth c cells slots Q D cI cL b base y p lo st w t := by
  have hd := mj_E1 hE
  obtain rfl : n = 1 := mj_E2 hE rfl (by intros; exact nofun) (by intros; exact nofun)
  obtain ⟨x, z, r, rfl, h2⟩ := mj_i2_of h
  replace h := h2
  cases h
  exact ⟨rfl, fun H locs ls I kk => lv_ishr C.1 C.2.1 hd (kk H locs ls I)⟩
theorem mj_s_ladd {n k : Nat} {k0 : Int32} (C : mj_C P m c meth s args y base) (hE : mj_okE y p (.ladd, n, k0, k) = true) (h : mj_sf y (.ladd, n, k0, k) p lo st w = some t) : mj_Wto P l ev R s m args below meth c cells slots Q D cI cL b base y p lo st w t := by
  have hd := mj_E1 hE
  obtain rfl : n = 1 := mj_E2 hE rfl (by intros; exact nofun) (by intros; exact nofun)
  obtain ⟨x, z, r, rfl, h2⟩ := mj_l2_of h
  replace h := h2
  cases h
  exact ⟨rfl, fun H locs ls I kk => lv_ladd C.1 C.2.1 hd (kk H locs ls I)⟩
theorem mj_s_lsub {n k : Nat} {k0 : Int32} (C : mj_C P m c meth s args y base) (hE : mj_okE y p (.lsub, n, k0, k) = true) (h : mj_sf y (.lsub, n, k0, k) p lo st w = some t) : mj_Wto P l ev R s m args below meth c cells slots Q D cI cL b base y p lo st w t := by
  have hd := mj_E1 hE
  obtain rfl : n = 1 := mj_E2 hE rfl (by intros; exact nofun) (by intros; exact nofun)
  obtain ⟨x, z, r, rfl, h2⟩ := mj_l2_of h
  replace h := h2
  cases h
  exact ⟨rfl, fun H locs ls I kk => lv_lsub C.1 C.2.1 hd (kk H locs ls I)⟩
theorem mj_s_lmul {n k : Nat} {k0 : Int32} (C : mj_C P m c meth s args y base) (hE : mj_okE y p (.lmul, n, k0, k) = true) (h : mj_sf y (.lmul, n, k0, k) p lo st w = some t) : mj_Wto P l ev R s m args below meth c cells slots Q D cI cL b base y p lo st w t := by
  have hd := mj_E1 hE
  obtain rfl : n = 1 := mj_E2 hE rfl (by intros; exact nofun) (by intros; exact nofun)
  obtain ⟨x, z, r, rfl, h2⟩ := mj_l2_of h
  replace h := h2
  cases h
  exact ⟨rfl, fun H locs ls I kk => lv_lmul C.1 C.2.1 hd (kk H locs ls I)⟩
theorem mj_s_land {n k : Nat} {k0 : Int32} (C : mj_C P m c meth s args y base) (hE : mj_okE y p (.land, n, k0, k) = true) (h : mj_sf y (.land, n, k0, k) p lo st w = some t) : mj_Wto P l ev R s m args below meth c cells slots Q D cI cL b base y p lo st w t := by
  have hd := mj_E1 hE
  obtain rfl : n = 1 := mj_E2 hE rfl (by intros; exact nofun) (by intros; exact nofun)
  obtain ⟨x, z, r, rfl, h2⟩ := mj_l2_of h
  replace h := h2
  cases h
  exact ⟨rfl, fun H locs ls I kk => lv_land C.1 C.2.1 hd (kk H locs ls I)⟩
theorem mj_s_lor {n k : Nat} {k0 : Int32} (C : mj_C P m c meth s args y base) (hE : mj_okE y p (.lor, n, k0, k) = true) (h : mj_sf y (.lor, n, k0, k) p lo st w = some t) : mj_Wto P l ev R s m args below meth c cells slots Q D cI cL b base y p lo st w t := by
  have hd := mj_E1 hE
  obtain rfl : n = 1 := mj_E2 hE rfl (by intros; exact nofun) (by intros; exact nofun)
  obtain ⟨x, z, r, rfl, h2⟩ := mj_l2_of h
  replace h := h2
  cases h
  exact ⟨rfl, fun H locs ls I kk => lv_lor C.1 C.2.1 hd (kk H locs ls I)⟩
theorem mj_s_lxor {n k : Nat} {k0 : Int32} (C : mj_C P m c meth s args y base) (hE : mj_okE y p (.lxor, n, k0, k) = true) (h : mj_sf y (.lxor, n, k0, k) p lo st w = some t) : mj_Wto P l ev R s m args below meth c cells slots Q D cI cL b base y p lo st w t := by
  have hd := mj_E1 hE
  obtain rfl : n = 1 := mj_E2 hE rfl (by intros; exact nofun) (by intros; exact nofun)
  obtain ⟨x, z, r, rfl, h2⟩ := mj_l2_of h
  replace h := h2
  cases h
  exact ⟨rfl, fun H locs ls I kk => lv_lxor C.1 C.2.1 hd (kk H locs ls I)⟩
theorem mj_s_lcmp {n k : Nat} {k0 : Int32} (C : mj_C P m c meth s args y base) (hE : mj_okE y p (.lcmp, n, k0, k) = true) (h : mj_sf y (.lcmp, n, k0, k) p lo st w = some t) : mj_Wto P l ev R s m args below meth c cells slots Q D cI cL b base y p lo st w t := by
  have hd := mj_E1 hE
  obtain rfl : n = 1 := mj_E2 hE rfl (by intros; exact nofun) (by intros; exact nofun)
  obtain ⟨x, z, r, rfl, h2⟩ := mj_l2_of h
  replace h := h2
  cases h
  exact ⟨rfl, fun H locs ls I kk => W.lcmp C.1 C.2.1 hd (kk H locs ls I)⟩
theorem mj_s_idiv {n k : Nat} {k0 : Int32} (C : mj_C P m c meth s args y base) (hE : mj_okE y p (.idiv, n, k0, k) = true) (h : mj_sf y (.idiv, n, k0, k) p lo st w = some t) : mj_Wto P l ev R s m args below meth c cells slots Q D cI cL b base y p lo st w t := by
  have hd := mj_E1 hE
  obtain rfl : n = 1 := mj_E2 hE rfl (by intros; exact nofun) (by intros; exact nofun)
  obtain ⟨x, z, r, rfl, h2⟩ := mj_i2_of h
  replace h := h2
  by_cases hz : z = 0
  · rw [if_pos hz] at h; cases h
  rw [if_neg hz] at h
  cases h
  exact ⟨rfl, fun H locs ls I kk => lv_idiv C.1 C.2.1 hd hz (kk H locs ls I)⟩
theorem mj_s_irem {n k : Nat} {k0 : Int32} (C : mj_C P m c meth s args y base) (hE : mj_okE y p (.irem, n, k0, k) = true) (h : mj_sf y (.irem, n, k0, k) p lo st w = some t) : mj_Wto P l ev R s m args below meth c cells slots Q D cI cL b base y p lo st w t := by
  have hd := mj_E1 hE
  obtain rfl : n = 1 := mj_E2 hE rfl (by intros; exact nofun) (by intros; exact nofun)
  obtain ⟨x, z, r, rfl, h2⟩ := mj_i2_of h
  replace h := h2
  by_cases hz : z = 0
  · rw [if_pos hz] at h; cases h
  rw [if_neg hz] at h
  cases h
  exact ⟨rfl, fun H locs ls I kk => lv_irem C.1 C.2.1 hd hz (kk H locs ls I)⟩
theorem mj_s_ldiv {n k : Nat} {k0 : Int32} (C : mj_C P m c meth s args y base) (hE : mj_okE y p (.ldiv, n, k0, k) = true) (h : mj_sf y (.ldiv, n, k0, k) p lo st w = some t) : mj_Wto P l ev R s m args below meth c cells slots Q D cI cL b base y p lo st w t := by
  have hd := mj_E1 hE
  obtain rfl : n = 1 := mj_E2 hE rfl (by intros; exact nofun) (by intros; exact nofun)
  obtain ⟨x, z, r, rfl, h2⟩ := mj_l2_of h
  replace h := h2
  by_cases hz : z = 0
  · rw [if_pos hz] at h; cases h
  rw [if_neg hz] at h
  cases h
  exact ⟨rfl, fun H locs ls I kk => lv_ldiv C.1 C.2.1 hd hz (kk H locs ls I)⟩
theorem mj_s_lrem {n k : Nat} {k0 : Int32} (C : mj_C P m c meth s args y base) (hE : mj_okE y p (.lrem, n, k0, k) = true) (h : mj_sf y (.lrem, n, k0, k) p lo st w = some t) : mj_Wto P l ev R s m args below meth c cells slots Q D cI cL b base y p lo st w t := by
  have hd := mj_E1 hE
  obtain rfl : n = 1 := mj_E2 hE rfl (by intros; exact nofun) (by intros; exact nofun)
  obtain ⟨x, z, r, rfl, h2⟩ := mj_l2_of h
  replace h := h2
  by_cases hz : z = 0
  · rw [if_pos hz] at h; cases h
  rw [if_neg hz] at h
  cases h
  exact ⟨rfl, fun H locs ls I kk => lv_lrem C.1 C.2.1 hd hz (kk H locs ls I)⟩
theorem mj_s_ineg {n k : Nat} {k0 : Int32} (C : mj_C P m c meth s args y base) (hE : mj_okE y p (.ineg, n, k0, k) = true) (h : mj_sf y (.ineg, n, k0, k) p lo st w = some t) : mj_Wto P l ev R s m args below meth c cells slots Q D cI cL b base y p lo st w t := by
  have hd := mj_E1 hE
  obtain rfl : n = 1 := mj_E2 hE rfl (by intros; exact nofun) (by intros; exact nofun)
  obtain ⟨x, r, rfl, h2⟩ := mj_i1_of h
  replace h := h2
  cases h
  exact ⟨rfl, fun H locs ls I kk => lv_ineg C.1 C.2.1 hd (kk H locs ls I)⟩
theorem mj_s_i2l {n k : Nat} {k0 : Int32} (C : mj_C P m c meth s args y base) (hE : mj_okE y p (.i2l, n, k0, k) = true) (h : mj_sf y (.i2l, n, k0, k) p lo st w = some t) : mj_Wto P l ev R s m args below meth c cells slots Q D cI cL b base y p lo st w t := by
  have hd := mj_E1 hE
  obtain rfl : n = 1 := mj_E2 hE rfl (by intros; exact nofun) (by intros; exact nofun)
  obtain ⟨x, r, rfl, h2⟩ := mj_i1_of h
  replace h := h2
  cases h
  exact ⟨rfl, fun H locs ls I kk => lv_i2l C.1 C.2.1 hd rfl (kk H locs ls I)⟩
theorem mj_s_l2i {n k : Nat} {k0 : Int32} (C : mj_C P m c meth s args y base) (hE : mj_okE y p (.l2i, n, k0, k) = true) (h : mj_sf y (.l2i, n, k0, k) p lo st w = some t) : mj_Wto P l ev R s m args below meth c cells slots Q D cI cL b base y p lo st w t := by
  have hd := mj_E1 hE
  obtain rfl : n = 1 := mj_E2 hE rfl (by intros; exact nofun) (by intros; exact nofun)
  obtain ⟨x, r, rfl, h2⟩ := mj_l1_of h
  replace h := h2
  cases h
  exact ⟨rfl, fun H locs ls I kk => lv_l2i C.1 C.2.1 hd rfl (kk H locs ls I)⟩
theorem mj_s_iushr {n k : Nat} {k0 : Int32} (C : mj_C P m c meth s args y base) (hE : mj_okE y p (.iushr, n, k0, k) = true) (h : mj_sf y (.iushr, n, k0, k) p lo st w = some t) : mj_Wto P l ev R s m args below meth c cells slots Q D cI cL b base y p lo st w t := by
  have hd := mj_E1 hE
  obtain rfl : n = 1 := mj_E2 hE rfl (by intros; exact nofun) (by intros; exact nofun)
  obtain ⟨x, z, r, rfl, h2⟩ := mj_i2_of h
  replace h := h2
  cases h
  exact ⟨rfl, fun H locs ls I kk => lv_iushr C.1 C.2.1 hd rfl (kk H locs ls I)⟩
theorem mj_s_lshl {n k : Nat} {k0 : Int32} (C : mj_C P m c meth s args y base) (hE : mj_okE y p (.lshl, n, k0, k) = true) (h : mj_sf y (.lshl, n, k0, k) p lo st w = some t) : mj_Wto P l ev R s m args below meth c cells slots Q D cI cL b base y p lo st w t := by
  have hd := mj_E1 hE
  obtain rfl : n = 1 := mj_E2 hE rfl (by intros; exact nofun) (by intros; exact nofun)
  obtain ⟨x, z, r, rfl, h2⟩ := mj_li_of h
  replace h := h2
  cases h
  exact ⟨rfl, fun H locs ls I kk => lv_lshl C.1 C.2.1 hd rfl (kk H locs ls I)⟩
theorem mj_s_lushr {n k : Nat} {k0 : Int32} (C : mj_C P m c meth s args y base) (hE : mj_okE y p (.lushr, n, k0, k) = true) (h : mj_sf y (.lushr, n, k0, k) p lo st w = some t) : mj_Wto P l ev R s m args below meth c cells slots Q D cI cL b base y p lo st w t := by
  have hd := mj_E1 hE
  obtain rfl : n = 1 := mj_E2 hE rfl (by intros; exact nofun) (by intros; exact nofun)
  obtain ⟨x, z, r, rfl, h2⟩ := mj_li_of h
  replace h := h2
  cases h
  exact ⟨rfl, fun H locs ls I kk => lv_lushr C.1 C.2.1 hd rfl (kk H locs ls I)⟩
theorem mj_s_iconst {n k : Nat} {k0 : Int32} {i : Int} (C : mj_C P m c meth s args y base) (hE : mj_okE y p (.iconst i, n, k0, k) = true) (h : mj_sf y (.iconst i, n, k0, k) p lo st w = some t) : mj_Wto P l ev R s m args below meth c cells slots Q D cI cL b base y p lo st w t := by
  have hd := mj_E1 hE
  obtain rfl : n = 1 := mj_E2 hE rfl (by intros; exact nofun) (by intros; exact nofun)
  have hv := mj_E3 hE rfl
  cases h
  exact ⟨rfl, fun H locs ls I kk => lv_iconst C.1 C.2.1 hd hv (kk H locs ls I)⟩
theorem mj_s_bipush {n k : Nat} {k0 : Int32} {i : Int} (C : mj_C P m c meth s args y base) (hE : mj_okE y p (.bipush i, n, k0, k) = true) (h : mj_sf y (.bipush i, n, k0, k) p lo st w = some t) : mj_Wto P l ev R s m args below meth c cells slots Q D cI cL b base y p lo st w t := by
  have hd := mj_E1 hE
  obtain rfl : n = 2 := mj_E2 hE rfl (by intros; exact nofun) (by intros; exact nofun)
  have hv := mj_E3 hE rfl
  cases h
  exact ⟨rfl, fun H locs ls I kk => lv_bipush C.1 C.2.1 hd hv (kk H locs ls I)⟩
theorem mj_s_sipush {n k : Nat} {k0 : Int32} {i : Int} (C : mj_C P m c meth s args y base) (hE : mj_okE y p (.sipush i, n, k0, k) = true) (h : mj_sf y (.sipush i, n, k0, k) p lo st w = some t) : mj_Wto P l ev R s m args below meth c cells slots Q D cI cL b base y p lo st w t := by
  have hd := mj_E1 hE
  obtain rfl : n = 3 := mj_E2 hE rfl (by intros; exact nofun) (by intros; exact nofun)
  have hv := mj_E3 hE rfl
  cases h
  exact ⟨rfl, fun H locs ls I kk => lv_sipush C.1 C.2.1 hd hv (kk H locs ls I)⟩
theorem mj_s_lconst {n k : Nat} {k0 : Int32} {i : Fin 2} (C : mj_C P m c meth s args y base) (hE : mj_okE y p (.lconst i, n, k0, k) = true) (h : mj_sf y (.lconst i, n, k0, k) p lo st w = some t) : mj_Wto P l ev R s m args below meth c cells slots Q D cI cL b base y p lo st w t := by
  have hd := mj_E1 hE
  obtain rfl : n = 1 := mj_E2 hE rfl (by intros; exact nofun) (by intros; exact nofun)
  have hv := mj_E3l hE
  cases h
  exact ⟨rfl, fun H locs ls I kk => lv_lconst C.1 C.2.1 hd (by rw [hv]) (kk H locs ls I)⟩
theorem mj_s_ldc {n k : Nat} {k0 : Int32} {i : Nat} (C : mj_C P m c meth s args y base) (hE : mj_okE y p (.ldc i, n, k0, k) = true) (h : mj_sf y (.ldc i, n, k0, k) p lo st w = some t) : mj_Wto P l ev R s m args below meth c cells slots Q D cI cL b base y p lo st w t := by
  have hd := mj_E1 hE
  obtain rfl : n = 2 := mj_E2 hE rfl (by intros; exact nofun) (by intros; exact nofun)
  have hv := mj_E3c (by first | exact Or.inl hE | exact Or.inr hE)
  cases h
  exact ⟨rfl, fun H locs ls I kk => lv_ldc C.1 C.2.1 C.own (C.wd hv) hd (kk H locs ls I)⟩
theorem mj_s_ldc_w {n k : Nat} {k0 : Int32} {i : Nat} (C : mj_C P m c meth s args y base) (hE : mj_okE y p (.ldc_w i, n, k0, k) = true) (h : mj_sf y (.ldc_w i, n, k0, k) p lo st w = some t) : mj_Wto P l ev R s m args below meth c cells slots Q D cI cL b base y p lo st w t := by
  have hd := mj_E1 hE
  obtain rfl : n = 3 := mj_E2 hE rfl (by intros; exact nofun) (by intros; exact nofun)
  have hv := mj_E3c (by first | exact Or.inl hE | exact Or.inr hE)
  cases h
  exact ⟨rfl, fun H locs ls I kk => lv_ldcw C.1 C.2.1 C.own (C.wd hv) hd (kk H locs ls I)⟩
theorem mj_s_ldc2_w {n k : Nat} {k0 : Int32} {i : Nat} (C : mj_C P m c meth s args y base) (hE : mj_okE y p (.ldc2_w i, n, k0, k) = true) (h : mj_sf y (.ldc2_w i, n, k0, k) p lo st w = some t) : mj_Wto P l ev R s m args below meth c cells slots Q D cI cL b base y p lo st w t := by
  have hd := mj_E1 hE
  obtain rfl : n = 3 := mj_E2 hE rfl (by intros; exact nofun) (by intros; exact nofun)
  have h : (match mj_lr (1000 * mj_mc y + i) with
    | some v => some (p + 3, lo, .long v :: st, w)
    | none => none) = some t := h
  split at h
  · rename_i v hv
    cases h
    exact ⟨rfl, fun H locs ls I kk => lv_ldc2 C.1 C.2.1 C.own (C.wd (mj_E3d hE hv)) hd (kk H locs ls I)⟩
  · cases h
theorem mj_s_iload_n {n k : Nat} {k0 : Int32} {i : Fin 4} (C : mj_C P m c meth s args y base) (hE : mj_okE y p (.iload_n i, n, k0, k) = true) (h : mj_sf y (.iload_n i, n, k0, k) p lo st w = some t) : mj_Wto P l ev R s m args below meth c cells slots Q D cI cL b base y p lo st w t := by
  have hd := mj_E1 hE
  obtain rfl : n = 1 := mj_E2 hE rfl (by intros; exact nofun) (by intros; exact nofun)
  have hk : i.val = k := mj_E4 hE rfl
  obtain ⟨x, hx, h⟩ := mj_ldi_of h
  cases h
  exact ⟨rfl, fun H locs ls I kk => lv_iload_n C.1 C.2.1 hd hk (I.2.2.2.2 _ _ hx) (kk H locs ls I)⟩
theorem mj_s_lload_n {n k : Nat} {k0 : Int32} {i : Fin 4} (C : mj_C P m c meth s args y base) (hE : mj_okE y p (.lload_n i, n, k0, k) = true) (h : mj_sf y (.lload_n i, n, k0, k) p lo st w = some t) : mj_Wto P l ev R s m args below meth c cells slots Q D cI cL b base y p lo st w t := by
  have hd := mj_E1 hE
  obtain rfl : n = 1 := mj_E2 hE rfl (by intros; exact nofun) (by intros; exact nofun)
  have hk : i.val = k := mj_E4 hE rfl
  obtain ⟨x, hx, h⟩ := mj_ldl_of h
  cases h
  exact ⟨rfl, fun H locs ls I kk => lv_lload_n C.1 C.2.1 hd hk (I.2.2.2.2 _ _ hx) (kk H locs ls I)⟩
theorem mj_s_aload_n {n k : Nat} {k0 : Int32} {i : Fin 4} (C : mj_C P m c meth s args y base) (hE : mj_okE y p (.aload_n i, n, k0, k) = true) (h : mj_sf y (.aload_n i, n, k0, k) p lo st w = some t) : mj_Wto P l ev R s m args below meth c cells slots Q D cI cL b base y p lo st w t := by
  have hd := mj_E1 hE
  obtain rfl : n = 1 := mj_E2 hE rfl (by intros; exact nofun) (by intros; exact nofun)
  have hk : i.val = k := mj_E4 hE rfl
  obtain ⟨x, hx, h⟩ := mj_lda_of h
  cases h
  exact ⟨rfl, fun H locs ls I kk => lv_aload_n C.1 C.2.1 hd hk (I.2.2.2.2 _ _ hx) (kk H locs ls I)⟩
theorem mj_s_iload {n k : Nat} {k0 : Int32} {i : Nat} (C : mj_C P m c meth s args y base) (hE : mj_okE y p (.iload i, n, k0, k) = true) (h : mj_sf y (.iload i, n, k0, k) p lo st w = some t) : mj_Wto P l ev R s m args below meth c cells slots Q D cI cL b base y p lo st w t := by
  have hd := mj_E1 hE
  obtain rfl : n = 2 := mj_E2 hE rfl (by intros; exact nofun) (by intros; exact nofun)
  have hk : i = k := mj_E4 hE rfl
  obtain ⟨x, hx, h⟩ := mj_ldi_of h
  cases h
  exact ⟨rfl, fun H locs ls I kk => lv_iload C.1 C.2.1 hd (by rw [hk]; exact I.2.2.2.2 _ _ hx) (kk H locs ls I)⟩
theorem mj_s_lload {n k : Nat} {k0 : Int32} {i : Nat} (C : mj_C P m c meth s args y base) (hE : mj_okE y p (.lload i, n, k0, k) = true) (h : mj_sf y (.lload i, n, k0, k) p lo st w = some t) : mj_Wto P l ev R s m args below meth c cells slots Q D cI cL b base y p lo st w t := by
  have hd := mj_E1 hE
  obtain rfl : n = 2 := mj_E2 hE rfl (by intros; exact nofun) (by intros; exact nofun)
  have hk : i = k := mj_E4 hE rfl
  obtain ⟨x, hx, h⟩ := mj_ldl_of h
  cases h
  exact ⟨rfl, fun H locs ls I kk => lv_lload C.1 C.2.1 hd (by rw [hk]; exact I.2.2.2.2 _ _ hx) (kk H locs ls I)⟩
theorem mj_s_istore_n {n k : Nat} {k0 : Int32} {i : Fin 4} (C : mj_C P m c meth s args y base) (hE : mj_okE y p (.istore_n i, n, k0, k) = true) (h : mj_sf y (.istore_n i, n, k0, k) p lo st w = some t) : mj_Wto P l ev R s m args below meth c cells slots Q D cI cL b base y p lo st w t := by
  have hd := mj_E1 hE
  obtain rfl : n = 1 := mj_E2 hE rfl (by intros; exact nofun) (by intros; exact nofun)
  obtain ⟨hk, hlt⟩ : i.val = k ∧ k < mj_ml y := mj_E5 hE rfl
  obtain ⟨x, r, rfl, h2⟩ := mj_i1_of h
  replace h := h2
  cases h
  exact ⟨rfl, fun H locs ls I kk => lv_istore_n C.1 C.2.1 hd hk I.2.2.has hlt rfl (fun ls1 h1 => kk H locs ls1 ⟨I.1, I.2.1, mj_L.put (v := .int x) h1⟩)⟩
theorem mj_s_astore_n {n k : Nat} {k0 : Int32} {i : Fin 4} (C : mj_C P m c meth s args y base) (hE : mj_okE y p (.astore_n i, n, k0, k) = true) (h : mj_sf y (.astore_n i, n, k0, k) p lo st w = some t) : mj_Wto P l ev R s m args below meth c cells slots Q D cI cL b base y p lo st w t := by
  have hd := mj_E1 hE
  obtain rfl : n = 1 := mj_E2 hE rfl (by intros; exact nofun) (by intros; exact nofun)
  obtain ⟨hk, hlt⟩ : i.val = k ∧ k < mj_ml y := mj_E5 hE rfl
  obtain ⟨x, r, rfl, h2⟩ := mj_a1_of h
  replace h := h2
  cases h
  exact ⟨rfl, fun H locs ls I kk => lv_astore_n C.1 C.2.1 hd hk I.2.2.has hlt rfl (fun ls1 h1 => kk H locs ls1 ⟨I.1, I.2.1, mj_L.put (v := .ref x) h1⟩)⟩
theorem mj_s_istore {n k : Nat} {k0 : Int32} {i : Nat} (C : mj_C P m c meth s args y base) (hE : mj_okE y p (.istore i, n, k0, k) = true) (h : mj_sf y (.istore i, n, k0, k) p lo st w = some t) : mj_Wto P l ev R s m args below meth c cells slots Q D cI cL b base y p lo st w t := by
  have hd := mj_E1 hE
  obtain rfl : n = 2 := mj_E2 hE rfl (by intros; exact nofun) (by intros; exact nofun)
  obtain ⟨hk, hlt⟩ : i = k ∧ k < mj_ml y := mj_E5 hE rfl
  obtain ⟨x, r, rfl, h2⟩ := mj_i1_of h
  replace h := h2
  cases h
  subst hk
  exact ⟨rfl, fun H locs ls I kk => lv_istore C.1 C.2.1 hd I.2.2.has hlt rfl (fun ls1 h1 => kk H locs ls1 ⟨I.1, I.2.1, mj_L.put (v := .int x) h1⟩)⟩
theorem mj_s_lstore_n {n k : Nat} {k0 : Int32} {i : Fin 4} (C : mj_C P m c meth s args y base) (hE : mj_okE y p (.lstore_n i, n, k0, k) = true) (h : mj_sf y (.lstore_n i, n, k0, k) p lo st w = some t) : mj_Wto P l ev R s m args below meth c cells slots Q D cI cL b base y p lo st w t := by
  have hd := mj_E1 hE
  obtain rfl : n = 1 := mj_E2 hE rfl (by intros; exact nofun) (by intros; exact nofun)
  obtain ⟨hk, hlt⟩ : i.val = k ∧ k + 1 < mj_ml y := mj_E6 hE rfl
  obtain ⟨x, r, rfl, h2⟩ := mj_l1_of h
  replace h := h2
  cases h
  exact ⟨rfl, fun H locs ls I kk => lv_lstore_n C.1 C.2.1 hd hk I.2.2.has hlt rfl (fun ls1 h1 => kk H locs ls1 ⟨I.1, I.2.1, mj_L.put2 (v := .long x) h1⟩)⟩
theorem mj_s_lstore {n k : Nat} {k0 : Int32} {i : Nat} (C : mj_C P m c meth s args y base) (hE : mj_okE y p (.lstore i, n, k0, k) = true) (h : mj_sf y (.lstore i, n, k0, k) p lo st w = some t) : mj_Wto P l ev R s m args below meth c cells slots Q D cI cL b base y p lo st w t := by
  have hd := mj_E1 hE
  obtain rfl : n = 2 := mj_E2 hE rfl (by intros; exact nofun) (by intros; exact nofun)
  obtain ⟨hk, hlt⟩ : i = k ∧ k + 1 < mj_ml y := mj_E6 hE rfl
  obtain ⟨x, r, rfl, h2⟩ := mj_l1_of h
  replace h := h2
  cases h
  subst hk
  exact ⟨rfl, fun H locs ls I kk => lv_lstore C.1 C.2.1 hd I.2.2.has hlt rfl (fun ls1 h1 => kk H locs ls1 ⟨I.1, I.2.1, mj_L.put2 (v := .long x) h1⟩)⟩
theorem mj_s_iinc {n k : Nat} {k0 : Int32} {i : Nat} {j : Int} (C : mj_C P m c meth s args y base) (hE : mj_okE y p (.iinc i j, n, k0, k) = true) (h : mj_sf y (.iinc i j, n, k0, k) p lo st w = some t) : mj_Wto P l ev R s m args below meth c cells slots Q D cI cL b base y p lo st w t := by
  have hd := mj_E1 hE
  obtain rfl : n = 3 := mj_E2 hE rfl (by intros; exact nofun) (by intros; exact nofun)
  obtain ⟨hk, hlt, hj⟩ := mj_E7 hE
  obtain ⟨x, hx, h⟩ := mj_ldi_of h
  cases h
  subst hk
  refine ⟨rfl, fun H locs ls I kk => ?_⟩
  have hh : lv_has ls (mj_ml y) ((i, .int x) :: mj_pr b base 0 lo) := ⟨I.2.2.1, I.2.2.2.1, fun q hq => by
    rcases List.mem_cons.mp hq with rfl | hq
    · exact I.2.2.2.2 i (.int x) hx
    · exact I.2.2.has.2.2 q hq⟩
  exact lv_iinc C.1 C.2.1 hd hh (k := 0) rfl (by rw [hj]) hlt (by simp only [List.filter_cons, beq_self_eq_true, Bool.not_true, Bool.false_and, Bool.false_eq_true, if_false]; rfl) (fun ls1 h1 => kk H locs ls1 ⟨I.1, I.2.1, mj_L.put (v := .int (x + k0)) h1⟩)
theorem mj_s_dup {n k : Nat} {k0 : Int32} (C : mj_C P m c meth s args y base) (hE : mj_okE y p (.dup, n, k0, k) = true) (h : mj_sf y (.dup, n, k0, k) p lo st w = some t) : mj_Wto P l ev R s m args below meth c cells slots Q D cI cL b base y p lo st w t := by
  have hd := mj_E1 hE
  obtain rfl : n = 1 := mj_E2 hE rfl (by intros; exact nofun) (by intros; exact nofun)
  obtain ⟨v, r, rfl, hc, h2⟩ := mj_d1_of h
  replace h := h2
  cases h
  exact ⟨rfl, fun H locs ls I kk => lv_dup C.1 C.2.1 hd ((mj_v_cat b base v).trans hc) (kk H locs ls I)⟩
theorem mj_s_pop {n k : Nat} {k0 : Int32} (C : mj_C P m c meth s args y base) (hE : mj_okE y p (.pop, n, k0, k) = true) (h : mj_sf y (.pop, n, k0, k) p lo st w = some t) : mj_Wto P l ev R s m args below meth c cells slots Q D cI cL b base y p lo st w t := by
  have hd := mj_E1 hE
  obtain rfl : n = 1 := mj_E2 hE rfl (by intros; exact nofun) (by intros; exact nofun)
  obtain ⟨v, r, rfl, hc, h2⟩ := mj_d1_of h
  replace h := h2
  cases h
  exact ⟨rfl, fun H locs ls I kk => lv_pop C.1 C.2.1 hd ((mj_v_cat b base v).trans hc) (kk H locs ls I)⟩
theorem mj_s_dup2 {n k : Nat} {k0 : Int32} (C : mj_C P m c meth s args y base) (hE : mj_okE y p (.dup2, n, k0, k) = true) (h : mj_sf y (.dup2, n, k0, k) p lo st w = some t) : mj_Wto P l ev R s m args below meth c cells slots Q D cI cL b base y p lo st w t := by
  have hd := mj_E1 hE
  obtain rfl : n = 1 := mj_E2 hE rfl (by intros; exact nofun) (by intros; exact nofun)
  obtain ⟨v, r, rfl, hc, h2⟩ := mj_d1_of h
  replace h := h2
  obtain ⟨u, r, rfl, hc2, h2⟩ := mj_d1_of h
  replace h := h2
  cases h
  exact ⟨rfl, fun H locs ls I kk => lv_dup2_11 C.1 C.2.1 hd ((mj_v_cat b base v).trans hc) ((mj_v_cat b base u).trans hc2) (kk H locs ls I)⟩
theorem mj_s_goto {n k : Nat} {k0 : Int32} {i : Int} (C : mj_C P m c meth s args y base) (hE : mj_okE y p (.goto i, n, k0, k) = true) (h : mj_sf y (.goto i, n, k0, k) p lo st w = some t) : mj_Wto P l ev R s m args below meth c cells slots Q D cI cL b base y p lo st w t := by
  have hd := mj_E1 hE
  obtain rfl : n = 3 := mj_E2 hE rfl (by intros; exact nofun) (by intros; exact nofun)
  have hv := mj_E8 hE rfl
  cases h
  exact ⟨rfl, fun H locs ls I kk => lv_goto C.1 C.2.1 hd hv (kk H locs ls I)⟩
theorem mj_s_ifCond {n k : Nat} {k0 : Int32} {q : ClassFile.Cond} {i : Int} (C : mj_C P m c meth s args y base) (hE : mj_okE y p (.ifCond q i, n, k0, k) = true) (h : mj_sf y (.ifCond q i, n, k0, k) p lo st w = some t) : mj_Wto P l ev R s m args below meth c cells slots Q D cI cL b base y p lo st w t := by
  have hd := mj_E1 hE
  obtain rfl : n = 3 := mj_E2 hE rfl (by intros; exact nofun) (by intros; exact nofun)
  have hv := mj_E8 hE rfl
  obtain ⟨x, r, rfl, h2⟩ := mj_i1_of h
  replace h := h2
  cases q <;> simp only [mj_ic] at h
  · by_cases hc : x = 0
    · rw [if_pos hc] at h
      cases h
      exact ⟨rfl, fun H locs ls I kk => lv_if_eq C.1 C.2.1 hd hv (fun _ => kk H locs ls I) (fun z9 => absurd hc z9)⟩
    · rw [if_neg hc] at h
      cases h
      exact ⟨rfl, fun H locs ls I kk => lv_if_eq C.1 C.2.1 hd hv (fun z9 => absurd z9 hc) (fun _ => kk H locs ls I)⟩
  · by_cases hc : x = 0
    · rw [if_pos hc] at h
      cases h
      exact ⟨rfl, fun H locs ls I kk => lv_if_ne C.1 C.2.1 hd hv (fun z9 => absurd hc z9) (fun _ => kk H locs ls I)⟩
    · rw [if_neg hc] at h
      cases h
      exact ⟨rfl, fun H locs ls I kk => lv_if_ne C.1 C.2.1 hd hv (fun _ => kk H locs ls I) (fun z9 => absurd z9 hc)⟩
  · by_cases hc : x < 0
    · rw [if_pos hc] at h
      cases h
      exact ⟨rfl, fun H locs ls I kk => lv_if_lt C.1 C.2.1 hd hv (fun _ => kk H locs ls I) (fun z9 => absurd hc z9)⟩
    · rw [if_neg hc] at h
      cases h
      exact ⟨rfl, fun H locs ls I kk => lv_if_lt C.1 C.2.1 hd hv (fun z9 => absurd z9 hc) (fun _ => kk H locs ls I)⟩
  · by_cases hc : 0 ≤ x
    · rw [if_pos hc] at h
      cases h
      exact ⟨rfl, fun H locs ls I kk => lv_if_ge C.1 C.2.1 hd hv (fun _ => kk H locs ls I) (fun z9 => absurd hc z9)⟩
    · rw [if_neg hc] at h
      cases h
      exact ⟨rfl, fun H locs ls I kk => lv_if_ge C.1 C.2.1 hd hv (fun z9 => absurd z9 hc) (fun _ => kk H locs ls I)⟩
  · by_cases hc : 0 < x
    · rw [if_pos hc] at h
      cases h
      exact ⟨rfl, fun H locs ls I kk => lv_if_gt C.1 C.2.1 hd hv (fun _ => kk H locs ls I) (fun z9 => absurd hc z9)⟩
    · rw [if_neg hc] at h
      cases h
      exact ⟨rfl, fun H locs ls I kk => lv_if_gt C.1 C.2.1 hd hv (fun z9 => absurd z9 hc) (fun _ => kk H locs ls I)⟩
  · by_cases hc : x ≤ 0
    · rw [if_pos hc] at h
      cases h
      exact ⟨rfl, fun H locs ls I kk => lv_if_le C.1 C.2.1 hd hv (fun _ => kk H locs ls I) (fun z9 => absurd hc z9)⟩
    · rw [if_neg hc] at h
      cases h
      exact ⟨rfl, fun H locs ls I kk => lv_if_le C.1 C.2.1 hd hv (fun z9 => absurd z9 hc) (fun _ => kk H locs ls I)⟩
theorem mj_s_if_icmp {n k : Nat} {k0 : Int32} {q : ClassFile.Cond} {i : Int} (C : mj_C P m c meth s args y base) (hE : mj_okE y p (.if_icmp q i, n, k0, k) = true) (h : mj_sf y (.if_icmp q i, n, k0, k) p lo st w = some t) : mj_Wto P l ev R s m args below meth c cells slots Q D cI cL b base y p lo st w t := by
  have hd := mj_E1 hE
  obtain rfl : n = 3 := mj_E2 hE rfl (by intros; exact nofun) (by intros; exact nofun)
  have hv := mj_E8 hE rfl
  obtain ⟨x, z, r, rfl, h2⟩ := mj_i2_of h
  replace h := h2
  cases q <;> simp only [mj_ic] at h
  · by_cases hc : x = z
    · rw [if_pos hc] at h
      cases h
      exact ⟨rfl, fun H locs ls I kk => lv_icmp_eq C.1 C.2.1 hd hv (fun _ => kk H locs ls I) (fun z9 => absurd hc z9)⟩
    · rw [if_neg hc] at h
      cases h
      exact ⟨rfl, fun H locs ls I kk => lv_icmp_eq C.1 C.2.1 hd hv (fun z9 => absurd z9 hc) (fun _ => kk H locs ls I)⟩
  · by_cases hc : x = z
    · rw [if_pos hc] at h
      cases h
      exact ⟨rfl, fun H locs ls I kk => lv_icmp_ne C.1 C.2.1 hd hv (fun z9 => absurd hc z9) (fun _ => kk H locs ls I)⟩
    · rw [if_neg hc] at h
      cases h
      exact ⟨rfl, fun H locs ls I kk => lv_icmp_ne C.1 C.2.1 hd hv (fun _ => kk H locs ls I) (fun z9 => absurd z9 hc)⟩
  · by_cases hc : x < z
    · rw [if_pos hc] at h
      cases h
      exact ⟨rfl, fun H locs ls I kk => lv_icmp_lt C.1 C.2.1 hd hv (fun _ => kk H locs ls I) (fun z9 => absurd hc z9)⟩
    · rw [if_neg hc] at h
      cases h
      exact ⟨rfl, fun H locs ls I kk => lv_icmp_lt C.1 C.2.1 hd hv (fun z9 => absurd z9 hc) (fun _ => kk H locs ls I)⟩
  · by_cases hc : z ≤ x
    · rw [if_pos hc] at h
      cases h
      exact ⟨rfl, fun H locs ls I kk => lv_icmp_ge C.1 C.2.1 hd hv (fun _ => kk H locs ls I) (fun z9 => absurd hc z9)⟩
    · rw [if_neg hc] at h
      cases h
      exact ⟨rfl, fun H locs ls I kk => lv_icmp_ge C.1 C.2.1 hd hv (fun z9 => absurd z9 hc) (fun _ => kk H locs ls I)⟩
  · by_cases hc : z < x
    · rw [if_pos hc] at h
      cases h
      exact ⟨rfl, fun H locs ls I kk => lv_icmp_gt C.1 C.2.1 hd hv (fun _ => kk H locs ls I) (fun z9 => absurd hc z9)⟩
    · rw [if_neg hc] at h
      cases h
      exact ⟨rfl, fun H locs ls I kk => lv_icmp_gt C.1 C.2.1 hd hv (fun z9 => absurd z9 hc) (fun _ => kk H locs ls I)⟩
  · by_cases hc : x ≤ z
    · rw [if_pos hc] at h
      cases h
      exact ⟨rfl, fun H locs ls I kk => lv_icmp_le C.1 C.2.1 hd hv (fun _ => kk H locs ls I) (fun z9 => absurd hc z9)⟩
    · rw [if_neg hc] at h
      cases h
      exact ⟨rfl, fun H locs ls I kk => lv_icmp_le C.1 C.2.1 hd hv (fun z9 => absurd z9 hc) (fun _ => kk H locs ls I)⟩
end
/-! the classes -/
theorem mj_okc {k : Nat} (h : k ≤ 6) : mj_okC k = true := List.all_eq_true.mp mj_ca7 k (List.mem_range.mpr (by omega))
theorem mj_cl_at {k : Nat} (h : k ≤ 6) : mj_cl[k]? = some (mj_cn k, mj_T k, mj_N k) := by
  match k, h with
  | 0, _ => rfl
  | 1, _ => rfl
  | 2, _ => rfl
  | 3, _ => rfl
  | 4, _ => rfl
  | 5, _ => rfl
  | 6, _ => rfl
  | n + 7, h => exact absurd h (by omega)
theorem mj_ty_ok {k : Nat} (h : k ≤ 6) : ∀ j, j < mj_N k → parseFieldDescriptor (mj_T k j).2.2.1 = some (mj_ty k j) := by
  match k, h with
  | 0, _ => exact mj_ty0_ok
  | 1, _ => exact mj_ty1_ok
  | 2, _ => exact mj_ty2_ok
  | 3, _ => exact mj_ty3_ok
  | 4, _ => exact mj_ty4_ok
  | 5, _ => exact mj_ty5_ok
  | 6, _ => exact mj_ty6_ok
  | n + 7, h => exact absurd h (by omega)
theorem mj_nm_ok {k : Nat} (h : k ≤ 6) : ∀ a, a < mj_N k → ∀ b, b < mj_N k → a ≠ b → (mj_T k a).2.1 ≠ (mj_T k b).2.1 := by
  match k, h with
  | 0, _ => exact mj_nm0
  | 1, _ => exact mj_nm1
  | 2, _ => exact mj_nm2
  | 3, _ => exact mj_nm3
  | 4, _ => exact mj_nm4
  | 5, _ => exact mj_nm5
  | 6, _ => exact mj_nm6
  | n + 7, h => exact absurd h (by omega)
theorem mj_okc_f {k j : Nat} (h : k ≤ 6) (hj : j < mj_N k) : u_lay (mj_cn k) (mj_T k) j ∈ lw_tbl ∧ (mj_T k j).2.2.2 = mj_fi k j ∧ (mj_T k j).1 = mj_cn k ∧
    (match mj_ty k j with
    | .int => Nat.beq (mj_tc k j) 0
    | .boolean => Nat.beq (mj_tc k j) 1
    | .array _ => Nat.beq (mj_tc k j) 2
    | .object _ => Nat.beq (mj_tc k j) 2
    | _ => false) = true := by
  have h1 := mj_okc h
  unfold mj_okC at h1
  have h2 := List.all_eq_true.mp ((Bool.and_eq_true _ _).mp h1).2 j (List.mem_range.mpr hj)
  simp only [Bool.and_eq_true, decide_eq_true_eq, beq_iff_eq] at h2
  exact ⟨mj_is_mem h2.1.1.1, h2.1.2, h2.2, h2.1.1.2⟩
theorem mj_okc_i {k : Nat} (h : k ≤ 6) : Cond.instantiable (mj_cn k) (mj_N k) ∈ lw_tbl ∧ Cond.initialized (mj_cn k) ∈ lw_tbl := by
  have h1 := mj_okc h
  unfold mj_okC at h1
  have h2 := (Bool.and_eq_true _ _).mp ((Bool.and_eq_true _ _).mp h1).1
  exact ⟨mj_is_mem h2.1, mj_is_mem h2.2⟩
theorem mj_lay_good (C : String) (T : u_T) (k : Nat) : goodWord (u_lay C T k) = true := by
  unfold u_lay
  split <;> rfl
theorem mj_uin {k : Nat} (h : k ≤ 6) : ∀ w ∈ u_ws (mj_cn k) (mj_T k) (mj_N k), w ∈ mj_lg := by
  intro w hw
  obtain ⟨j, hj, rfl⟩ := List.mem_map.mp hw
  exact List.mem_filter.mpr ⟨(mj_okc_f h (List.mem_range.mp hj)).1, mj_lay_good _ _ _⟩
theorem mj_E9 {y p n k ix : Nat} {k0 : Int32} (h : mj_okE y p (.getfield ix, n, k0, k) = true ∨ mj_okE y p (.putfield ix, n, k0, k) = true) : k / 64 ≤ 6 ∧ k % 64 < mj_N (k / 64) ∧ Cond.fieldLink (mj_cn (mj_mc y)) ix (mj_T (k / 64) (k % 64)).1 (mj_T (k / 64) (k % 64)).2.1 (mj_T (k / 64) (k % 64)).2.2.1 ∈ lw_tbl := by
  have key : ix ≤ 999 ∧ mj_fr (1000 * mj_mc y + ix) = some k := by
    rcases h with h | h <;> simp only [mj_okE, Bool.and_eq_true, decide_eq_true_eq] at h
    · exact ⟨Nat.le_of_ble_eq_true h.2.2.1, h.2.2.2⟩
    · exact ⟨Nat.le_of_ble_eq_true h.2.2.1.1, h.2.2.1.2⟩
  have r := mj_fr_ok key.2
  unfold mj_okF at r
  rw [(mj_dm key.1).1, (mj_dm key.1).2] at r
  simp only [Bool.and_eq_true] at r
  have g := Nat.le_of_ble_eq_true r.1.2
  exact ⟨Nat.le_of_ble_eq_true r.1.1, by omega, mj_is_mem r.2⟩
/-- a cell of an object of a world -/
theorem mj_obj {D : va_G} {cI cL : ClassId} {b base : Nat} {w : mjW} {s : State} {H : Heap} {a k : Nat} (X : mj_X D cI cL b base w s H) (h : (mj_nth w.1 a).1 = k + 2) (hk : k ≤ 6) :
    ∃ q, a = q + 1 ∧ a < w.1.length ∧ (mj_nth w.1 a).2 = mj_N k ∧ (mj_cells cI cL b base w)[q]? = some (base + q, .inr (k, (List.range (mj_N k)).map (fun j => mj_v b base (mj_rd (mj_tc k j) w a j)))) := by
  have hl : a < w.1.length := mj_nth_lt h (by omega)
  cases a with
  | zero =>
    obtain ⟨⟨L, h0, -⟩, -⟩ := X
    rw [h0] at h
    exact absurd h (by simp)
  | succ q =>
    have hn := (X.2.2.2.2.2.2.1 (q + 1) k h hl).2
    refine ⟨q, rfl, hl, hn, ?_⟩
    rw [mj_cells_at hl, mj_ent_o h, hn]
theorem mj_arr {D : va_G} {cI cL : ClassId} {b base : Nat} {w : mjW} {s : State} {H : Heap} {a : Nat} (X : mj_X D cI cL b base w s H) (h : (mj_nth w.1 a).1 = 0) (ha : a ≠ 0) :
    ∃ q, a = q + 1 ∧ a < w.1.length ∧ (mj_cells cI cL b base w)[q]? = some (base + q, .inl (cI, (mj_nth w.1 a).2, .inl (w.2.2.1 a))) := by
  have hl : a < w.1.length := mj_nth_lt h (by omega)
  cases a with
  | zero => exact absurd rfl ha
  | succ q => exact ⟨q, rfl, hl, by rw [mj_cells_at hl, mj_ent_i h]⟩
theorem mj_arrL {D : va_G} {cI cL : ClassId} {b base : Nat} {w : mjW} {s : State} {H : Heap} {a : Nat} (X : mj_X D cI cL b base w s H) (h : (mj_nth w.1 a).1 = 1) :
    ∃ q, a = q + 1 ∧ a < w.1.length ∧ (mj_cells cI cL b base w)[q]? = some (base + q, .inl (cL, (mj_nth w.1 a).2, .inr (.inl (w.2.2.2 a)))) := by
  have hl : a < w.1.length := mj_nth_lt h (by omega)
  cases a with
  | zero =>
    obtain ⟨⟨L, h0, -⟩, -⟩ := X
    rw [h0] at h
    exact absurd h (by simp)
  | succ q => exact ⟨q, rfl, hl, by rw [mj_cells_at hl, mj_ent_l h]⟩
theorem mj_bif {c : Bool} {α : Type} {x : Option α} {t : α} (h : (bif c then x else none) = some t) : c = true ∧ x = some t := by
  cases c with
  | false => cases h
  | true => exact ⟨rfl, h⟩
theorem mj_ite {c : Prop} [Decidable c] {α : Type} {x : Option α} {t : α} (h : (if c then none else x) = some t) : ¬ c ∧ x = some t := by
  by_cases hc : c
  · rw [if_pos hc] at h; cases h
  · rw [if_neg hc] at h; exact ⟨hc, h⟩
theorem mj_cat_map (b base : Nat) (r : List Value) : ((r.map (mj_v b base)).map fun v => v.category).sum = mj_cat r := by
  induction r with
  | nil => rfl
  | cons v r ih => simp only [List.map_cons, List.sum_cons, mj_v_cat, mj_cat, ih]
/-- one cell of the world has changed -/
theorem mj_X.set {D : va_G} {cI cL : ClassId} {b base : Nat} {w w2 : mjW} {s : State} {H H1 : Heap} {q : Nat} (X : mj_X D cI cL b base w s H) (h1 : w2.1 = w.1) (hq : q + 1 < w.1.length) (hsz : H1.size = H.size) (oq : ∀ x, x ≠ base + q → H1[x]? = H[x]?)
    (hne : ∀ j, j ≠ q + 1 → mj_ent cI cL b base w2 j = mj_ent cI cL b base w j) (h0 : w2.2.2.1 0 = w.2.2.1 0) (he : va_at D mj_cl (base + q, mj_ent cI cL b base w2 (q + 1)) H1) : mj_X D cI cL b base w2 s H1 := by
  obtain ⟨⟨L, x1, x2⟩, x3, x4, x5, x6, x7, x8, x9⟩ := X
  refine ⟨⟨L, by rw [h1]; exact x1, ?_⟩, by rw [h1]; exact x3, by rw [h1, hsz]; exact x4, x5, ?_, x7, by rw [h1]; exact x8, x9⟩
  · rw [h0]
    exact x2.kept (oq b (by omega))
  · rw [mj_cells_set h1 hq hne]
    exact x6.set (mj_cells_D cI cL b base w) (mj_cells_at hq) he oq
theorem mj_ent_congr {cI cL : ClassId} {b base : Nat} {w w2 : mjW} {j : Nat} (h1 : w2.1 = w.1) (hr : w2.2.1 j = w.2.1 j) (hi : w2.2.2.1 j = w.2.2.1 j) (hl : w2.2.2.2 j = w.2.2.2 j) : mj_ent cI cL b base w2 j = mj_ent cI cL b base w j := by
  simp only [mj_ent, mj_rd, h1, hr, hi, hl]
theorem mj_up_ne {α : Type} {f : Nat → Nat → α} {a k j : Nat} {v : α} (h : j ≠ a) : mj_up f a k v j = f j := by
  funext i
  simp [mj_up, h]
theorem mj_up_at {α : Type} (f : Nat → Nat → α) (a k i : Nat) (v : α) : mj_up f a k v a i = if i = k then v else f a i := by simp [mj_up]
theorem mj_map_set {α : Type} {n k : Nat} {f g : Nat → α} (hne : ∀ j, j ≠ k → g j = f j) : (List.range n).map g = ((List.range n).map f).set k (g k) := by
  refine List.ext_getElem? fun j => ?_
  by_cases e : j = k
  · subst e
    by_cases hj : j < n
    · rw [List.getElem?_set_self (by simpa using hj), List.getElem?_map, List.getElem?_range hj]
      rfl
    · rw [List.getElem?_eq_none (by simpa using hj), List.getElem?_eq_none (by simpa using hj)]
  · rw [List.getElem?_set_ne (Ne.symm e), List.getElem?_map, List.getElem?_map]
    by_cases hj : j < n
    · rw [List.getElem?_range hj]
      exact congrArg some (hne j e)
    · rw [List.getElem?_eq_none (by simpa using hj)]
      rfl
section
variable {P : Program} {l : Launch} {ev : Env} {R : Room} {s : State} {m : MethodId} {args : Array Value} {below : List Frame} {meth : Method} {c : Code} {cells slots : Nat} {Q : State → Prop} {D : va_G} {cI cL : ClassId} {b base y p : Nat} {lo : List (Option Value)} {st : List Value} {w : mjW} {t : mjS}
theorem mj_s_getfield {n k ix : Nat} {k0 : Int32} (C : mj_C P m c meth s args y base) (hE : mj_okE y p (.getfield ix, n, k0, k) = true) (h : mj_sf y (.getfield ix, n, k0, k) p lo st w = some t) : mj_Wto P l ev R s m args below meth c cells slots Q D cI cL b base y p lo st w t := by
  have hd := mj_E1 hE
  obtain rfl : n = 3 := mj_E2 hE rfl (by intros; exact nofun) (by intros; exact nofun)
  obtain ⟨hc, hf, hw⟩ := mj_E9 (Or.inl hE)
  obtain ⟨a, r, rfl, h2⟩ := mj_a1_of h
  replace h := h2
  obtain ⟨ht, h⟩ := mj_bif h
  have ht := Nat.eq_of_beq_eq_true ht
  cases h
  refine ⟨rfl, fun H locs ls I kk => ?_⟩
  obtain ⟨q, rfl, hl, -, he⟩ := mj_obj I.1 ht hc
  refine va_get (own := mj_cn (mj_mc y)) C.1 C.2.1 C.2.2.2.2.2.2.1 (mj_uin hc) C.own I.1.2.2.2.2.2.1 I.1.2.2.2.2.1 q he (mj_cl_at hc) (k % 64) hf (C.wd hw) (fun _ h9 => h9) (v := mj_v b base (mj_rd (mj_tc (k / 64) (k % 64)) w (q + 1) (k % 64))) ?_ hd (kk H locs ls I)
  rw [List.getElem?_map, List.getElem?_range hf]
  rfl
theorem mj_s_arraylength {n k : Nat} {k0 : Int32} (C : mj_C P m c meth s args y base) (hE : mj_okE y p (.arraylength, n, k0, k) = true) (h : mj_sf y (.arraylength, n, k0, k) p lo st w = some t) : mj_Wto P l ev R s m args below meth c cells slots Q D cI cL b base y p lo st w t := by
  have hd := mj_E1 hE
  obtain rfl : n = 1 := mj_E2 hE rfl (by intros; exact nofun) (by intros; exact nofun)
  obtain ⟨a, r, rfl, h2⟩ := mj_a1_of h
  replace h := h2
  obtain ⟨ht, h⟩ := mj_bif h
  have ht := Nat.le_of_ble_eq_true ht
  cases h
  refine ⟨rfl, fun H locs ls I kk => ?_⟩
  by_cases h0 : (mj_nth w.1 a).1 = 0
  · by_cases ha : a = 0
    · subst ha
      obtain ⟨L, x1, scr, x2, x3, x4, x5, x6⟩ := I.1.1
      refine W.alen C.1 C.2.1 (a := b) (n := Int32.ofNat (mj_nth w.1 0).2) x2 x3 (by rw [x5, x1] <;> rfl) rfl rfl hd (kk H locs ls I)
    · obtain ⟨q, rfl, hl, he⟩ := mj_arr I.1 h0 ha
      exact va_alen C.1 C.2.1 I.1.2.2.2.2.2.1 I.1.2.2.2.2.1 q 0 he (ty := .int) rfl rfl hd (kk H locs ls I)
  · obtain ⟨q, rfl, hl, he⟩ := mj_arrL I.1 (show (mj_nth w.1 a).1 = 1 by omega)
    exact va_alen C.1 C.2.1 I.1.2.2.2.2.2.1 I.1.2.2.2.2.1 q 1 he (ty := .long) rfl rfl hd (kk H locs ls I)
theorem mj_s_iaload {n k : Nat} {k0 : Int32} (C : mj_C P m c meth s args y base) (hE : mj_okE y p (.iaload, n, k0, k) = true) (h : mj_sf y (.iaload, n, k0, k) p lo st w = some t) : mj_Wto P l ev R s m args below meth c cells slots Q D cI cL b base y p lo st w t := by
  have hd := mj_E1 hE
  obtain rfl : n = 1 := mj_E2 hE rfl (by intros; exact nofun) (by intros; exact nofun)
  obtain ⟨a, i, r, rfl, h2⟩ := mj_ai_of h
  replace h := h2
  obtain ⟨ht, h⟩ := mj_bif h
  have ht := Nat.eq_of_beq_eq_true ht
  obtain ⟨hi, h⟩ := mj_ite h
  cases h
  refine ⟨rfl, fun H locs ls I kk => ?_⟩
  by_cases ha : a = 0
  · subst ha
    obtain ⟨L, x1, scr, x2, x3, x4, x5, x6⟩ := I.1.1
    have hL : (mj_nth w.1 0).2 = L := by rw [x1]
    rw [hL] at hi
    have hlt : i.toNatClampNeg < L := Nat.not_le.mp fun q => hi (Or.inr q)
    exact W.iald (a := b) (v := .int (w.2.2.1 0 i.toNatClampNeg)) C.1 C.2.1 x2 x3 x4 (by rw [x5]; exact hi) (x6 _ hlt) rfl rfl hd (kk H locs ls I)
  · obtain ⟨q, rfl, hl, he⟩ := mj_arr I.1 ht ha
    exact va_iald C.1 C.2.1 I.1.2.2.2.2.2.1 I.1.2.2.2.2.1 q 0 he rfl hi hd (kk H locs ls I)
theorem mj_s_laload {n k : Nat} {k0 : Int32} (C : mj_C P m c meth s args y base) (hE : mj_okE y p (.laload, n, k0, k) = true) (h : mj_sf y (.laload, n, k0, k) p lo st w = some t) : mj_Wto P l ev R s m args below meth c cells slots Q D cI cL b base y p lo st w t := by
  have hd := mj_E1 hE
  obtain rfl : n = 1 := mj_E2 hE rfl (by intros; exact nofun) (by intros; exact nofun)
  obtain ⟨a, i, r, rfl, h2⟩ := mj_ai_of h
  replace h := h2
  obtain ⟨ht, h⟩ := mj_bif h
  have ht := Nat.eq_of_beq_eq_true ht
  obtain ⟨hi, h⟩ := mj_ite h
  cases h
  refine ⟨rfl, fun H locs ls I kk => ?_⟩
  obtain ⟨q, rfl, hl, he⟩ := mj_arrL I.1 ht
  exact va_lald C.1 C.2.1 I.1.2.2.2.2.2.1 I.1.2.2.2.2.1 q 1 he rfl hi hd (kk H locs ls I)
theorem mj_s_iastore {n k : Nat} {k0 : Int32} (C : mj_C P m c meth s args y base) (hE : mj_okE y p (.iastore, n, k0, k) = true) (h : mj_sf y (.iastore, n, k0, k) p lo st w = some t) : mj_Wto P l ev R s m args below meth c cells slots Q D cI cL b base y p lo st w t := by
  have hd := mj_E1 hE
  obtain rfl : n = 1 := mj_E2 hE rfl (by intros; exact nofun) (by intros; exact nofun)
  obtain ⟨a, i, x, r, rfl, h2⟩ := mj_aii_of h
  replace h := h2
  obtain ⟨ht, h⟩ := mj_bif h
  obtain ⟨ht, ha⟩ := (Bool.and_eq_true _ _).mp ht
  have ht := Nat.eq_of_beq_eq_true ht
  have ha : a ≠ 0 := fun e => by rw [e] at ha; cases ha
  obtain ⟨hi, h⟩ := mj_ite h
  cases h
  refine ⟨rfl, fun H locs ls I kk => ?_⟩
  obtain ⟨q, rfl, hl, he⟩ := mj_arr I.1 ht ha
  have hc := I.1.2.2.2.2.1 q _ he
  refine W.iast C.1 C.2.1 hc ((I.1.2.2.2.2.2.1.2 0 (cI, .int) rfl).1 _ (fun j => .int (w.2.2.1 (q + 1) j))) (fun q => by cases q) (by show ¬ (i < 0 ∨ (arrV _ _ _).slots.size ≤ _); rw [arrV_size]; exact hi) rfl rfl hd fun H1 e z oq => ?_
  refine kk H1 _ ls ⟨I.1.set rfl hl z oq (fun j hj => mj_ent_congr rfl rfl (mj_up_ne hj) rfl) (mj_up_ne (f := w.2.2.1) (a := q + 1) (k := i.toNatClampNeg) (v := x) (show 0 ≠ q + 1 by omega)) ?_, I.2.1.put z oq (Nat.le_add_right _ _), I.2.2⟩
  refine (show va_at D mj_cl (base + q, mj_ent cI cL b base (w.1, w.2.1, mj_up w.2.2.1 (q + 1) i.toNatClampNeg x, w.2.2.2) (q + 1)) H1 from ?_)
  rw [mj_ent_i (w := (w.1, w.2.1, mj_up w.2.2.1 (q + 1) i.toNatClampNeg x, w.2.2.2)) ht]
  show H1[base + q]? = some (vp_cell _ _)
  rw [e]
  rw [vp_cell_i, vp_cell_i, arrV_store]
  congr 2
  funext j
  by_cases hj : j = i.toNatClampNeg
  · subst hj
    simp [updV, mj_up]
  · simp [updV, mj_up, hj]
theorem mj_s_lastore {n k : Nat} {k0 : Int32} (C : mj_C P m c meth s args y base) (hE : mj_okE y p (.lastore, n, k0, k) = true) (h : mj_sf y (.lastore, n, k0, k) p lo st w = some t) : mj_Wto P l ev R s m args below meth c cells slots Q D cI cL b base y p lo st w t := by
  have hd := mj_E1 hE
  obtain rfl : n = 1 := mj_E2 hE rfl (by intros; exact nofun) (by intros; exact nofun)
  obtain ⟨a, i, x, r, rfl, h2⟩ := mj_ail_of h
  replace h := h2
  obtain ⟨ht, h⟩ := mj_bif h
  have ht := Nat.eq_of_beq_eq_true ht
  obtain ⟨hi, h⟩ := mj_ite h
  cases h
  refine ⟨rfl, fun H locs ls I kk => ?_⟩
  obtain ⟨q, rfl, hl, he⟩ := mj_arrL I.1 ht
  have hc := I.1.2.2.2.2.1 q _ he
  refine W.last C.1 C.2.1 hc ((I.1.2.2.2.2.2.1.2 1 (cL, .long) rfl).1 _ (fun j => .long (w.2.2.2 (q + 1) j))) (fun q => by cases q) (by show ¬ (i < 0 ∨ (arrV _ _ _).slots.size ≤ _); rw [arrV_size]; exact hi) rfl rfl hd fun H1 e z oq => ?_
  refine kk H1 _ ls ⟨I.1.set rfl hl z oq (fun j hj => mj_ent_congr rfl rfl rfl (mj_up_ne hj)) rfl ?_, I.2.1.put z oq (Nat.le_add_right _ _), I.2.2⟩
  refine (show va_at D mj_cl (base + q, mj_ent cI cL b base (w.1, w.2.1, w.2.2.1, mj_up w.2.2.2 (q + 1) i.toNatClampNeg x) (q + 1)) H1 from ?_)
  rw [mj_ent_l (w := (w.1, w.2.1, w.2.2.1, mj_up w.2.2.2 (q + 1) i.toNatClampNeg x)) ht]
  show H1[base + q]? = some (vp_cell _ _)
  rw [e]
  rw [vp_cell_l, vp_cell_l, arrV_store]
  congr 2
  funext j
  by_cases hj : j = i.toNatClampNeg
  · subst hj
    simp [updV, mj_up]
  · simp [updV, mj_up, hj]
theorem mj_s_objinit {n k ix : Nat} {k0 : Int32} (C : mj_C P m c meth s args y base) (hR : 1 ≤ R.frames ∧ 20 ≤ R.locals) (hn : mj_isc (.invokespecial ix, n, k0, k) = false) (hE : mj_okE y p (.invokespecial ix, n, k0, k) = true) (h : mj_sf y (.invokespecial ix, n, k0, k) p lo st w = some t) : mj_Wto P l ev R s m args below meth c cells slots Q D cI cL b base y p lo st w t := by
  have hd := mj_E1 hE
  obtain rfl : n = 3 := mj_E2 hE rfl (by intros; exact nofun) (by intros; exact nofun)
  have hz : 999 ≤ k := by
    have : (!(Nat.ble 999 k)) = false := hn
    cases hb : Nat.ble 999 k with
    | true => exact Nat.le_of_ble_eq_true hb
    | false => rw [hb] at this; cases this
  have key : Cond.methodLink (mj_cn (mj_mc y)) ix Jvm.Lib.objectInit ∈ lw_tbl := by
    simp only [mj_okE, Bool.and_eq_true, Bool.or_eq_true] at hE
    obtain ⟨-, -, hx, hm⟩ := hE
    have hx := Nat.le_of_ble_eq_true hx
    split at hm
    · rename_i q hq
      simp only [Bool.and_eq_true, Bool.or_eq_true] at hm
      obtain ⟨m1, m2⟩ := hm
      have m1 := Nat.eq_of_beq_eq_true m1
      rcases m2 with m2 | m2
      · have r := mj_mr_ok hq
        unfold mj_okM at r
        rw [m2.2, (mj_dm hx).1, (mj_dm hx).2, m1, Nat.eq_of_beq_eq_true m2.1] at r
        exact mj_is_mem r
      · have := Nat.le_of_ble_eq_true m2.1.1.1
        omega
    · cases hm
  obtain ⟨a, r, rfl, h2⟩ := mj_a1_of h
  replace h := h2
  obtain ⟨hc, h⟩ := mj_bif h
  have hc := Nat.le_of_ble_eq_true hc
  cases h
  refine ⟨rfl, fun H locs ls I kk => ?_⟩
  refine W.objInit C.1 C.2.1 C.own (C.wd key) (C.wd mj_obI) (C.wd mj_obC) rfl (by rw [C.2.2.2.1]; exact I.2.2.1) rfl hd hR.1 ?_ (kk H locs ls I)
  show 2 * 0 + _ + 12 ≤ _
  rw [mj_cat_map]
  omega
end
