/-! Calls: what the small machine does in a method, the machine does. -/
def mj_tot : List (Nat × Nat) → Nat
  | [] => 0
  | q :: l => q.2 + mj_tot l
theorem mj_tot_app (a b : List (Nat × Nat)) : mj_tot (a ++ b) = mj_tot a + mj_tot b := by
  induction a with
  | nil => simp [mj_tot]
  | cons q l ih => simp only [List.cons_append, mj_tot, ih]; omega
def mj_rm (d mc ms : Nat) : Room := { frames := d + 1, cells := mc, slots := ms, locals := 64 * d + 30 }
noncomputable def mj_ws (z : Nat) : List Cond := Cond.code (mj_mn z) (mj_mb z) (mj_ml z) (mj_mt z) :: mj_lg
def mj_Pc (D : va_G) (cI cL : ClassId) (b base : Nat) (a : List Value) (w : mjW) : Array Value → State → Prop := va_Pc (a.map (mj_v b base)) (fun U => mj_X D cI cL b base w U U.heap)
def mj_Qc (D : va_G) (cI cL : ClassId) (b base : Nat) (v : Option Value) (w : mjW) : Array Value → State → Outcome → State → Prop := fun _ st oc t => oc = .returned (v.map (mj_v b base)) ∧ mj_X D cI cL b base w t t.heap ∧ va_F (mj_A base) st t
def mj_MZ (l : Launch) (z d : Nat) (a : List Value) (w : mjW) (v : Option Value) (w' : mjW) : Prop := ∀ (D : va_G) (cI cL : ClassId) (b base : Nat),
  Met l (mj_mn z) (mj_ws z) (mj_rm d (w'.1.length - w.1.length) (mj_tot w'.1 - mj_tot w.1)) (mj_Pc D cI cL b base a w) (mj_Qc D cI cL b base v w') (w'.1.length - w.1.length) (mj_tot w'.1 - mj_tot w.1) (mj_A base)
theorem mj_Pc_blind (D : va_G) (cI cL : ClassId) (b base : Nat) (a : List Value) (w : mjW) : FrameBlind (mj_Pc D cI cL b base a w) := fun v U g mk q =>
  ⟨q.1, mj_X.moved (s := U) (U := U.calling g mk v) q.2 (Vm.Alike.refl U.vm) (mj_nw.same q.2.2.2.2.2.2.2.2 rfl)⟩
theorem mj_pop_of : ∀ (n : Nat) (s a x r : List Value), mj_pop n s a = some (x, r) → ∃ u, s = u ++ r ∧ x = u.reverse ++ a ∧ u.length = n
  | 0, s, a, x, r, h => by
    cases h
    exact ⟨[], rfl, rfl, rfl⟩
  | n + 1, [], a, x, r, h => by cases h
  | n + 1, v :: s, a, x, r, h => by
    obtain ⟨u, h1, h2, h3⟩ := mj_pop_of n s (v :: a) x r h
    exact ⟨v :: u, by rw [h1]; rfl, by rw [h2]; simp, by simp [h3]⟩
theorem mj_okz {z : Nat} (h : z ≤ 225) (h8 : mj_mc z ≠ 8) : (if mj_sk z = true then Cond.static (mj_mn z) ∈ lw_tbl else Cond.instanceMethod (mj_mn z) ∈ lw_tbl ∧ ((mj_mn z).name = "<init>" ∨ Cond.selects (mj_mn z).cls (mj_mn z) (mj_mn z) ∈ lw_tbl)) ∧
    Cond.code (mj_mn z) (mj_mb z) (mj_ml z) (mj_mt z) ∈ lw_tbl ∧ Cond.initialized (mj_mn z).cls ∈ lw_tbl ∧ _root_.Jvm.plainName (mj_mn z).cls = true ∧ ((mj_mn z).cls ≠ "java/lang/invoke/MethodHandle" ∧ (mj_mn z).cls ≠ "java/lang/invoke/VarHandle" ∧ (parseMethodDescriptor (mj_mn z).desc).map (fun d => d.parameters.length) = some (mj_np z)) ∧ (mj_mn z).cls = mj_cn (mj_mc z) ∧ mj_ml z ≤ 45 ∧ mj_mc z ≤ 10 := by
  have h1 := mj_za (show z < 226 by omega)
  unfold mj_okZ at h1
  simp only [Bool.and_eq_true, Bool.or_eq_true, decide_eq_true_eq] at h1
  obtain ⟨⟨⟨⟨⟨⟨⟨⟨⟨a1, a2⟩, a3⟩, a4⟩, a5⟩, a6⟩, a7⟩, a8⟩, a9⟩, a10⟩ := h1
  refine ⟨?_, mj_is_mem a2, mj_is_mem a3, ?_, ⟨a5, a6, a7⟩, a8, Nat.le_of_ble_eq_true a9, Nat.le_of_ble_eq_true a10⟩
  · cases hs : mj_sk z with
    | true =>
      rw [hs] at a1
      exact mj_is_mem a1
    | false =>
      rw [hs] at a1
      simp only [cond_false, Bool.and_eq_true, Bool.or_eq_true, decide_eq_true_eq] at a1
      exact ⟨mj_is_mem a1.1, a1.2.elim Or.inl (fun h => Or.inr (mj_is_mem h))⟩
  · rcases a4 with a4 | a4
    · exact absurd (Nat.eq_of_beq_eq_true a4) h8
    · exact a4
theorem mj_goodIn {z : Nat} (h : Cond.code (mj_mn z) (mj_mb z) (mj_ml z) (mj_mt z) ∈ lw_tbl) : GoodIn mj_lg (mj_ws z) := by
  intro w hw
  have hm : w ∈ mj_lg := by
    rcases List.mem_cons.mp hw with rfl | hw
    · exact List.mem_filter.mpr ⟨h, rfl⟩
    · exact hw
  exact ⟨hm, good_of_word (List.mem_filter.mp hm).2⟩
section
variable {P : Program} {l : Launch} {ev : Env} {R : Room} {s : State} {m : MethodId} {args : Array Value} {below : List Frame} {meth : Method} {c : Code} {cells slots : Nat} {Q : State → Prop} {D : va_G} {cI cL : ClassId} {b base y p : Nat} {lo : List (Option Value)} {st : List Value} {w : mjW}
/-- behind a call -/
theorem mj_run {mc ms : Nat} {st0 rest : List Value} {v : Option Value} {w2 : mjW} {H : Heap} {locs : List Loc} {ls : Array Slot} {a : Array Value} (hr : va_Run P l ev R s m args below meth c H locs cells slots mc ms (F0 m p ls st0) rest (mj_Qc D cI cL b base v w2 a) (mj_A base)) (X : mj_X D cI cL b base w s H) (hS : va_S (mj_A base) s.heap H locs)
    (kk : ∀ (H1 : Heap) (locs1 : List Loc), mj_X D cI cL b base w2 s H1 → va_S (mj_A base) s.heap H1 locs1 → W P l ev R s m args below meth c H1 locs1 (cells + mc) (slots + ms) Q (F0 m (p + 3) ls ((v.map (mj_v b base)).toList ++ rest))) : W P l ev R s m args below meth c H locs cells slots Q (F0 m p ls st0) := by
  intro T hT XT
  obtain ⟨v', st₀, t, T', L, h0, X', hL, e1, e2, ⟨hv, hx, hz, hk⟩, st⟩ := hr T hT XT
  cases hv
  rw [h0] at hz hk
  have al : t.vm.Alike s.vm := by rw [← e2]; exact X'.warmed.alike.symm
  have hx2 := mj_X.moved hx al X.2.2.2.2.2.2.2
  obtain ⟨t2, a1, b1⟩ := kk T'.heap (locs ++ L) (by rw [e1]; exact hx2)
    ⟨Nat.le_trans hS.1 (by rw [e1]; exact hz), fun q h1 h2 => by rw [e1, hk q (Nat.lt_of_lt_of_le h1 hS.1) h2]; exact hS.2.1 q h1 h2, fun q hq => by
      rcases List.mem_append.mp hq with h | h
      · exact hS.2.2 q h
      · exact hL q h⟩ T' rfl X'
  exact ⟨t2, st t2 a1, b1⟩
theorem mj_call {d n k : Nat} {k0 : Int32} {i : Instr} {a r : List Value} {v : Option Value} {w2 : mjW} {H : Heap} {locs : List Loc} {ls : Array Slot} (C : mj_C P m c meth s args y base) (I : mj_I D cI cL b base s y w H locs ls lo) (hd1 : d + 1 ≤ R.frames) (hd2 : 64 * d + 30 ≤ R.locals) (hi : mj_isc (i, n, k0, k) = true) (hE : mj_okE y p (i, n, k0, k) = true) (hca : mj_ca d k st w = some (a, r))
    (hM : mj_MZ l k (mj_rk k a) a w v w2) (hf : cells + (w2.1.length - w.1.length) ≤ R.cells ∧ slots + (mj_tot w2.1 - mj_tot w.1) ≤ R.slots)
    (kk : ∀ (H1 : Heap) (locs1 : List Loc), mj_X D cI cL b base w2 s H1 → va_S (mj_A base) s.heap H1 locs1 → W P l ev R s m args below meth c H1 locs1 (cells + (w2.1.length - w.1.length)) (slots + (mj_tot w2.1 - mj_tot w.1)) Q (F0 m (p + 3) ls ((v.toList ++ r).map (mj_v b base)))) : W P l ev R s m args below meth c H locs cells slots Q (F0 m p ls (st.map (mj_v b base))) := by
  have hd := mj_E1 hE
  have hlen : n = mj_len i := by
    refine mj_E2 hE rfl ?_ ?_ <;> intros <;> intro e <;> subst e <;> cases hi
  have kk' : ∀ (H1 : Heap) (locs1 : List Loc), mj_X D cI cL b base w2 s H1 → va_S (mj_A base) s.heap H1 locs1 → W P l ev R s m args below meth c H1 locs1 (cells + (w2.1.length - w.1.length)) (slots + (mj_tot w2.1 - mj_tot w.1)) Q (F0 m (p + 3) ls ((v.map (mj_v b base)).toList ++ r.map (mj_v b base))) := by
    intro H1 locs1 x1 x2
    have := kk H1 locs1 x1 x2
    rw [List.map_append] at this
    cases v <;> exact this
  have hpre : ∀ U : State, U.heap = H → s.WarmedH U.vm → mj_Pc D cI cL b base a w (a.map (mj_v b base)).toArray U := fun U hU hW => ⟨rfl, by show mj_X D cI cL b base w U U.heap; rw [hU]; exact mj_X.moved I.1 hW.alike (mj_nw.moved I.1.2.2.2.2.2.2.2 hW)⟩
  unfold mj_ca at hca
  cases hp : mj_pop (mj_np k) st [] with
  | none => rw [hp] at hca; cases hca
  | some q =>
    obtain ⟨a0, r0⟩ := q
    rw [hp] at hca
    obtain ⟨u, rfl, rfl, hu⟩ := mj_pop_of _ _ _ _ _ hp
    have hroom : ∀ {x : List Value}, mj_cat x ≤ 8 → 2 * (F0 m p ls ((u ++ r0).map (mj_v b base))).monitorRoom + ((x.map (mj_v b base)).map fun v => v.category).sum ≤ 8 := fun {x} hx => by
      show 2 * 0 + _ ≤ 8
      rw [mj_cat_map]
      omega
    have S : CallFix P m c (mj_mb y) (mj_ml y) s args mj_lg (mj_cn (mj_mc y)) := ⟨C.1, C.2.1, C.2.2.2.1, C.own, C.2.2.2.2.2.2.1⟩
    have hR : mj_rk k a < d → mj_ml k ≤ 45 → (mj_rm (mj_rk k a) (w2.1.length - w.1.length) (mj_tot w2.1 - mj_tot w.1)).frames + 1 ≤ R.frames ∧ 8 + (mj_ml k + 11) + (mj_rm (mj_rk k a) (w2.1.length - w.1.length) (mj_tot w2.1 - mj_tot w.1)).locals ≤ R.locals := fun h1 h2 => by
      show mj_rk k a + 1 + 1 ≤ R.frames ∧ 8 + (mj_ml k + 11) + (64 * mj_rk k a + 30) ≤ R.locals
      omega
    cases hsk : mj_sk k with
    | true =>
      rw [hsk] at hca
      simp only [cond_true] at hca
      obtain ⟨hb, hca⟩ := mj_bif hca
      simp only [Bool.and_eq_true] at hb
      cases hca
      have b1 := Nat.le_of_ble_eq_true hb.1.1
      have b2 := Nat.le_of_ble_eq_true hb.1.2
      cases i <;> first | cases hi | skip
      · rename_i ix
        simp only [mj_okE, Bool.and_eq_true, Bool.or_eq_true, Bool.not_eq_true'] at hE
        obtain ⟨-, -, hx, hm⟩ := hE
        split at hm
        · rename_i q hq
          simp only [Bool.and_eq_true, Bool.or_eq_true, Bool.not_eq_true'] at hm
          rcases hm.2 with m2 | m2
          · have := Nat.eq_of_beq_eq_true m2.1
            have hz : (!(Nat.ble 999 k)) = true := hi
            rw [this] at hz
            cases hz
          · rw [hsk] at m2
            exact absurd m2.2 (by simp)
        · cases hm
      · rename_i ix
        simp only [mj_okE, Bool.and_eq_true, Bool.or_eq_true, Bool.not_eq_true'] at hE
        obtain ⟨-, -, hx, hm⟩ := hE
        have hx := Nat.le_of_ble_eq_true hx
        have hz : (!(Nat.ble 999 k)) = true := hi
        split at hm
        · rename_i q hq
          simp only [Bool.and_eq_true, Bool.or_eq_true, Bool.not_eq_true'] at hm
          obtain ⟨m1, m2⟩ := hm
          have m1 := Nat.eq_of_beq_eq_true m1
          rcases m2 with m2 | m2
          · have hk := Nat.le_of_ble_eq_true m2.1.1
            have h8 : mj_mc k ≠ 8 := fun e => by rw [e] at m2; exact absurd m2.2 (by decide)
            obtain ⟨z1, z2, z3, -, z5, -, z7, -⟩ := mj_okz hk h8
            rw [if_pos hsk] at z1
            have hmr := mj_mr_ok hq
            unfold mj_okM at hmr
            rw [(mj_dm hx).1, (mj_dm hx).2, m1] at hmr
            have hdd : decode (mj_mb y) p = .ok (.invokestatic ix, 3) := by rw [hd, hlen]; rfl
            have hst : (u ++ r).map (mj_v b base) = ((u.reverse ++ []).map (mj_v b base)).reverse ++ r.map (mj_v b base) := by simp
            have hrr := hR b2 z7
            cases hq0 : Nat.beq q.1 0 with
            | true =>
              rw [hq0] at hmr
              simp only [cond_true] at hmr
              have n9 : Nat.beq k 999 = false := by
                cases hh : Nat.beq k 999 with
                | true => have := Nat.eq_of_beq_eq_true hh; omega
                | false => rfl
              have n10 : Nat.beq k 1000 = false := by
                cases hh : Nat.beq k 1000 with
                | true => have := Nat.eq_of_beq_eq_true hh; omega
                | false => rfl
              have n11 : Nat.beq k 1001 = false := by
                cases hh : Nat.beq k 1001 with
                | true => have := Nat.eq_of_beq_eq_true hh; omega
                | false => rfl
              rw [n9, n10, n11] at hmr
              exact mj_run (va_runS (As := (u.reverse ++ []).map (mj_v b base)) (rest := r.map (mj_v b base)) S (hM D cI cL b base) ⟨callB_of (mj_np k) C.2.2.2.2.2.2.1 (mj_goodIn z2) rfl rfl rfl (C.wd z3) (C.wd (mj_is_mem hmr)) z5 hrr, C.wd z1⟩ ⟨mj_Pc_blind D cI cL b base _ w, hpre⟩ rfl (by simp [hu]) I.2.2.1 hst (hroom b1) hdd hf) I.1 I.2.1 kk'
            | false =>
              rw [hq0] at hmr
              simp only [cond_false] at hmr
              have hnw := I.1.2.2.2.2.2.2.2 _ _ _ _ (mj_is_mem hmr)
              exact mj_run (va_runSN (As := (u.reverse ++ []).map (mj_v b base)) (rest := r.map (mj_v b base)) S (hM D cI cL b base) ⟨va_cnB (mj_np k) C.2.2.2.2.2.2.1 (mj_goodIn z2) rfl rfl rfl hnw (C.wd z3) z5 hrr, C.wd z1, trivial⟩ ⟨mj_Pc_blind D cI cL b base _ w, hpre⟩ rfl (by simp [hu]) I.2.2.1 hst (hroom b1) hdd hf) I.1 I.2.1 kk'
          · have := m2.1
            rcases this with e | e <;> (have := Nat.eq_of_beq_eq_true e; rw [this] at hz; cases hz)
        · cases hm
      · rename_i ix
        simp only [mj_okE, Bool.and_eq_true, Bool.or_eq_true, Bool.not_eq_true'] at hE
        obtain ⟨-, -, ⟨-, hE⟩, -⟩ := hE
        rw [hsk] at hE
        exact absurd hE (by simp)
    | false =>
      rw [hsk] at hca
      simp only [cond_false] at hca
      split at hca
      · rename_i o r1
        obtain ⟨hb, hca⟩ := mj_bif hca
        simp only [Bool.and_eq_true] at hb
        cases hca
        have b0 := Nat.eq_of_beq_eq_true hb.1.1.1
        have b1 := Nat.le_of_ble_eq_true hb.1.1.2
        have b2 := Nat.le_of_ble_eq_true hb.1.2
        have hst : (u ++ .ref o :: r).map (mj_v b base) = ((u.reverse ++ []).map (mj_v b base)).reverse ++ .ref (mj_ad b base o) :: r.map (mj_v b base) := by simp [mj_v]
        have h6 : ∀ {k : Nat}, k ≤ 225 → mj_sk k = false → mj_mc k ≤ 6 := by
          have := (by decide +kernel : (List.range 226).all (fun k => mj_sk k || Nat.ble (mj_mc k) 6) = true)
          intro k h1 h2
          have h3 := List.all_eq_true.mp this k (List.mem_range.mpr (by omega))
          rw [h2] at h3
          exact Nat.le_of_ble_eq_true h3
        have main : ∀ (ix : Nat), k ≤ 225 → ix ≤ 999 → (q : Nat × Nat) → mj_mr (1000 * mj_mc y + ix) = some q → q.2 = k → (((i = .invokevirtual ix) ∧ (mj_mn k).name ≠ "<init>") ∨ ((i = .invokespecial ix) ∧ (mj_mn k).name = "<init>" ∧ mj_mt k = none)) → W P l ev R s m args below meth c H locs cells slots Q (F0 m p ls ((u ++ .ref o :: r).map (mj_v b base))) := by
          intro ix hk hx q hq m1 hii
          have h8 : mj_mc k ≠ 8 := by have := h6 hk hsk; omega
          obtain ⟨z1, z2, z3, -, z5, z6, z7, -⟩ := mj_okz hk h8
          rw [if_neg (by rw [hsk]; simp)] at z1
          have hmr := mj_mr_ok hq
          unfold mj_okM at hmr
          rw [(mj_dm hx).1, (mj_dm hx).2, m1] at hmr
          have hrr := hR b2 z7
          obtain ⟨qq, rfl, hl, -, he⟩ := mj_obj I.1 b0 (h6 hk hsk)
          have hpre2 : ∀ U : State, U.heap = H → s.WarmedH U.vm → mj_Pc D cI cL b base (.ref (qq + 1) :: (u.reverse ++ [])) w (Value.ref (base + qq) :: (u.reverse ++ []).map (mj_v b base)).toArray U := hpre
          have hrec := va_recv I.1.2.2.2.2.2.1 I.1.2.2.2.2.1 (mj_cl_at (h6 hk hsk)) he
          have n9 : Nat.beq k 999 = false := by
            cases hh : Nat.beq k 999 with
            | true => have := Nat.eq_of_beq_eq_true hh; omega
            | false => rfl
          have n10 : Nat.beq k 1000 = false := by
            cases hh : Nat.beq k 1000 with
            | true => have := Nat.eq_of_beq_eq_true hh; omega
            | false => rfl
          have n11 : Nat.beq k 1001 = false := by
            cases hh : Nat.beq k 1001 with
            | true => have := Nat.eq_of_beq_eq_true hh; omega
            | false => rfl
          rw [n9, n10, n11] at hmr
          rcases hii with ⟨rfl, hnn⟩ | ⟨rfl, hnn, hmt⟩
          · have hdd : decode (mj_mb y) p = .ok (.invokevirtual ix, 3) := by rw [hd, hlen]; rfl
            have hsel : (Cond.selects (mj_cn (mj_mc k)) (mj_mn k) (mj_mn k)).before args s = true := by
              rcases z1.2 with z | z
              · exact absurd z hnn
              · rw [← z6]; exact C.wd z
            cases hq0 : Nat.beq q.1 0 with
            | true =>
              rw [hq0] at hmr
              exact mj_run (va_runV (As := (u.reverse ++ []).map (mj_v b base)) (rest := r.map (mj_v b base)) S (hM D cI cL b base) ⟨callB_of (mj_np k) C.2.2.2.2.2.2.1 (mj_goodIn z2) rfl rfl rfl (C.wd z3) (C.wd (mj_is_mem hmr)) z5 hrr, C.wd z1.1, hsel⟩ ⟨mj_Pc_blind D cI cL b base _ w, hrec, hpre2⟩ rfl (by simp [hu]) I.2.2.1 hst (hroom b1) hdd hf) I.1 I.2.1 kk'
            | false =>
              rw [hq0] at hmr
              have hnw := I.1.2.2.2.2.2.2.2 _ _ _ _ (mj_is_mem hmr)
              exact mj_run (va_runVN (As := (u.reverse ++ []).map (mj_v b base)) (rest := r.map (mj_v b base)) S (hM D cI cL b base) ⟨va_cnB (mj_np k) C.2.2.2.2.2.2.1 (mj_goodIn z2) rfl rfl rfl hnw (C.wd z3) z5 hrr, C.wd z1.1, hsel⟩ ⟨mj_Pc_blind D cI cL b base _ w, hrec, hpre2⟩ rfl (by simp [hu]) I.2.2.1 hst (hroom b1) hdd hf) I.1 I.2.1 kk'
          · have hdd : decode (mj_mb y) p = .ok (.invokespecial ix, 3) := by rw [hd, hlen]; rfl
            have hMn := hM D cI cL b base
            have hwn : mj_ws k = Cond.code (mj_mn k) (mj_mb k) (mj_ml k) none :: mj_lg := by unfold mj_ws; rw [hmt]
            cases hq0 : Nat.beq q.1 0 with
            | true =>
              rw [hq0] at hmr
              exact mj_run (va_runI (As := (u.reverse ++ []).map (mj_v b base)) (rest := r.map (mj_v b base)) S hMn ⟨callB_of (mj_np k) C.2.2.2.2.2.2.1 (mj_goodIn z2) hwn rfl rfl (C.wd z3) (C.wd (mj_is_mem hmr)) z5 hrr, hnn, C.wd z1.1⟩ ⟨mj_Pc_blind D cI cL b base _ w, hpre2⟩ rfl (by simp [hu]) I.2.2.1 hst (hroom b1) hdd hf) I.1 I.2.1 kk'
            | false =>
              rw [hq0] at hmr
              have hnw := I.1.2.2.2.2.2.2.2 _ _ _ _ (mj_is_mem hmr)
              exact mj_run (va_runIN (As := (u.reverse ++ []).map (mj_v b base)) (rest := r.map (mj_v b base)) S hMn ⟨va_cnB (mj_np k) C.2.2.2.2.2.2.1 (mj_goodIn z2) hwn rfl rfl hnw (C.wd z3) z5 hrr, hnn, C.wd z1.1⟩ ⟨mj_Pc_blind D cI cL b base _ w, hpre2⟩ rfl (by simp [hu]) I.2.2.1 hst (hroom b1) hdd hf) I.1 I.2.1 kk'
        cases i <;> first | cases hi | skip
        · rename_i ix
          simp only [mj_okE, Bool.and_eq_true, Bool.or_eq_true, Bool.not_eq_true', decide_eq_true_eq] at hE
          obtain ⟨-, -, hx, hm⟩ := hE
          split at hm
          · rename_i q hq
            simp only [Bool.and_eq_true, Bool.or_eq_true, decide_eq_true_eq] at hm
            rcases hm.2 with m2 | m2
            · have := Nat.eq_of_beq_eq_true m2.1
              have hz : (!(Nat.ble 999 k)) = true := hi
              rw [this] at hz
              cases hz
            · exact main ix (Nat.le_of_ble_eq_true m2.1.1.1) (Nat.le_of_ble_eq_true hx) q hq (Nat.eq_of_beq_eq_true hm.1) (Or.inr ⟨rfl, m2.1.1.2, m2.1.2⟩)
          · cases hm
        · rename_i ix
          simp only [mj_okE, Bool.and_eq_true, Bool.or_eq_true, Bool.not_eq_true', decide_eq_true_eq] at hE
          obtain ⟨-, -, hx, hm⟩ := hE
          split at hm
          · rename_i q hq
            simp only [Bool.and_eq_true, Bool.or_eq_true, Bool.not_eq_true', decide_eq_true_eq] at hm
            have hz : (!(Nat.ble 999 k)) = true := hi
            rcases hm.2 with m2 | m2
            · rw [hsk] at m2
              exact absurd m2.1.2 (by simp)
            · rcases m2.1 with e | e <;> (have := Nat.eq_of_beq_eq_true e; rw [this] at hz; cases hz)
          · cases hm
        · rename_i ix
          simp only [mj_okE, Bool.and_eq_true, Bool.or_eq_true, Bool.not_eq_true', decide_eq_true_eq] at hE
          obtain ⟨-, -, ⟨hx, -⟩, hm⟩ := hE
          split at hm
          · rename_i q hq
            simp only [Bool.and_eq_true, decide_eq_true_eq] at hm
            exact main ix (Nat.le_of_ble_eq_true hm.1.2) (Nat.le_of_ble_eq_true hx) q hq (Nat.eq_of_beq_eq_true hm.1.1) (Or.inl ⟨rfl, hm.2⟩)
          · cases hm
      · cases hca
end
