/-! THE CLAIM OUT OF ONE WALK OF THE LAW'S BODY. Your part is whole_start (and what it stands on); all else here is the same for every law, but numbers. -/
def R_law : String := "TwoGoodOfEightLaw"
def lw_P (b : Addr) (xs : List Int32) (args : Array Value) (s : State) : Prop := args = #[.ref b] ∧ s.IntsAt b xs ∧ xs.length ≤ 2560 ∧ (Jvm.Cond.and given_1 narrow_1).before args s = true
def lw_Q (_ : Array Value) (s : State) (o : Outcome) (t : State) : Prop := o = .returned (some (.int 1)) ∧ Framed s o t [] 600000 7302250
def lw_Z (below : List Frame) (a : Array Value) (s : State) : State → Prop := fun t => ∃ o, t.status = .running ∧ Ended t below o ∧ lw_Q a s o t
/-- the law's own end, with 1 on the stack, nothing written that was there before, its room as the claim has it -/
theorem lw_ret {p : Program} {l : Launch} {e : Env} {s : State} {m : MethodId} {below : List Frame} {meth : Method} {c : Code} {b : Nat} (hx : p.tables.exec = Jvm.exec) (hb : c.code = code) (hr : meth.sig.returnType = ret) (hlocks : meth.locks = false) {pc : Nat} {H : Heap} {ls : Array Slot} (hdg : decode code pc = .ok (.ireturn, 1)) : W p l e room_1 s m #[Value.ref b] below meth c H [] 600000 7302250 (lw_Z below #[Value.ref b] s) (F0 m pc ls [.int 1]) := by
  intro T hT X
  obtain ⟨fs, hret, hrun, hended, hW, hframe⟩ := X.leave (v := some (.int 1)) (hlocks := hlocks) (fun h => by rw [hr] at h; cases h)
  have hmeth' : T.vm.method? m = some meth := X.method'
  refine ⟨T.setFrames fs, ?_, .returned (some (.int 1)), hrun, hended, rfl, ⟨_, rfl⟩, hW, hframe⟩
  jvm_step X.here [X.here.top, hx, hb, hdg, hmeth', hr, ret, narrow_b1]
  (try refine ⟨rfl, ?_⟩); (try refine ⟨rfl, ?_⟩)
  first | (intro acts; rw [hret _ acts rfl rfl rfl]) | rw [hret _ _ rfl rfl rfl]
  exact Steps.refl _
/-- what holds at the law's entry: the machine, the code, the tables' words (any of lw_tbl by 'hts w (by decide +kernel)'), the script of L ints xs at the cell b, what the Statement gives of the start (any of its parts by flat_of_before) -/
def lw_At (p : Program) (s : State) (m : MethodId) (meth : Method) (c : Code) (b L : Nat) (xs : Nat → Int32) : Prop :=
  p.tables.exec = Jvm.exec ∧ c.code = code ∧ meth.sig.returnType = ret ∧ c.maxLocals = 4 ∧ s.vm.findClass R_law = some m.cls ∧ (∀ w ∈ lw_tbl, w.before #[Value.ref b] s = true) ∧ va_X b L xs s s.heap ∧ b < s.heap.size ∧ meth.locks = false ∧ (Jvm.Cond.and given_1 narrow_1).before #[Value.ref b] s = true ∧ meth.name = "law"
/-- the world at the start: the script alone -/
def mj_world0 (L : Nat) (xs : Nat → Int32) : mjW := ([(0, L)], fun _ _ => none, fun k j => if k = 0 then xs j else 0, fun _ _ => 0)
theorem mj_start {p : Program} {e : Env} {s : State} {m : MethodId} {below : List Frame} {meth : Method} {c : Code} (l : Launch) {b L : Nat} {xs : Nat → Int32} (C0 : lw_At p s m meth c b L xs) {n d : Nat} {w' : mjW} (hd : d ≤ 100) (h : mj_go n d 226 0 [some (.ref 0), none, none, none] [] (mj_world0 L xs) = some (some (.int 1), w')) (hc : w'.1.length ≤ 600000) (ht : mj_tot w'.1 ≤ L + 7302250) :
    W p l e room_1 s m #[Value.ref b] below meth c s.heap [] 0 0 (lw_Z below #[Value.ref b] s) (entryFrame m ([Value.ref b] : List Value).toArray 4) := by
  obtain ⟨hx, hb, hr, hml, hown, hts, hX, hbl, hlocks, hgv, hnm⟩ := C0
  have hlg : ∀ q ∈ mj_lg, q.before #[Value.ref b] s = true := fun q hq => hts q (List.mem_filter.mp hq).1
  have kn : ∀ k, k ≤ 6 → ∃ (cC : ClassId) (iS : Nat → Nat), u_Kn s (mj_cn k) (mj_T k) (mj_N k) cC iS := fun k hk =>
    u_known (n := mj_N k) hlg (mj_uin hk) (hts _ (mj_okc_i hk).1)
  obtain ⟨c0, i0, k0⟩ := kn 0 (by omega)
  obtain ⟨c1, i1, k1⟩ := kn 1 (by omega)
  obtain ⟨c2, i2, k2⟩ := kn 2 (by omega)
  obtain ⟨c3, i3, k3⟩ := kn 3 (by omega)
  obtain ⟨c4, i4, k4⟩ := kn 4 (by omega)
  obtain ⟨c5, i5, k5⟩ := kn 5 (by omega)
  obtain ⟨c6, i6, k6⟩ := kn 6 (by omega)
  obtain ⟨cI, kI, compI, hI1, hI2, hI3⟩ := Cond.arrayClass_spec (hts _ (mj_is_mem mj_arri))
  obtain ⟨cL, kL, compL, hL1, hL2, hL3⟩ := Cond.arrayClass_spec (hts _ (mj_is_mem mj_arrl))
  obtain ⟨D, hK⟩ : ∃ D : va_G, va_K D mj_cl [(cI, .int), (cL, .long)] s := by
    refine ⟨(fun k => [c0, c1, c2, c3, c4, c5, c6].getD k 0, fun k => [i0, i1, i2, i3, i4, i5, i6].getD k i0), fun k q hq => ?_, fun k q hq => ?_⟩
    · match k, hq with
      | 0, hq => cases hq; exact k0
      | 1, hq => cases hq; exact k1
      | 2, hq => cases hq; exact k2
      | 3, hq => cases hq; exact k3
      | 4, hq => cases hq; exact k4
      | 5, hq => cases hq; exact k5
      | 6, hq => cases hq; exact k6
      | k + 7, hq => cases hq
    · match k, hq with
      | 0, hq => cases hq; exact ⟨fun n z => ⟨fun k h => (by cases h), kI, hI2, compI, hI3⟩, hI1⟩
      | 1, hq => cases hq; exact ⟨fun n z => ⟨fun k h => (by cases h), kL, hL2, compL, hL3⟩, hL1⟩
      | k + 2, hq => cases hq
  have C : mj_C p m c meth s #[Value.ref b] 226 s.heap.size := ⟨hx, hb, hr, hml, hown, hnm, hlg, Nat.le_refl _⟩
  have X : mj_X D cI cL b s.heap.size (mj_world0 L xs) s s.heap := by
    refine ⟨⟨L, rfl, hX⟩, Nat.zero_lt_one, rfl, hbl, (fun k q hq => by cases hq), hK, fun k q h1 h2 => ?_, fun a i x hh hm => va_Nw.of rfl (hts _ hm)⟩
    have : k = 0 := by
      have h2 : k < 1 := h2
      omega
    subst this
    cases h1
  have hl := lv_entry ([.ref b]) (n := 4) (Nat.le_of_ble_eq_true rfl)
  rw [lg_entry_eq]
  obtain ⟨⟨x, hx1⟩, hW⟩ := mj_main l n d 226 0 _ _ _ _ _ h
  have g1 : w'.1.length = 1 + x.length := by rw [hx1, List.length_append]; rfl
  have g2 : mj_tot w'.1 = L + mj_tot x := by
    rw [hx1, mj_tot_app]
    rfl
  have g3 : mj_tot (mj_world0 L xs).1 = L := rfl
  have g4 : (mj_world0 L xs).1.length = 1 := rfl
  have r1 : d + 1 ≤ room_1.frames := by
    show d + 1 ≤ 2048
    omega
  have r2 : 64 * d + 30 ≤ room_1.locals := by
    show 64 * d + 30 ≤ 84000
    omega
  have r3 : w'.1.length - (mj_world0 L xs).1.length ≤ 600000 := by omega
  have r4 : mj_tot w'.1 - mj_tot (mj_world0 L xs).1 ≤ 7302250 := by omega
  refine hW p e room_1 s m #[Value.ref b] below meth c s.heap [] 0 0 _ _ (lw_Z below #[Value.ref b] s) D cI cL b s.heap.size _ C ⟨X, va_S.rf, hl.1, hl.2.1, fun i u hu => ?_⟩ r1 r2 (Nat.zero_add _).symm (Nat.zero_add _).symm r3 r4 ?_
  · match i, hu with
    | 0, hu =>
      cases hu
      exact hl.2.2 (0, .ref b) List.mem_cons_self
    | 1, hu => cases hu
    | 2, hu => cases hu
    | 3, hu => cases hu
    | i + 4, hu => cases hu
  · intro p' ls' H' locs' i hdd hrk hX' hS'
    refine va_forget (fun q hq => hS'.2.2 q hq) ?_
    refine W.widen (k := 600000) (n := 7302250) r3 r4 ?_
    cases i <;> first
      | exact hrk.elim
      | skip
    exact lw_ret hx hb hr hlocks hdd
