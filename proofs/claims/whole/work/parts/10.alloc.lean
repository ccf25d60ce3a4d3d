/-! What is made: objects and arrays. -/
theorem mj_new_ne {α : Type} {f : Nat → Nat → α} {a k : Nat} {v : α} (h : k ≠ a) : mj_new f a v k = f k := by
  funext j
  simp [mj_new, h]
theorem mj_ent_old {cI cL : ClassId} {b base : Nat} {w : mjW} {t n k : Nat} (hk : k < w.1.length) : mj_ent cI cL b base (mj_grow w t n) k = mj_ent cI cL b base w k := by
  have h1 : mj_nth (mj_grow w t n).1 k = mj_nth w.1 k := mj_nth_app hk
  have hr : (mj_grow w t n).2.1 k = w.2.1 k := mj_new_ne (Nat.ne_of_lt hk)
  have hi : (mj_grow w t n).2.2.1 k = w.2.2.1 k := mj_new_ne (Nat.ne_of_lt hk)
  have hl : (mj_grow w t n).2.2.2 k = w.2.2.2 k := mj_new_ne (Nat.ne_of_lt hk)
  simp only [mj_ent, mj_rd, h1, hr, hi, hl]
theorem mj_grow_len (w : mjW) (t n : Nat) : (mj_grow w t n).1.length = w.1.length + 1 := by simp [mj_grow]
theorem mj_grow_last (w : mjW) (t n : Nat) : mj_nth (mj_grow w t n).1 w.1.length = (t, n) := mj_nth_last _ _
theorem mj_X.grow {D : va_G} {cI cL : ClassId} {b base : Nat} {w : mjW} {s : State} {H H1 : Heap} {t n : Nat} (X : mj_X D cI cL b base w s H) (hsz : H1.size = H.size + 1) (oq : ∀ x, x < H.size → H1[x]? = H[x]?)
    (he : va_at D mj_cl (H.size, mj_ent cI cL b base (mj_grow w t n) w.1.length) H1) (hwf : ∀ c, t = c + 2 → c ≤ 6 ∧ n = mj_N c) : mj_X D cI cL b base (mj_grow w t n) s H1 := by
  obtain ⟨⟨L, x1, x2⟩, x3, x4, x5, x6, x7, x8, x9⟩ := X
  have hlen := mj_grow_len w t n
  refine ⟨⟨L, ?_, ?_⟩, by omega, by omega, x5, ?_, x7, ?_, x9⟩
  · rw [← x1]
    exact mj_nth_app x3
  · have e : (mj_grow w t n).2.2.1 0 = w.2.2.1 0 := mj_new_ne (Nat.ne_of_lt x3)
    rw [e]
    exact x2.kept (oq b (by omega))
  · intro k q hq
    obtain ⟨hk, rfl⟩ := mj_cells_in hq
    by_cases hl : k + 1 < w.1.length
    · rw [mj_ent_old hl]
      exact (x6 k _ (mj_cells_at hl)).kept (oq (base + k) (by omega))
    · have e : k + 1 = w.1.length := by omega
      rw [e, show base + k = H.size by omega]
      exact he
  · intro k c hk hl
    by_cases hl2 : k < w.1.length
    · have e : mj_nth (mj_grow w t n).1 k = mj_nth w.1 k := mj_nth_app hl2
      rw [e] at hk ⊢
      exact x8 k c hk hl2
    · have e : k = w.1.length := by omega
      subst e
      rw [mj_grow_last] at hk ⊢
      exact hwf c hk
section
variable {P : Program} {l : Launch} {ev : Env} {R : Room} {s : State} {m : MethodId} {args : Array Value} {below : List Frame} {meth : Method} {c : Code} {cells slots : Nat} {Q : State → Prop} {D : va_G} {cI cL : ClassId} {b base y p : Nat} {lo : List (Option Value)} {st : List Value} {w : mjW} {t : mjS}
def mj_Wal (P : Program) (l : Launch) (ev : Env) (R : Room) (s : State) (m : MethodId) (args : Array Value) (below : List Frame) (meth : Method) (c : Code) (cells slots : Nat) (Q : State → Prop) (D : va_G) (cI cL : ClassId) (b base y p : Nat) (lo : List (Option Value)) (st : List Value) (w : mjW) (t : mjS) : Prop :=
  ∃ tt nn, t.2.2.2 = mj_grow w tt nn ∧ (cells + 1 ≤ R.cells → slots + nn ≤ R.slots → ∀ (H : Heap) (locs : List Loc) (ls : Array Slot), mj_I D cI cL b base s y w H locs ls lo →
    (∀ (H1 : Heap) (locs1 : List Loc) (ls1 : Array Slot), mj_I D cI cL b base s y t.2.2.2 H1 locs1 ls1 t.2.1 → W P l ev R s m args below meth c H1 locs1 (cells + 1) (slots + nn) Q (F0 m t.1 ls1 (t.2.2.1.map (mj_v b base)))) →
    W P l ev R s m args below meth c H locs cells slots Q (F0 m p ls (st.map (mj_v b base))))
theorem mj_ad_len {D : va_G} {cI cL : ClassId} {w : mjW} {H : Heap} (X : mj_X D cI cL b base w s H) : mj_ad b base w.1.length = H.size := by
  have h3 := X.2.1
  have h4 := X.2.2.1
  cases hn : w.1.length with
  | zero => omega
  | succ n =>
    show base + n = H.size
    omega
theorem mj_s_new {n k ix : Nat} {k0 : Int32} (C : mj_C P m c meth s args y base) (hE : mj_okE y p (.new ix, n, k0, k) = true) (h : mj_sf y (.new ix, n, k0, k) p lo st w = some t) : mj_Wal P l ev R s m args below meth c cells slots Q D cI cL b base y p lo st w t := by
  have hd := mj_E1 hE
  obtain rfl : n = 3 := mj_E2 hE rfl (by intros; exact nofun) (by intros; exact nofun)
  simp only [mj_okE, Bool.and_eq_true, decide_eq_true_eq] at hE
  obtain ⟨-, -, ⟨hx, hcr⟩, hk⟩ := hE
  have hx := Nat.le_of_ble_eq_true hx
  have hk := Nat.le_of_ble_eq_true hk
  have hw := mj_cr_ok hcr
  rw [(mj_dm hx).1, (mj_dm hx).2] at hw
  cases h
  refine ⟨k + 2, mj_N k, rfl, fun hc hs H locs ls I kk => ?_⟩
  have hK := I.1.2.2.2.2.2.1
  have hKn := hK.1 k _ (mj_cl_at hk)
  obtain ⟨hin, hini⟩ := mj_okc_i hk
  refine W.newcK C.1 C.2.1 C.own (C.wd hw) (C.wd hin) (C.wd hini) rfl hd hc hs hKn.2.1 rfl fun H1 kC hkC e1 z1 o1 => ?_
  have K := kk H1 locs ls ⟨I.1.grow (t := k + 2) (n := mj_N k) z1 o1 ?_ (fun c0 hc0 => by cases hc0; exact ⟨hk, rfl⟩), ⟨Nat.le_trans I.2.1.1 (by omega), fun x h1 h2 => (o1 x (Nat.lt_of_lt_of_le h1 I.2.1.1)).trans (I.2.1.2.1 x h1 h2), I.2.1.2.2⟩, I.2.2⟩
  · simp only [List.map_cons, mj_v, mj_ad_len I.1] at K
    exact K
  · rw [mj_ent_o (by rw [mj_grow_last]), mj_grow_last]
    refine ⟨_, mj_cl_at hk, (u_born (mj_ty k) C.2.2.2.2.2.2.1 (mj_uin hk) hKn hkC e1 (mj_ty_ok hk)).to fun j hj => ?_⟩
    have hf := (mj_okc_f hk hj).2.2.2
    have e : vp_V ((List.range (mj_N k)).map (fun j => mj_v b base (mj_rd (mj_tc k j) (mj_grow w (k + 2) (mj_N k)) w.1.length j))) j = mj_v b base (mj_rd (mj_tc k j) (mj_grow w (k + 2) (mj_N k)) w.1.length j) := by
      unfold vp_V
      rw [List.getD_eq_getElem?_getD, List.getElem?_map, List.getElem?_range hj]
      rfl
    refine Eq.trans ?_ e.symm
    have er : (mj_grow w (k + 2) (mj_N k)).2.1 w.1.length j = none := by simp [mj_grow, mj_new]
    have ei : (mj_grow w (k + 2) (mj_N k)).2.2.1 w.1.length j = 0 := by simp [mj_grow, mj_new]
    unfold mj_rd
    rw [er, ei]
    cases hty : mj_ty k j <;> rw [hty] at hf <;> first
      | (have := Nat.eq_of_beq_eq_true hf; rw [this]; rfl)
      | cases hf
theorem mj_s_newarray {n k : Nat} {k0 : Int32} {a : ArrayType} (C : mj_C P m c meth s args y base) (hE : mj_okE y p (.newarray a, n, k0, k) = true) (h : mj_sf y (.newarray a, n, k0, k) p lo st w = some t) : mj_Wal P l ev R s m args below meth c cells slots Q D cI cL b base y p lo st w t := by
  have hd := mj_E1 hE
  obtain rfl : n = 2 := mj_E2 hE rfl (by intros; exact nofun) (by intros; exact nofun)
  obtain ⟨x, r, rfl, h2⟩ := mj_i1_of h
  replace h := h2
  obtain ⟨hx, h⟩ := mj_ite h
  have hx0 : ¬ x < 0 := fun q => hx (Or.inl q)
  have hx1 : x.toNatClampNeg ≤ 60000 := Nat.le_of_not_lt fun q => hx (Or.inr q)
  cases a with
  | int =>
    cases h
    refine ⟨0, x.toNatClampNeg, rfl, fun hc hs H locs ls I kk => ?_⟩
    refine va_newaK C.1 C.2.1 (atype := .int) (C.wd (mj_is_mem mj_arri)) rfl hd rfl hx0 rfl (by show x.toNatClampNeg * 4 ≤ _; omega) hc hs rfl fun H1 cA e1 z1 o1 hAr hNm => ?_
    have hA : cA = cI := Option.some.inj (hNm.symm.trans (I.1.2.2.2.2.2.1.2 0 (cI, .int) rfl).2)
    subst hA
    have K := kk H1 locs ls ⟨I.1.grow (t := 0) (n := x.toNatClampNeg) z1 o1 ?_ (fun c0 hc0 => by cases hc0), ⟨Nat.le_trans I.2.1.1 (by omega), fun x h1 h2 => (o1 x (Nat.lt_of_lt_of_le h1 I.2.1.1)).trans (I.2.1.2.1 x h1 h2), I.2.1.2.2⟩, I.2.2⟩
    · simp only [List.map_cons, mj_v, mj_ad_len I.1] at K
      exact K
    · rw [mj_ent_i (by rw [mj_grow_last]), mj_grow_last]
      show H1[H.size]? = some (vp_cell _ _)
      rw [e1, vp_cell_i]
      congr 2
      funext j
      simp only [mj_grow, mj_new, if_true]
      rfl
  | long =>
    cases h
    refine ⟨1, x.toNatClampNeg, rfl, fun hc hs H locs ls I kk => ?_⟩
    refine va_newaK C.1 C.2.1 (atype := .long) (C.wd (mj_is_mem mj_arrl)) rfl hd rfl hx0 rfl (by show x.toNatClampNeg * 8 ≤ _; omega) hc hs rfl fun H1 cA e1 z1 o1 hAr hNm => ?_
    have hA : cA = cL := Option.some.inj (hNm.symm.trans (I.1.2.2.2.2.2.1.2 1 (cL, .long) rfl).2)
    subst hA
    have K := kk H1 locs ls ⟨I.1.grow (t := 1) (n := x.toNatClampNeg) z1 o1 ?_ (fun c0 hc0 => by cases hc0), ⟨Nat.le_trans I.2.1.1 (by omega), fun x h1 h2 => (o1 x (Nat.lt_of_lt_of_le h1 I.2.1.1)).trans (I.2.1.2.1 x h1 h2), I.2.1.2.2⟩, I.2.2⟩
    · simp only [List.map_cons, mj_v, mj_ad_len I.1] at K
      exact K
    · rw [mj_ent_l (by rw [mj_grow_last]), mj_grow_last]
      show H1[H.size]? = some (vp_cell _ _)
      rw [e1, vp_cell_l]
      congr 2
      funext j
      simp only [mj_grow, mj_new, if_true]
      rfl
  | _ => cases h
end
