/-! fields written, switches, Math.max and min; all instructions that make nothing -/
section
variable {P : Program} {l : Launch} {ev : Env} {R : Room} {s : State} {m : MethodId} {args : Array Value} {below : List Frame} {meth : Method} {c : Code} {cells slots : Nat} {Q : State → Prop} {D : va_G} {cI cL : ClassId} {b base y p : Nat} {lo : List (Option Value)} {st : List Value} {w : mjW} {t : mjS}
theorem mj_putX {c9 j ix q : Nat} {v : Value} {w2 : mjW} {rest fs : List Value} {H : Heap} {locs : List Loc} {ls : Array Slot} (C : mj_C P m c meth s args y base) (hc : c9 ≤ 6) (hj : j < mj_N c9) (hw : Cond.fieldLink (mj_cn (mj_mc y)) ix (mj_T c9 j).1 (mj_T c9 j).2.1 (mj_T c9 j).2.2.1 ∈ lw_tbl) (hfi : mj_fi c9 j = true → (mj_mn y).name = "<init>" ∧ c9 = mj_mc y) (hd : decode (mj_mb y) p = .ok (.putfield ix, 3)) (I : mj_I D cI cL b base s y w H locs ls lo) (hl : q + 1 < w.1.length) (he : (mj_cells cI cL b base w)[q]? = some (base + q, .inr (c9, fs))) (hlen : fs.length = mj_N c9)
    (hn : narrow (mj_ty c9 j) v = v) (hfit : fits (mj_ty c9 j) v = true) (h1 : w2.1 = w.1) (hne : ∀ i, i ≠ q + 1 → mj_ent cI cL b base w2 i = mj_ent cI cL b base w i) (h0 : w2.2.2.1 0 = w.2.2.1 0) (hent : mj_ent cI cL b base w2 (q + 1) = .inr (c9, fs.set j v))
    (kk : ∀ (H1 : Heap) (locs1 : List Loc), mj_I D cI cL b base s y w2 H1 locs1 ls lo → W P l ev R s m args below meth c H1 locs1 cells slots Q (F0 m (p + 3) ls rest)) : W P l ev R s m args below meth c H locs cells slots Q (F0 m p ls (v :: .ref (base + q) :: rest)) := by
  have hin := mj_uin hc
  have hts := C.2.2.2.2.2.2.1
  have hK := I.1.2.2.2.2.2.1
  have hap := va_apart (own := mj_cn (mj_mc y)) hts hin (mj_ty c9) (mj_ty_ok hc) (mj_nm_ok hc) hK (mj_cl_at hc)
  obtain ⟨r, h1', cell, q1, q2, q3, q4⟩ := I.1.2.2.2.2.1 q _ he
  have hr : r = (mj_cn c9, mj_T c9, mj_N c9) := Option.some.inj (h1'.symm.trans (mj_cl_at hc))
  subst hr
  obtain ⟨hS, hfc, kC, hkC, hkind⟩ := hK.1 c9 _ (mj_cl_at hc)
  obtain ⟨cf, kf, fi, f, hi, hsl⟩ := hS j hj
  have hlay := hts _ (hin _ (u_in_lay hj))
  unfold u_lay at hlay
  have hst := (u_facts hfc hkC (u_lays hts hin hj) hi).1
  have fin : ∀ H' : Heap, H'[base + q]? = some (cell.setSlot f.slot v) → H'.size = H.size → (∀ x, x ≠ base + q → H'[x]? = H[x]?) → W P l ev R s m args below meth c H' (locs ++ [⟨base + q, f.slot⟩]) cells slots Q (F0 m (p + 3) ls rest) := by
    intro H' e1 e2 e3
    rw [hsl] at e1
    refine kk H' _ ⟨I.1.set h1 hl e2 e3 hne h0 ?_, I.2.1.put e2 e3 (Nat.le_add_right _ _), I.2.2⟩
    rw [hent]
    exact ⟨_, mj_cl_at hc, t_OB.to (V := updV (vp_V fs) j v) ⟨_, e1, q2, q3, t_set q4 hap hj v⟩ (fun i _ => vp_updV_set (by rw [hlen]; exact hj) v i)⟩
  have hfld := mj_okc_f hc hj
  cases hb : (mj_T c9 j).2.2.2 with
  | false =>
    rw [if_neg (by rw [hb]; decide)] at hlay
    have h6 := u_store hfc hkC hkind hlay hi (mj_ty_ok hc j hj) hn hfit
    exact W.putK C.1 C.2.1 (f := f) ⟨C.own, C.wd hw, ⟨_, _, _, hi⟩, hst⟩ (by rw [q2]; exact h6) q1 q3 (by rw [hsl]; exact k2_hasslot (q4 j hj)) rfl rfl hd fin
  | true =>
    rw [if_pos hb] at hlay
    obtain ⟨hin2, hcy⟩ := hfi (by rw [← hfld.2.1]; exact hb)
    have hcf : m.cls = cf := by
      obtain ⟨_, _, c', _, _, _, -, -, hf', -, -, -, hown2, -⟩ := Cond.laysFinal_spec hlay
      have e1 : c' = cf := by have := hi.symm.trans hf'; simp at this; exact this.1.symm
      rw [hfld.2.2.1, hcy] at hown2
      rw [← e1]; exact Option.some.inj (C.own.symm.trans hown2)
    have h6 := u_fits hfc hkC hkind (Or.inr hlay) hi (mj_ty_ok hc j hj) hn hfit
    exact W.putFinK C.1 C.2.1 C.own (C.wd hw) hi hst hcf (C.2.2.2.2.2.1.trans hin2) (by rw [q2]; exact h6) q1 q3 (by rw [hsl]; exact k2_hasslot (q4 j hj)) rfl rfl hd fin
theorem mj_s_putfield {n k ix : Nat} {k0 : Int32} (C : mj_C P m c meth s args y base) (hE : mj_okE y p (.putfield ix, n, k0, k) = true) (h : mj_sf y (.putfield ix, n, k0, k) p lo st w = some t) : mj_Wto P l ev R s m args below meth c cells slots Q D cI cL b base y p lo st w t := by
  have hd := mj_E1 hE
  obtain rfl : n = 3 := mj_E2 hE rfl (by intros; exact nofun) (by intros; exact nofun)
  obtain ⟨hc, hf, hw⟩ := mj_E9 (Or.inr hE)
  have hfi : mj_fi (k / 64) (k % 64) = true → (mj_mn y).name = "<init>" ∧ k / 64 = mj_mc y := by
    intro hb
    simp only [mj_okE, Bool.and_eq_true, Bool.or_eq_true, decide_eq_true_eq, Bool.not_eq_true'] at hE
    rcases hE.2.2.2 with z | z
    · rw [hb] at z; cases z
    · exact ⟨z.1, Nat.eq_of_beq_eq_true z.2⟩
  obtain ⟨-, -, -, htc⟩ := mj_okc_f hc hf
  obtain ⟨a, v, r, rfl, h2⟩ := mj_av_of h
  replace h := h2
  obtain ⟨ht, h⟩ := mj_bif h
  have ht := Nat.eq_of_beq_eq_true ht
  unfold mj_pf at h
  generalize hty : mj_ty (k / 64) (k % 64) = ty at htc
  cases h0 : Nat.beq (mj_tc (k / 64) (k % 64)) 0 with
  | true =>
    rw [h0] at h
    have e0 := Nat.eq_of_beq_eq_true h0
    have et : ty = .int := by
      cases ty <;> simp only [e0] at htc <;> first | rfl | cases htc
    subst et
    cases v with
    | int x =>
      cases h
      refine ⟨rfl, fun H locs ls I kk => ?_⟩
      obtain ⟨q, rfl, hl, -, he⟩ := mj_obj I.1 ht hc
      have hn9 : (mj_nth w.1 (q + 1)).2 = mj_N (k / 64) := (I.1.2.2.2.2.2.2.1 (q + 1) _ ht hl).2
      refine mj_putX C hc hf hw hfi hd I hl he (by simp) (w2 := (w.1, w.2.1, mj_up w.2.2.1 (q + 1) (k % 64) x, w.2.2.2)) (v := .int x) (by rw [hty]; rfl) (by rw [hty]; rfl) rfl (fun i hi => mj_ent_congr rfl rfl (mj_up_ne hi) rfl) (mj_up_ne (f := w.2.2.1) (a := q + 1) (k := k % 64) (v := x) (show 0 ≠ q + 1 by omega)) ?_ (fun H1 locs1 I1 => kk H1 locs1 ls I1)
      refine (mj_ent_o (w := (w.1, w.2.1, mj_up w.2.2.1 (q + 1) (k % 64) x, w.2.2.2)) ht).trans ?_
      congr 2
      show (List.range (mj_nth w.1 (q + 1)).2).map _ = _
      rw [hn9]
      refine (mj_map_set (k := k % 64) (f := fun j => mj_v b base (mj_rd (mj_tc (k / 64) j) w (q + 1) j)) fun j hj => ?_).trans ?_
      · simp only [mj_rd, mj_up_at, if_neg hj]
      · simp only [mj_rd, mj_up_at, if_true, e0]
        rfl
    | _ => cases h
  | false =>
    rw [h0] at h
    cases h1 : Nat.beq (mj_tc (k / 64) (k % 64)) 1 with
    | true =>
      rw [h1] at h
      have e1 := Nat.eq_of_beq_eq_true h1
      have et : ty = .boolean := by
        cases ty <;> simp only [e1] at htc <;> first | rfl | cases htc
      subst et
      cases v with
      | int x =>
        have h : (if x = 0 ∨ x = 1 then some (p + 3, lo, r, w.1, w.2.1, mj_up w.2.2.1 a (k % 64) x, w.2.2.2) else none) = some t := h
        by_cases hx : x = 0 ∨ x = 1
        · rw [if_pos hx] at h
          cases h
          refine ⟨rfl, fun H locs ls I kk => ?_⟩
          obtain ⟨q, rfl, hl, -, he⟩ := mj_obj I.1 ht hc
          have hn9 : (mj_nth w.1 (q + 1)).2 = mj_N (k / 64) := (I.1.2.2.2.2.2.2.1 (q + 1) _ ht hl).2
          refine mj_putX C hc hf hw hfi hd I hl he (by simp) (w2 := (w.1, w.2.1, mj_up w.2.2.1 (q + 1) (k % 64) x, w.2.2.2)) (v := .int x) (by rw [hty]; rcases hx with rfl | rfl <;> rfl) (by rw [hty]; rcases hx with rfl | rfl <;> rfl) rfl (fun i hi => mj_ent_congr rfl rfl (mj_up_ne hi) rfl) (mj_up_ne (f := w.2.2.1) (a := q + 1) (k := k % 64) (v := x) (show 0 ≠ q + 1 by omega)) ?_ (fun H1 locs1 I1 => kk H1 locs1 ls I1)
          refine (mj_ent_o (w := (w.1, w.2.1, mj_up w.2.2.1 (q + 1) (k % 64) x, w.2.2.2)) ht).trans ?_
          congr 2
          show (List.range (mj_nth w.1 (q + 1)).2).map _ = _
          rw [hn9]
          refine (mj_map_set (k := k % 64) (f := fun j => mj_v b base (mj_rd (mj_tc (k / 64) j) w (q + 1) j)) fun j hj => ?_).trans ?_
          · simp only [mj_rd, mj_up_at, if_neg hj]
          · simp only [mj_rd, mj_up_at, if_true, e1]
            rfl
        · rw [if_neg hx] at h
          cases h
      | _ => cases h
    | false =>
      rw [h1] at h
      have hty2 : (∃ u, ty = .array u) ∨ ∃ u, ty = .object u := by
        cases ty with
        | array u => exact Or.inl ⟨u, rfl⟩
        | object u => exact Or.inr ⟨u, rfl⟩
        | int => rw [h0] at htc; cases htc
        | boolean => rw [h1] at htc; cases htc
        | _ => cases htc
      have e2 : Nat.beq (mj_tc (k / 64) (k % 64)) 2 = true := by
        rcases hty2 with ⟨u, rfl⟩ | ⟨u, rfl⟩ <;> exact htc
      cases v with
      | ref x =>
        cases h
        refine ⟨rfl, fun H locs ls I kk => ?_⟩
        obtain ⟨q, rfl, hl, -, he⟩ := mj_obj I.1 ht hc
        have hn9 : (mj_nth w.1 (q + 1)).2 = mj_N (k / 64) := (I.1.2.2.2.2.2.2.1 (q + 1) _ ht hl).2
        refine mj_putX C hc hf hw hfi hd I hl he (by simp) (w2 := (w.1, mj_up w.2.1 (q + 1) (k % 64) (some x), w.2.2.1, w.2.2.2)) (v := .ref (mj_ad b base x)) (by rw [hty]; rcases hty2 with ⟨u, rfl⟩ | ⟨u, rfl⟩ <;> rfl) (by rw [hty]; rcases hty2 with ⟨u, rfl⟩ | ⟨u, rfl⟩ <;> rfl) rfl (fun i hi => mj_ent_congr rfl (mj_up_ne hi) rfl rfl) rfl ?_ (fun H1 locs1 I1 => kk H1 locs1 ls I1)
        refine (mj_ent_o (w := (w.1, mj_up w.2.1 (q + 1) (k % 64) (some x), w.2.2.1, w.2.2.2)) ht).trans ?_
        congr 2
        show (List.range (mj_nth w.1 (q + 1)).2).map _ = _
        rw [hn9]
        refine (mj_map_set (k := k % 64) (f := fun j => mj_v b base (mj_rd (mj_tc (k / 64) j) w (q + 1) j)) fun j hj => ?_).trans ?_
        · simp only [mj_rd, mj_up_at, if_neg hj]
        · simp only [mj_rd, mj_up_at, if_true, e2, cond_true]
          rfl
      | _ => cases h
theorem mj_sw_in {p d : Nat} {x : Int32} : ∀ (offs : List Int) (ps : List (Int32 × Nat)) (a : Int), mj_okl p a offs ps = true → ¬ x.toInt < a → x.toInt < a + offs.length → ∃ o, offs[(x.toInt - a).toNat]? = some o ∧ (p : Int) + o = (mj_sw ps d x : Int)
  | [], _, a, _, h1, h2 => absurd h2 (by simp; omega)
  | o :: os, [], a, h, _, _ => by cases h
  | o :: os, q :: qs, a, h, h1, h2 => by
    simp only [mj_okl, Bool.and_eq_true, decide_eq_true_eq] at h
    obtain ⟨⟨e1, e2⟩, e3⟩ := h
    by_cases hx : x.toInt = a
    · refine ⟨o, by rw [hx, Int.sub_self]; rfl, ?_⟩
      have : x = q.1 := Int32.toInt_inj.mp (by rw [hx, e1])
      simp only [mj_sw, if_pos this]
      exact e2
    · have hlen : ((o :: os).length : Int) = os.length + 1 := by simp
      obtain ⟨o', g1, g2⟩ := mj_sw_in (p := p) (d := d) (x := x) os qs (a + 1) e3 (by omega) (by omega)
      refine ⟨o', ?_, ?_⟩
      · rw [show (x.toInt - a).toNat = (x.toInt - (a + 1)).toNat + 1 by omega, List.getElem?_cons_succ]
        exact g1
      · have : ¬ x = q.1 := fun e => hx (by rw [e, e1])
        simp only [mj_sw, if_neg this]
        exact g2
theorem mj_sw_out {p d : Nat} {x : Int32} : ∀ (offs : List Int) (ps : List (Int32 × Nat)) (a : Int), mj_okl p a offs ps = true → x.toInt < a ∨ a + offs.length ≤ x.toInt → mj_sw ps d x = d
  | [], [], a, _, _ => rfl
  | [], _ :: _, a, h, _ => by cases h
  | o :: os, [], a, h, _ => by cases h
  | o :: os, q :: qs, a, h, h1 => by
    simp only [mj_okl, Bool.and_eq_true, decide_eq_true_eq] at h
    obtain ⟨⟨e1, e2⟩, e3⟩ := h
    have hlen : ((o :: os).length : Int) = os.length + 1 := by simp
    have : ¬ x = q.1 := fun e => by rw [e, e1] at h1; omega
    simp only [mj_sw, if_neg this]
    exact mj_sw_out os qs (a + 1) e3 (by omega)
theorem mj_sw_look {p d : Nat} {x : Int32} {dd : Int} (hd : (p : Int) + dd = (d : Int)) : ∀ (offs : List (Int × Int)) (ps : List (Int32 × Nat)), mj_okp p offs ps = true → (p : Int) + Op.lookupswitch.offset offs dd x.toInt = (mj_sw ps d x : Int)
  | [], [], _ => hd
  | [], _ :: _, h => by cases h
  | o :: os, [], h => by cases h
  | o :: os, q :: qs, h => by
    obtain ⟨o1, o2⟩ := o
    simp only [mj_okp, Bool.and_eq_true, decide_eq_true_eq] at h
    obtain ⟨⟨e1, e2⟩, e3⟩ := h
    rw [Op.lookupswitch.offset_cons]
    by_cases hx : x = q.1
    · simp only [mj_sw, if_pos hx]
      rw [if_pos (by rw [hx, e1])]
      exact e2
    · simp only [mj_sw, if_neg hx]
      rw [if_neg (fun e => hx (Int32.toInt_inj.mp (by rw [e1, e])))]
      exact mj_sw_look hd os qs e3
theorem mj_s_tableswitch {n k : Nat} {k0 : Int32} {dd a z : Int} {offs : Array Int} (C : mj_C P m c meth s args y base) (hE : mj_okE y p (.tableswitch dd a z offs, n, k0, k) = true) (h : mj_sf y (.tableswitch dd a z offs, n, k0, k) p lo st w = some t) : mj_Wto P l ev R s m args below meth c cells slots Q D cI cL b base y p lo st w t := by
  have hd := mj_E1 hE
  have h : (match mj_sr (2000 * y + p) with
    | some q => mj_i1 st fun x r => some (mj_sw q.1 q.2 x, lo, r, w)
    | none => none) = some t := h
  simp only [mj_okE, Bool.and_eq_true] at hE
  have hE := hE.2
  cases hq : mj_sr (2000 * y + p) with
  | none => rw [hq] at h; cases h
  | some q =>
    rw [hq] at h
    simp only [hq, Bool.and_eq_true, decide_eq_true_eq] at hE
    obtain ⟨⟨e1, e2⟩, e3⟩ := hE
    obtain ⟨x, r, rfl, h2⟩ := mj_i1_of h
    replace h := h2
    cases h
    refine ⟨rfl, fun H locs ls I kk => ?_⟩
    by_cases hx : x.toInt < a ∨ z < x.toInt
    · have e4 : mj_sw q.1 q.2 x = q.2 := mj_sw_out offs.toList q.1 a e1 (by omega)
      exact lv_tableOut C.1 C.2.1 hd hx (by rw [e4]; exact e2) (kk H locs ls I)
    · obtain ⟨o, g1, g2⟩ := mj_sw_in (d := q.2) (x := x) offs.toList q.1 a e1 (by omega) (by omega)
      exact lv_tableIn C.1 C.2.1 hd (fun q => hx (Or.inl q)) (fun q => hx (Or.inr q)) (by rw [← Array.getElem?_toList]; exact g1) g2 (kk H locs ls I)
theorem mj_s_lookupswitch {n k : Nat} {k0 : Int32} {dd : Int} {offs : Array (Int × Int)} (C : mj_C P m c meth s args y base) (hE : mj_okE y p (.lookupswitch dd offs, n, k0, k) = true) (h : mj_sf y (.lookupswitch dd offs, n, k0, k) p lo st w = some t) : mj_Wto P l ev R s m args below meth c cells slots Q D cI cL b base y p lo st w t := by
  have hd := mj_E1 hE
  have h : (match mj_sr (2000 * y + p) with
    | some q => mj_i1 st fun x r => some (mj_sw q.1 q.2 x, lo, r, w)
    | none => none) = some t := h
  simp only [mj_okE, Bool.and_eq_true] at hE
  have hE := hE.2
  cases hq : mj_sr (2000 * y + p) with
  | none => rw [hq] at h; cases h
  | some q =>
    rw [hq] at h
    simp only [hq, Bool.and_eq_true, decide_eq_true_eq] at hE
    obtain ⟨⟨e1, e2⟩, e3⟩ := hE
    obtain ⟨x, r, rfl, h2⟩ := mj_i1_of h
    replace h := h2
    cases h
    refine ⟨rfl, fun H locs ls I kk => ?_⟩
    exact lv_lookup C.1 C.2.1 hd e3 rfl (mj_sw_look e2 offs.toList q.1 e1) (kk H locs ls I)
theorem mj_s_mm {n k ix : Nat} {k0 : Int32} (C : mj_C P m c meth s args y base) (hR : 1 ≤ R.frames ∧ 30 ≤ R.locals ∧ cells ≤ R.cells ∧ slots ≤ R.slots) (hn : mj_isc (.invokestatic ix, n, k0, k) = false) (hE : mj_okE y p (.invokestatic ix, n, k0, k) = true) (h : mj_sf y (.invokestatic ix, n, k0, k) p lo st w = some t) : mj_Wto P l ev R s m args below meth c cells slots Q D cI cL b base y p lo st w t := by
  have hd := mj_E1 hE
  obtain rfl : n = 3 := mj_E2 hE rfl (by intros; exact nofun) (by intros; exact nofun)
  have hz : 999 ≤ k := by
    have : (!(Nat.ble 999 k)) = false := hn
    cases hb : Nat.ble 999 k with
    | true => exact Nat.le_of_ble_eq_true hb
    | false => rw [hb] at this; cases this
  have key : (k = 1000 ∧ Cond.methodLink (mj_cn (mj_mc y)) ix Jvm.Lib.Math.max.name ∈ lw_tbl) ∨ (k = 1001 ∧ Cond.methodLink (mj_cn (mj_mc y)) ix Jvm.Lib.Math.min.name ∈ lw_tbl) := by
    simp only [mj_okE, Bool.and_eq_true, Bool.or_eq_true] at hE
    obtain ⟨-, -, hx, hm⟩ := hE
    have hx := Nat.le_of_ble_eq_true hx
    split at hm
    · rename_i q hq
      simp only [Bool.and_eq_true, Bool.or_eq_true] at hm
      obtain ⟨m1, m2⟩ := hm
      have m1 := Nat.eq_of_beq_eq_true m1
      have r := mj_mr_ok hq
      unfold mj_okM at r
      rcases m2 with m2 | m2
      · have := Nat.le_of_ble_eq_true m2.1.1
        omega
      · rw [m2.2, (mj_dm hx).1, (mj_dm hx).2, m1] at r
        rcases m2.1 with e | e
        · have e := Nat.eq_of_beq_eq_true e
          subst e
          exact Or.inl ⟨rfl, mj_is_mem r⟩
        · have e := Nat.eq_of_beq_eq_true e
          subst e
          exact Or.inr ⟨rfl, mj_is_mem r⟩
    · cases hm
  obtain ⟨x, z, r, rfl, h2⟩ := mj_i2_of h
  replace h := h2
  obtain ⟨hc, h⟩ := mj_bif h
  have hc := Nat.le_of_ble_eq_true hc
  rcases key with ⟨rfl, hw⟩ | ⟨rfl, hw⟩
  · cases h
    refine ⟨rfl, fun H locs ls I kk => ?_⟩
    exact va_mmax C.1 C.2.1 (by rw [C.2.2.2.1]; exact I.2.2.1.symm) C.own (C.wd hw) (C.wd mj_mxS) (C.wd (mj_is_mem mj_mxI)) (C.wd mj_mxC) hR.1 (by rw [mj_cat_map]; omega) hR.2.2.1 hR.2.2.2 hd (kk H locs ls I)
  · cases h
    refine ⟨rfl, fun H locs ls I kk => ?_⟩
    exact va_mmin C.1 C.2.1 (by rw [C.2.2.2.1]; exact I.2.2.1.symm) C.own (C.wd hw) (C.wd mj_mnS) (C.wd (mj_is_mem mj_mxI)) (C.wd mj_mnC) hR.1 (by rw [mj_cat_map]; omega) hR.2.2.1 hR.2.2.2 hd (kk H locs ls I)
def mj_isa : Instr → Bool
  | .new _ => true
  | .newarray _ => true
  | _ => false
theorem mj_step {e : mjE} (C : mj_C P m c meth s args y base) (hR : 1 ≤ R.frames ∧ 30 ≤ R.locals ∧ cells ≤ R.cells ∧ slots ≤ R.slots) (hn : mj_isc e = false) (ha : mj_isa e.1 = false) (hE : mj_okE y p e = true) (h : mj_sf y e p lo st w = some t) : mj_Wto P l ev R s m args below meth c cells slots Q D cI cL b base y p lo st w t := by
  obtain ⟨i, n, k0, k⟩ := e
  cases i with
  | iconst _ => exact mj_s_iconst C hE h
  | bipush _ => exact mj_s_bipush C hE h
  | sipush _ => exact mj_s_sipush C hE h
  | ldc _ => exact mj_s_ldc C hE h
  | ldc_w _ => exact mj_s_ldc_w C hE h
  | lconst _ => exact mj_s_lconst C hE h
  | ldc2_w _ => exact mj_s_ldc2_w C hE h
  | iload_n _ => exact mj_s_iload_n C hE h
  | iload _ => exact mj_s_iload C hE h
  | lload_n _ => exact mj_s_lload_n C hE h
  | lload _ => exact mj_s_lload C hE h
  | aload_n _ => exact mj_s_aload_n C hE h
  | istore_n _ => exact mj_s_istore_n C hE h
  | istore _ => exact mj_s_istore C hE h
  | lstore_n _ => exact mj_s_lstore_n C hE h
  | lstore _ => exact mj_s_lstore C hE h
  | astore_n _ => exact mj_s_astore_n C hE h
  | iinc _ _ => exact mj_s_iinc C hE h
  | dup => exact mj_s_dup C hE h
  | dup2 => exact mj_s_dup2 C hE h
  | pop => exact mj_s_pop C hE h
  | iadd => exact mj_s_iadd C hE h
  | isub => exact mj_s_isub C hE h
  | imul => exact mj_s_imul C hE h
  | iand => exact mj_s_iand C hE h
  | ior => exact mj_s_ior C hE h
  | ixor => exact mj_s_ixor C hE h
  | idiv => exact mj_s_idiv C hE h
  | irem => exact mj_s_irem C hE h
  | ineg => exact mj_s_ineg C hE h
  | ishl => exact mj_s_ishl C hE h
  | ishr => exact mj_s_ishr C hE h
  | iushr => exact mj_s_iushr C hE h
  | ladd => exact mj_s_ladd C hE h
  | lsub => exact mj_s_lsub C hE h
  | lmul => exact mj_s_lmul C hE h
  | land => exact mj_s_land C hE h
  | lor => exact mj_s_lor C hE h
  | lxor => exact mj_s_lxor C hE h
  | ldiv => exact mj_s_ldiv C hE h
  | lrem => exact mj_s_lrem C hE h
  | lshl => exact mj_s_lshl C hE h
  | lushr => exact mj_s_lushr C hE h
  | i2l => exact mj_s_i2l C hE h
  | l2i => exact mj_s_l2i C hE h
  | lcmp => exact mj_s_lcmp C hE h
  | goto _ => exact mj_s_goto C hE h
  | ifCond _ _ => exact mj_s_ifCond C hE h
  | if_icmp _ _ => exact mj_s_if_icmp C hE h
  | tableswitch _ _ _ _ => exact mj_s_tableswitch C hE h
  | lookupswitch _ _ => exact mj_s_lookupswitch C hE h
  | getfield _ => exact mj_s_getfield C hE h
  | putfield _ => exact mj_s_putfield C hE h
  | arraylength => exact mj_s_arraylength C hE h
  | iaload => exact mj_s_iaload C hE h
  | laload => exact mj_s_laload C hE h
  | iastore => exact mj_s_iastore C hE h
  | lastore => exact mj_s_lastore C hE h
  | invokespecial _ => exact mj_s_objinit C ⟨hR.1, by omega⟩ hn hE h
  | invokestatic _ => exact mj_s_mm C hR hn hE h
  | new _ => cases ha
  | newarray _ => cases ha
  | _ => cases h
end
