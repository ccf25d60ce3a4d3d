/-! The small machine without fuel, and its rules. -/
theorem mj_go_mono : ∀ (n d y p : Nat) (lo : List (Option Value)) (st : List Value) (w : mjW) (r : mjR), mj_go n d y p lo st w = some r → mj_go (n + 1) d y p lo st w = some r := by
  intro n
  induction n with
  | zero => intro d y p lo st w r h; cases h
  | succ n ih =>
    intro d y p lo st w r h
    unfold mj_go at h ⊢
    cases hco : mj_co y p with
    | none => rw [hco] at h; cases h
    | some e =>
      rw [hco] at h
      simp only at h ⊢
      cases hr : mj_isr e.1 with
      | true =>
        rw [hr] at h
        exact h
      | false =>
        rw [hr] at h
        simp only [cond_false] at h ⊢
        cases hc : mj_isc e with
        | true =>
          rw [hc] at h
          simp only [cond_true] at h ⊢
          cases hca : mj_ca d e.2.2.2 st w with
          | none => rw [hca] at h; cases h
          | some q =>
            rw [hca] at h
            simp only at h ⊢
            cases hg : mj_go n (mj_rk e.2.2.2 q.1) e.2.2.2 0 (mj_lo e.2.2.2 q.1) [] w with
            | none => rw [hg] at h; cases h
            | some t =>
              rw [hg] at h
              rw [ih _ _ _ _ _ _ _ hg]
              exact ih _ _ _ _ _ _ _ h
        | false =>
          rw [hc] at h
          simp only [cond_false] at h ⊢
          cases hs : mj_sf y e p lo st w with
          | none => rw [hs] at h; cases h
          | some t =>
            rw [hs] at h
            exact ih _ _ _ _ _ _ _ h
theorem mj_go_le {n k d y p : Nat} {lo : List (Option Value)} {st : List Value} {w : mjW} {r : mjR} (h : mj_go n d y p lo st w = some r) (hk : n ≤ k) : mj_go k d y p lo st w = some r := by
  induction hk with
  | refl => exact h
  | step _ ih => exact mj_go_mono _ _ _ _ _ _ _ _ ih
noncomputable def mj_ev (d y : Nat) (S : mjS) : Option mjR := @dite _ (∃ r : mjR, ∃ n : Nat, mj_go n d y S.1 S.2.1 S.2.2.1 S.2.2.2 = some r) (Classical.propDecidable _) (fun h => some (Classical.choose h)) (fun _ => none)
theorem mj_ev_iff {d y : Nat} {S : mjS} {r : mjR} : mj_ev d y S = some r ↔ ∃ n, mj_go n d y S.1 S.2.1 S.2.2.1 S.2.2.2 = some r := by
  unfold mj_ev
  by_cases h : ∃ r : mjR, ∃ n : Nat, mj_go n d y S.1 S.2.1 S.2.2.1 S.2.2.2 = some r
  · rw [dif_pos h]
    obtain ⟨n, hn⟩ := Classical.choose_spec h
    constructor
    · intro e
      rw [← Option.some.inj e]
      exact ⟨n, hn⟩
    · rintro ⟨k, hk⟩
      have h1 := mj_go_le hn (Nat.le_max_left n k)
      have h2 := mj_go_le hk (Nat.le_max_right n k)
      rw [h1] at h2
      exact h2
  · rw [dif_neg h]
    constructor
    · intro e; cases e
    · rintro ⟨k, hk⟩
      exact absurd ⟨r, k, hk⟩ h
theorem mj_ext {α : Type} {a b : Option α} (h : ∀ r, a = some r ↔ b = some r) : a = b := by
  cases ha : a with
  | none =>
    cases hb : b with
    | none => rfl
    | some r => rw [ha] at h; exact ((h r).mpr hb)
  | some r =>
    exact ((h r).mp ha).symm
/-- an instruction that is no call and no end -/
noncomputable def mj_q1 (y : Nat) (S : mjS) : Option (Option mjS) := match mj_co y S.1 with
  | none => none
  | some e => bif mj_isr e.1 then none else bif mj_isc e then none else some (mj_sf y e S.1 S.2.1 S.2.2.1 S.2.2.2)
noncomputable def mj_ss : Nat → Nat → mjS → Option mjS
  | 0, _, S => some S
  | n + 1, y, S => match mj_q1 y S with
    | some (some T) => mj_ss n y T
    | _ => none
theorem mj_q1_of {y : Nat} {S : mjS} {o : Option mjS} (h : mj_q1 y S = some o) : ∃ e, mj_co y S.1 = some e ∧ mj_isr e.1 = false ∧ mj_isc e = false ∧ mj_sf y e S.1 S.2.1 S.2.2.1 S.2.2.2 = o := by
  unfold mj_q1 at h
  cases hco : mj_co y S.1 with
  | none => rw [hco] at h; cases h
  | some e =>
    rw [hco] at h
    simp only at h
    cases hr : mj_isr e.1 with
    | true => rw [hr] at h; cases h
    | false =>
      rw [hr] at h
      cases hc : mj_isc e with
      | true => rw [hc] at h; cases h
      | false =>
        rw [hc] at h
        exact ⟨e, by first | rfl | exact hco, by first | rfl | exact hr, by first | rfl | exact hc, Option.some.inj h⟩
theorem mj_ev_1 {d y : Nat} {S T : mjS} (h : mj_q1 y S = some (some T)) : mj_ev d y S = mj_ev d y T := by
  obtain ⟨e, h1, h2, h3, h4⟩ := mj_q1_of h
  refine mj_ext fun r => ?_
  rw [mj_ev_iff, mj_ev_iff]
  constructor
  · rintro ⟨n, hn⟩
    cases n with
    | zero => cases hn
    | succ n =>
      unfold mj_go at hn
      simp only [h1, h2, h3, h4, cond_false] at hn
      exact ⟨n, hn⟩
  · rintro ⟨n, hn⟩
    refine ⟨n + 1, ?_⟩
    unfold mj_go
    simp only [h1, h2, h3, h4, cond_false]
    exact hn
theorem mj_ev_0 {d y : Nat} {S : mjS} (h : mj_q1 y S = some none) : mj_ev d y S = none := by
  obtain ⟨e, h1, h2, h3, h4⟩ := mj_q1_of h
  refine mj_ext fun r => ?_
  rw [mj_ev_iff]
  constructor
  · rintro ⟨n, hn⟩
    cases n with
    | zero => cases hn
    | succ n =>
      unfold mj_go at hn
      simp only [h1, h2, h3, h4, cond_false] at hn
      cases hn
  · intro hn; cases hn
theorem mj_ev_ss {d y : Nat} : ∀ (k : Nat) {S T : mjS}, mj_ss k y S = some T → mj_ev d y S = mj_ev d y T
  | 0, S, T, h => by
    cases h
    rfl
  | k + 1, S, T, h => by
    unfold mj_ss at h
    split at h
    · rename_i U hU
      exact (mj_ev_1 hU).trans (mj_ev_ss k h)
    · cases h
theorem mj_ev_c {d y : Nat} {S : mjS} {e : mjE} {a r : List Value} (h1 : mj_co y S.1 = some e) (h2 : mj_isr e.1 = false) (h3 : mj_isc e = true) (h4 : mj_ca d e.2.2.2 S.2.2.1 S.2.2.2 = some (a, r)) :
    mj_ev d y S = (mj_ev (mj_rk e.2.2.2 a) e.2.2.2 (0, mj_lo e.2.2.2 a, [], S.2.2.2)).bind fun t => mj_ev d y (S.1 + 3, S.2.1, t.1.toList ++ r, t.2) := by
  refine mj_ext fun q => ?_
  rw [mj_ev_iff, Option.bind_eq_some_iff]
  constructor
  · rintro ⟨n, hn⟩
    cases n with
    | zero => cases hn
    | succ n =>
      unfold mj_go at hn
      simp only [h1, h2, h3, h4, cond_false, cond_true] at hn
      cases hg : mj_go n (mj_rk e.2.2.2 a) e.2.2.2 0 (mj_lo e.2.2.2 a) [] S.2.2.2 with
      | none => rw [hg] at hn; cases hn
      | some t =>
        rw [hg] at hn
        exact ⟨t, mj_ev_iff.mpr ⟨n, hg⟩, mj_ev_iff.mpr ⟨n, hn⟩⟩
  · rintro ⟨t, ht, hq⟩
    obtain ⟨n, hn⟩ := mj_ev_iff.mp ht
    obtain ⟨k, hk⟩ := mj_ev_iff.mp hq
    refine ⟨Nat.max n k + 1, ?_⟩
    unfold mj_go
    simp only [h1, h2, h3, h4, cond_false, cond_true]
    have g1 : mj_go (Nat.max n k) (mj_rk e.2.2.2 a) e.2.2.2 0 (mj_lo e.2.2.2 a) [] S.2.2.2 = some t := mj_go_le hn (Nat.le_max_left n k)
    rw [g1]
    exact mj_go_le hk (Nat.le_max_right n k)
theorem mj_ev_r {d y : Nat} {S : mjS} {e : mjE} {o : Option mjR} (h1 : mj_co y S.1 = some e) (h2 : mj_isr e.1 = true) (h3 : mj_rt y e.1 S.2.2.1 S.2.2.2 = o) : mj_ev d y S = o := by
  refine mj_ext fun q => ?_
  rw [mj_ev_iff]
  constructor
  · rintro ⟨n, hn⟩
    cases n with
    | zero => cases hn
    | succ n =>
      unfold mj_go at hn
      simp only [h1, h2, h3, cond_true] at hn
      exact hn
  · intro hn
    refine ⟨1, ?_⟩
    unfold mj_go
    simp only [h1, h2, h3, cond_true]
    exact hn
/-! methods that make nothing and write no references -/
noncomputable def mj_qe (y : Nat) : Bool := Nat.ble y 225 && !(Nat.beq (mj_mc y) 8) && decide ((mj_mn y).name ≠ "<init>")
noncomputable def mj_qi (e : mjE) : Bool := !(mj_isa e.1) && (match e.1 with
  | .putfield _ => !(Nat.beq (mj_tc (e.2.2.2 / 64) (e.2.2.2 % 64)) 2)
  | _ => true) && (!(mj_isc e) || mj_qe e.2.2.2)
set_option maxRecDepth 100000 in
theorem mj_qa : (List.range 226).all (fun y => !(mj_qe y) || (List.range (mj_sz y)).all (fun p => match mj_co y p with
  | none => true
  | some e => mj_qi e)) = true := by decide +kernel
theorem mj_qc {y p : Nat} {e : mjE} (hy : mj_qe y = true) (h : mj_co y p = some e) : mj_qi e = true := by
  obtain ⟨h1, h2⟩ := mj_cob h
  have hy2 : y < 226 := by
    unfold mj_qe at hy
    simp only [Bool.and_eq_true] at hy
    have := Nat.le_of_ble_eq_true hy.1.1
    omega
  have h3 := List.all_eq_true.mp mj_qa y (List.mem_range.mpr hy2)
  rw [hy] at h3
  simp only [Bool.not_true, Bool.false_or] at h3
  have h4 := List.all_eq_true.mp h3 p (List.mem_range.mpr h2)
  simp only [h] at h4
  exact h4
theorem mj_pf_rf {tt p a k : Nat} {l : List (Option Value)} {w : mjW} {v : Value} {r : List Value} {t : mjS} (ht : tt ≠ 2) (ht2 : tt = 0 ∨ tt = 1 ∨ tt = 2) (h : mj_pf tt p l w a k v r = some t) : t.2.2.2.2.1 = w.2.1 := by
  unfold mj_pf at h
  rcases ht2 with rfl | rfl | rfl
  · cases v <;> cases h
    rfl
  · cases v with
    | int x =>
      have h : (if x = 0 ∨ x = 1 then some (p, l, r, w.1, w.2.1, mj_up w.2.2.1 a k x, w.2.2.2) else none) = some t := h
      by_cases hx : x = 0 ∨ x = 1
      · rw [if_pos hx] at h
        cases h
        rfl
      · rw [if_neg hx] at h
        cases h
    | _ => cases h
  · exact absurd rfl ht
theorem mj_tc3 (c k : Nat) : mj_tc c k = 0 ∨ mj_tc c k = 1 ∨ mj_tc c k = 2 := by
  have bb : ∀ (q : Bool) (a b : Nat), (a = 0 ∨ a = 1 ∨ a = 2) → (b = 0 ∨ b = 1 ∨ b = 2) → ((bif q then a else b) = 0 ∨ (bif q then a else b) = 1 ∨ (bif q then a else b) = 2) := by
    intro q a b h1 h2
    cases q
    · exact h2
    · exact h1
  unfold mj_tc
  repeat' first
    | exact Or.inl rfl
    | exact Or.inr (Or.inl rfl)
    | exact Or.inr (Or.inr rfl)
    | refine bb _ _ _ ?_ ?_
theorem mj_sf_rf {y p : Nat} {e : mjE} {lo : List (Option Value)} {st : List Value} {w : mjW} {t : mjS} (hq : mj_qi e = true) (h : mj_sf y e p lo st w = some t) : t.2.2.2.2.1 = w.2.1 := by
  obtain ⟨i, n, k0, k⟩ := e
  unfold mj_qi at hq
  simp only [Bool.and_eq_true] at hq
  have ha : mj_isa i = false := by
    have := hq.1.1
    cases hh : mj_isa i with
    | false => rfl
    | true => simp only [hh] at this; cases this
  cases i <;> first
    | (cases ha; done)
    | (cases h; done)
    | (cases h; rfl)
    | (obtain ⟨x, r, -, h2⟩ := mj_i1_of h; cases h2; rfl)
    | (obtain ⟨x, z, r, -, h2⟩ := mj_i2_of h; cases h2; rfl)
    | (obtain ⟨x, r, -, h2⟩ := mj_l1_of h; cases h2; rfl)
    | (obtain ⟨x, z, r, -, h2⟩ := mj_l2_of h; cases h2; rfl)
    | (obtain ⟨x, z, r, -, h2⟩ := mj_li_of h; cases h2; rfl)
    | (obtain ⟨x, r, -, h2⟩ := mj_a1_of h; cases h2; rfl)
    | (obtain ⟨x, -, h2⟩ := mj_ldi_of h; cases h2; rfl)
    | (obtain ⟨x, -, h2⟩ := mj_ldl_of h; cases h2; rfl)
    | (obtain ⟨x, -, h2⟩ := mj_lda_of h; cases h2; rfl)
    | (obtain ⟨v, r, -, -, h2⟩ := mj_d1_of h; cases h2; rfl)
    | (obtain ⟨v, r, -, -, h2⟩ := mj_d1_of h; obtain ⟨v, r, -, -, h2⟩ := mj_d1_of h2; cases h2; rfl)
    | (obtain ⟨x, z, r, -, h2⟩ := mj_i2_of h; obtain ⟨-, h2⟩ := mj_ite h2; cases h2; rfl)
    | (obtain ⟨x, z, r, -, h2⟩ := mj_l2_of h; obtain ⟨-, h2⟩ := mj_ite h2; cases h2; rfl)
    | (obtain ⟨x, r, -, h2⟩ := mj_i1_of h; rcases mj_ic_of h2 with rfl | rfl <;> rfl)
    | (obtain ⟨x, z, r, -, h2⟩ := mj_i2_of h; rcases mj_ic_of h2 with rfl | rfl <;> rfl)
    | (obtain ⟨x, r, -, h2⟩ := mj_a1_of h; obtain ⟨-, h2⟩ := mj_bif h2; cases h2; rfl)
    | (obtain ⟨a, i, r, -, h2⟩ := mj_ai_of h; obtain ⟨-, h2⟩ := mj_bif h2; obtain ⟨-, h2⟩ := mj_ite h2; cases h2; rfl)
    | (obtain ⟨a, i, x, r, -, h2⟩ := mj_aii_of h; obtain ⟨-, h2⟩ := mj_bif h2; obtain ⟨-, h2⟩ := mj_ite h2; cases h2; rfl)
    | (obtain ⟨a, i, x, r, -, h2⟩ := mj_ail_of h; obtain ⟨-, h2⟩ := mj_bif h2; obtain ⟨-, h2⟩ := mj_ite h2; cases h2; rfl)
    | (obtain ⟨a, v, r, -, h2⟩ := mj_av_of h; obtain ⟨-, h2⟩ := mj_bif h2; exact mj_pf_rf (fun e => by have hq2 := hq.1.2; simp only [e] at hq2; cases hq2) (mj_tc3 _ _) h2)
    | (obtain ⟨x, z, r, -, h2⟩ := mj_i2_of h; obtain ⟨-, h2⟩ := mj_bif h2; cases hz : Nat.beq k 1000 <;> rw [hz] at h2 <;> cases h2 <;> rfl)
    | (cases hq9 : mj_lr (1000 * mj_mc y + _) <;> simp only [mj_sf, hq9] at h <;> cases h <;> rfl)
    | (unfold mj_sf at h; simp only at h; split at h <;> first | (cases h; rfl) | (obtain ⟨x, r, -, h2⟩ := mj_i1_of h; cases h2; rfl) | (cases h; done))
def mj_vk (t : Option FieldType) (v : Option Value) : Prop := match t with
  | none => v = none
  | some .long => ∃ x, v = some (.long x)
  | _ => ∃ x, v = some (.int x)
theorem mj_quiet : ∀ (n d y p : Nat) (lo : List (Option Value)) (st : List Value) (w : mjW) (v : Option Value) (w' : mjW), mj_qe y = true → mj_go n d y p lo st w = some (v, w') → w'.1 = w.1 ∧ w'.2.1 = w.2.1 ∧ mj_vk (mj_mt y) v := by
  intro n
  induction n with
  | zero => intro d y p lo st w v w' _ h; cases h
  | succ n ih =>
    intro d y p lo st w v w' hy h
    unfold mj_go at h
    cases hco : mj_co y p with
    | none => rw [hco] at h; cases h
    | some e =>
      rw [hco] at h
      simp only at h
      have hE := mj_coE hco
      have hq := mj_qc hy hco
      cases hr : mj_isr e.1 with
      | true =>
        rw [hr] at h
        simp only [cond_true] at h
        obtain ⟨i, n1, k0, k⟩ := e
        obtain ⟨rfl, -, -, hk⟩ := mj_rt_of hE hr h
        refine ⟨rfl, rfl, ?_⟩
        cases i <;> first
          | exact hk.elim
          | skip
        · cases v with
          | none => exact hk.elim
          | some v =>
            cases v with
            | int x =>
              rcases hk with hk | ⟨hk, -⟩ <;> rw [hk] <;> exact ⟨x, rfl⟩
            | _ => exact hk.elim
        · cases v with
          | none => exact hk.elim
          | some v =>
            cases v with
            | long x =>
              have hk : mj_mt y = some .long := hk
              rw [hk]
              exact ⟨x, rfl⟩
            | _ => exact hk.elim
        · cases v with
          | none =>
            have hk : mj_mt y = none := hk
            rw [hk]
            rfl
          | some v => exact hk.elim
      | false =>
        rw [hr] at h
        simp only [cond_false] at h
        cases hc : mj_isc e with
        | true =>
          rw [hc] at h
          simp only [cond_true] at h
          cases hca : mj_ca d e.2.2.2 st w with
          | none => rw [hca] at h; cases h
          | some q =>
            rw [hca] at h
            simp only at h
            cases hg : mj_go n (mj_rk e.2.2.2 q.1) e.2.2.2 0 (mj_lo e.2.2.2 q.1) [] w with
            | none => rw [hg] at h; cases h
            | some t =>
              rw [hg] at h
              have hz : mj_qe e.2.2.2 = true := by
                unfold mj_qi at hq
                rw [hc] at hq
                simp only [Bool.and_eq_true, Bool.not_true, Bool.false_or] at hq
                exact hq.2
              obtain ⟨a1, a2, -⟩ := ih _ _ _ _ _ _ t.1 t.2 hz hg
              obtain ⟨b1, b2, b3⟩ := ih _ _ _ _ _ _ _ _ hy h
              exact ⟨b1.trans a1, b2.trans a2, b3⟩
        | false =>
          rw [hc] at h
          simp only [cond_false] at h
          cases hs : mj_sf y e p lo st w with
          | none => rw [hs] at h; cases h
          | some t =>
            rw [hs] at h
            have ha : mj_isa e.1 = false := by
              unfold mj_qi at hq
              simp only [Bool.and_eq_true] at hq
              cases hh : mj_isa e.1 with
              | false => rfl
              | true => rw [hh] at hq; exact absurd hq.1.1 (by simp)
            obtain ⟨b1, b2, b3⟩ := ih _ _ _ _ _ _ _ _ hy h
            exact ⟨b1.trans (mj_sf_sh ha hs), b2.trans (mj_sf_rf hq hs), b3⟩
