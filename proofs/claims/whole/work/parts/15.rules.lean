/-! The world behind the constructors: its shape and its references stay; ints and longs change. And the rules by which a method is read. -/
abbrev mMI : Type := Nat → Nat → Int32
abbrev mML : Type := Nat → Nat → Int64
def mj_SH (L : Nat) : List (Nat × Nat) := (0, L) :: [(7, 11), (3, 12), (0, 8), (0, 8), (0, 8), (0, 10), (0, 10), (3, 12), (0, 8), (0, 8), (0, 8), (0, 10), (0, 10), (3, 12), (0, 8), (0, 8), (0, 8), (0, 10), (0, 10), (5, 2), (0, 96), (0, 10), (0, 7), (6, 10), (1, 256), (1, 256), (0, 256), (0, 5), (0, 20), (1, 20), (2, 5), (0, 20), (1, 20), (1, 21), (4, 14), (0, 28), (0, 28), (0, 8), (0, 8), (0, 8), (0, 8), (8, 54), (0, 7), (0, 8), (0, 8), (0, 8), (0, 10), (0, 10), (0, 96), (0, 48), (0, 48), (0, 144), (0, 48), (0, 48), (0, 120), (0, 256), (0, 9), (0, 20), (0, 21), (1, 20), (1, 22), (0, 20), (1, 20), (0, 28), (0, 28), (0, 8), (0, 8), (0, 1000), (0, 1000), (0, 8), (0, 8), (0, 10)]
noncomputable def mj_MR (a k : Nat) : Option Nat := (bif Nat.ble a 14 then (bif Nat.ble a 2 then (bif Nat.ble a 1 then (bif Nat.beq a 1 then (bif Nat.ble k 4 then (bif Nat.ble k 1 then (bif Nat.ble k 0 then (bif Nat.beq k 0 then some 2 else none) else (bif Nat.beq k 1 then some 8 else none)) else (bif Nat.ble k 2 then (bif Nat.beq k 2 then some 14 else none) else (bif Nat.beq k 4 then some 20 else none))) else (bif Nat.ble k 7 then (bif Nat.ble k 5 then (bif Nat.beq k 5 then some 22 else none) else (bif Nat.beq k 7 then some 23 else none)) else (bif Nat.ble k 8 then (bif Nat.beq k 8 then some 24 else none) else (bif Nat.ble k 9 then (bif Nat.beq k 9 then some 31 else none) else (bif Nat.beq k 10 then some 35 else none))))) else none) else (bif Nat.beq a 2 then (bif Nat.ble k 2 then (bif Nat.ble k 1 then (bif Nat.beq k 1 then some 3 else none) else (bif Nat.beq k 2 then some 4 else none)) else (bif Nat.ble k 3 then (bif Nat.beq k 3 then some 5 else none) else (bif Nat.ble k 10 then (bif Nat.beq k 10 then some 6 else none) else (bif Nat.beq k 11 then some 7 else none)))) else none)) else (bif Nat.ble a 8 then (bif Nat.beq a 8 then (bif Nat.ble k 2 then (bif Nat.ble k 1 then (bif Nat.beq k 1 then some 9 else none) else (bif Nat.beq k 2 then some 10 else none)) else (bif Nat.ble k 3 then (bif Nat.beq k 3 then some 11 else none) else (bif Nat.ble k 10 then (bif Nat.beq k 10 then some 12 else none) else (bif Nat.beq k 11 then some 13 else none)))) else none) else (bif Nat.beq a 14 then (bif Nat.ble k 2 then (bif Nat.ble k 1 then (bif Nat.beq k 1 then some 15 else none) else (bif Nat.beq k 2 then some 16 else none)) else (bif Nat.ble k 3 then (bif Nat.beq k 3 then some 17 else none) else (bif Nat.ble k 10 then (bif Nat.beq k 10 then some 18 else none) else (bif Nat.beq k 11 then some 19 else none)))) else none))) else (bif Nat.ble a 24 then (bif Nat.ble a 20 then (bif Nat.beq a 20 then (bif Nat.beq k 0 then some 21 else none) else none) else (bif Nat.beq a 24 then (bif Nat.ble k 2 then (bif Nat.ble k 0 then (bif Nat.beq k 0 then some 25 else none) else (bif Nat.ble k 1 then (bif Nat.beq k 1 then some 26 else none) else (bif Nat.beq k 2 then some 27 else none))) else (bif Nat.ble k 3 then (bif Nat.beq k 3 then some 28 else none) else (bif Nat.ble k 4 then (bif Nat.beq k 4 then some 29 else none) else (bif Nat.beq k 5 then some 30 else none)))) else none)) else (bif Nat.ble a 31 then (bif Nat.beq a 31 then (bif Nat.ble k 0 then (bif Nat.beq k 0 then some 32 else none) else (bif Nat.ble k 1 then (bif Nat.beq k 1 then some 33 else none) else (bif Nat.beq k 2 then some 34 else none))) else none) else (bif Nat.ble a 35 then (bif Nat.beq a 35 then (bif Nat.ble k 3 then (bif Nat.ble k 0 then (bif Nat.beq k 0 then some 36 else none) else (bif Nat.ble k 1 then (bif Nat.beq k 1 then some 37 else none) else (bif Nat.beq k 3 then some 38 else none))) else (bif Nat.ble k 4 then (bif Nat.beq k 4 then some 39 else none) else (bif Nat.ble k 5 then (bif Nat.beq k 5 then some 40 else none) else (bif Nat.beq k 6 then some 41 else none)))) else none) else (bif Nat.beq a 42 then (bif Nat.ble k 29 then (bif Nat.ble k 13 then (bif Nat.ble k 2 then (bif Nat.ble k 0 then (bif Nat.beq k 0 then some 43 else none) else (bif Nat.ble k 1 then (bif Nat.beq k 1 then some 44 else none) else (bif Nat.beq k 2 then some 45 else none))) else (bif Nat.ble k 4 then (bif Nat.ble k 3 then (bif Nat.beq k 3 then some 46 else none) else (bif Nat.beq k 4 then some 47 else none)) else (bif Nat.ble k 5 then (bif Nat.beq k 5 then some 48 else none) else (bif Nat.beq k 13 then some 49 else none)))) else (bif Nat.ble k 17 then (bif Nat.ble k 15 then (bif Nat.ble k 14 then (bif Nat.beq k 14 then some 50 else none) else (bif Nat.beq k 15 then some 51 else none)) else (bif Nat.ble k 16 then (bif Nat.beq k 16 then some 52 else none) else (bif Nat.beq k 17 then some 53 else none))) else (bif Nat.ble k 24 then (bif Nat.ble k 18 then (bif Nat.beq k 18 then some 54 else none) else (bif Nat.beq k 24 then some 55 else none)) else (bif Nat.ble k 28 then (bif Nat.beq k 28 then some 56 else none) else (bif Nat.beq k 29 then some 57 else none))))) else (bif Nat.ble k 38 then (bif Nat.ble k 32 then (bif Nat.ble k 30 then (bif Nat.beq k 30 then some 58 else none) else (bif Nat.ble k 31 then (bif Nat.beq k 31 then some 59 else none) else (bif Nat.beq k 32 then some 60 else none))) else (bif Nat.ble k 35 then (bif Nat.ble k 33 then (bif Nat.beq k 33 then some 61 else none) else (bif Nat.beq k 35 then some 62 else none)) else (bif Nat.ble k 36 then (bif Nat.beq k 36 then some 63 else none) else (bif Nat.beq k 38 then some 64 else none)))) else (bif Nat.ble k 47 then (bif Nat.ble k 40 then (bif Nat.ble k 39 then (bif Nat.beq k 39 then some 65 else none) else (bif Nat.beq k 40 then some 66 else none)) else (bif Nat.ble k 41 then (bif Nat.beq k 41 then some 67 else none) else (bif Nat.beq k 47 then some 68 else none))) else (bif Nat.ble k 49 then (bif Nat.ble k 48 then (bif Nat.beq k 48 then some 69 else none) else (bif Nat.beq k 49 then some 70 else none)) else (bif Nat.ble k 51 then (bif Nat.beq k 51 then some 71 else none) else (bif Nat.beq k 52 then some 72 else none)))))) else none)))))
noncomputable def mj_mk (L : Nat) (i : mMI) (l : mML) : mjW := (mj_SH L, mj_MR, i, l)
noncomputable def mj_E (d y p : Nat) (lo : List (Option Value)) (st : List Value) (L : Nat) (i : mMI) (l : mML) : Option mjR := mj_ev d y (p, lo, st, mj_mk L i l)
def mj_tI (o : Option mjR) : Option (Int32 × mMI × mML) := match o with
  | some (some (.int r), w) => some (r, w.2.2.1, w.2.2.2)
  | _ => none
def mj_tJ (o : Option mjR) : Option (Int64 × mMI × mML) := match o with
  | some (some (.long r), w) => some (r, w.2.2.1, w.2.2.2)
  | _ => none
def mj_tV (o : Option mjR) : Option (mMI × mML) := match o with
  | some (none, w) => some (w.2.2.1, w.2.2.2)
  | _ => none
/-- the second answers all that the first does -/
def mj_le {α : Type} (A B : Option α) : Prop := ∀ r, A = some r → B = some r
def mj_ll : List (Option Value) → List (Option Value) → Prop
  | [], [] => True
  | none :: a, _ :: b => mj_ll a b
  | some v :: a, u :: b => u = some v ∧ mj_ll a b
  | _, _ => False
/-! fewer locals -/
theorem mj_ll_at : ∀ (a b : List (Option Value)), mj_ll a b → a.length = b.length ∧ ∀ i v, mj_at a i = some v → mj_at b i = some v
  | [], [], _ => ⟨rfl, fun i v h => h⟩
  | none :: a, u :: b, h => by
    obtain ⟨h1, h2⟩ := mj_ll_at a b h
    refine ⟨by simp [h1], fun i v hv => ?_⟩
    cases i with
    | zero => cases hv
    | succ i => exact h2 i v hv
  | some v :: a, u :: b, h => by
    obtain ⟨h1, h2⟩ := mj_ll_at a b h.2
    refine ⟨by simp [h1], fun i w hw => ?_⟩
    cases i with
    | zero =>
      cases hw
      exact h.1
    | succ i => exact h2 i w hw
  | [], u :: b, h => h.elim
  | none :: a, [], h => h.elim
  | some v :: a, [], h => h.elim
def mj_sub9 (a b : List (Option Value)) : Prop := a.length = b.length ∧ ∀ i v, mj_at a i = some v → mj_at b i = some v
theorem mj_set_len (l : List (Option Value)) (i : Nat) (v : Option Value) : (mj_set l i v).length = l.length := by
  induction l generalizing i with
  | nil => rfl
  | cons u l ih =>
    cases i with
    | zero => rfl
    | succ i => simp only [mj_set, List.length_cons, ih]
theorem mj_k2_len (l : List (Option Value)) (i : Nat) : (mj_k2 l i).length = l.length := by
  cases i with
  | zero => rfl
  | succ n =>
    cases h : mj_at l n with
    | none => simp only [mj_k2, h]
    | some w =>
      simp only [mj_k2, h]
      cases Nat.beq w.category 2
      · rfl
      · exact mj_set_len _ _ _
theorem mj_at_set_lt {l : List (Option Value)} {i : Nat} {x : Option Value} (h : i < l.length) : mj_at (mj_set l i x) i = x := by
  induction l generalizing i with
  | nil => simp at h
  | cons u l ih =>
    cases i with
    | zero => rfl
    | succ i =>
      simp only [List.length_cons] at h
      exact ih (i := i) (by omega)
theorem mj_at_lt {l : List (Option Value)} {i : Nat} {v : Value} (h : mj_at l i = some v) : i < l.length := by
  induction l generalizing i with
  | nil => cases h
  | cons u l ih =>
    cases i with
    | zero => simp
    | succ i =>
      have := ih (i := i) h
      simp only [List.length_cons]
      omega
theorem mj_sub_k2 {a b : List (Option Value)} (h : mj_sub9 a b) (i : Nat) : mj_sub9 (mj_k2 a i) (mj_k2 b i) := by
  refine ⟨by rw [mj_k2_len, mj_k2_len]; exact h.1, fun j v hv => ?_⟩
  obtain ⟨h1, h2⟩ := mj_at_k2 hv
  have hb := h.2 j v h1
  cases i with
  | zero => exact hb
  | succ n =>
    cases hn : mj_at b n with
    | none => simp only [mj_k2, hn]; exact hb
    | some w =>
      simp only [mj_k2, hn]
      cases hw : Nat.beq w.category 2 with
      | false => exact hb
      | true =>
        simp only [cond_true]
        by_cases e : j = n
        · subst e
          rw [hb] at hn
          cases hn
          exact absurd ⟨rfl, Nat.eq_of_beq_eq_true hw⟩ h2
        · rw [mj_at_set_ne e]
          exact hb
theorem mj_sub_set {a b : List (Option Value)} (h : mj_sub9 a b) (i : Nat) (x : Option Value) : mj_sub9 (mj_set a i x) (mj_set b i x) := by
  refine ⟨by rw [mj_set_len, mj_set_len]; exact h.1, fun j v hv => ?_⟩
  by_cases e : j = i
  · subst e
    have hl := mj_at_lt hv
    rw [mj_set_len, h.1] at hl
    rw [mj_at_set_lt hl]
    exact mj_at_set_eq hv
  · rw [mj_at_set_ne e] at hv ⊢
    exact h.2 j v hv
theorem mj_sub_put {a b : List (Option Value)} (h : mj_sub9 a b) (i : Nat) (v : Value) : mj_sub9 (mj_put a i v) (mj_put b i v) := mj_sub_set (mj_sub_k2 h i) _ _
theorem mj_sub_put2 {a b : List (Option Value)} (h : mj_sub9 a b) (i : Nat) (v : Value) : mj_sub9 (mj_put2 a i v) (mj_put2 b i v) := mj_sub_set (mj_sub_set (mj_sub_k2 h i) _ _) _ _
def mj_sl9 (o o' : Option mjS) : Prop := ∀ t, o = some t → ∃ lo', o' = some (t.1, lo', t.2.2) ∧ mj_sub9 t.2.1 lo'
theorem mj_sl9_s {a b : List (Option Value)} (h : mj_sub9 a b) {p : Nat} {r : List Value} {w : mjW} : mj_sl9 (some (p, a, r, w)) (some (p, b, r, w)) := fun t ht => by
  cases ht
  exact ⟨b, rfl, h⟩
theorem mj_sl9_n {o : Option mjS} : mj_sl9 none o := fun t ht => by cases ht
theorem mj_sl9_i1 {s : List Value} {f g : Int32 → List Value → Option mjS} (h : ∀ a r, mj_sl9 (f a r) (g a r)) : mj_sl9 (mj_i1 s f) (mj_i1 s g) := by
  unfold mj_i1
  split
  · exact h _ _
  · exact mj_sl9_n
theorem mj_sl9_i2 {s : List Value} {f g : Int32 → Int32 → List Value → Option mjS} (h : ∀ a b r, mj_sl9 (f a b r) (g a b r)) : mj_sl9 (mj_i2 s f) (mj_i2 s g) := by
  unfold mj_i2
  split
  · exact h _ _ _
  · exact mj_sl9_n
theorem mj_sl9_l1 {s : List Value} {f g : Int64 → List Value → Option mjS} (h : ∀ a r, mj_sl9 (f a r) (g a r)) : mj_sl9 (mj_l1 s f) (mj_l1 s g) := by
  unfold mj_l1
  split
  · exact h _ _
  · exact mj_sl9_n
theorem mj_sl9_l2 {s : List Value} {f g : Int64 → Int64 → List Value → Option mjS} (h : ∀ a b r, mj_sl9 (f a b r) (g a b r)) : mj_sl9 (mj_l2 s f) (mj_l2 s g) := by
  unfold mj_l2
  split
  · exact h _ _ _
  · exact mj_sl9_n
theorem mj_sl9_li {s : List Value} {f g : Int64 → Int32 → List Value → Option mjS} (h : ∀ a b r, mj_sl9 (f a b r) (g a b r)) : mj_sl9 (mj_li s f) (mj_li s g) := by
  unfold mj_li
  split
  · exact h _ _ _
  · exact mj_sl9_n
theorem mj_sl9_a1 {s : List Value} {f g : Nat → List Value → Option mjS} (h : ∀ a r, mj_sl9 (f a r) (g a r)) : mj_sl9 (mj_a1 s f) (mj_a1 s g) := by
  unfold mj_a1
  split
  · exact h _ _
  · exact mj_sl9_n
theorem mj_sl9_ai {s : List Value} {f g : Nat → Int32 → List Value → Option mjS} (h : ∀ a b r, mj_sl9 (f a b r) (g a b r)) : mj_sl9 (mj_ai s f) (mj_ai s g) := by
  unfold mj_ai
  split
  · exact h _ _ _
  · exact mj_sl9_n
theorem mj_sl9_aii {s : List Value} {f g : Nat → Int32 → Int32 → List Value → Option mjS} (h : ∀ a b c r, mj_sl9 (f a b c r) (g a b c r)) : mj_sl9 (mj_aii s f) (mj_aii s g) := by
  unfold mj_aii
  split
  · exact h _ _ _ _
  · exact mj_sl9_n
theorem mj_sl9_ail {s : List Value} {f g : Nat → Int32 → Int64 → List Value → Option mjS} (h : ∀ a b c r, mj_sl9 (f a b c r) (g a b c r)) : mj_sl9 (mj_ail s f) (mj_ail s g) := by
  unfold mj_ail
  split
  · exact h _ _ _ _
  · exact mj_sl9_n
theorem mj_sl9_av {s : List Value} {f g : Nat → Value → List Value → Option mjS} (h : ∀ a b r, mj_sl9 (f a b r) (g a b r)) : mj_sl9 (mj_av s f) (mj_av s g) := by
  unfold mj_av
  split
  · exact h _ _ _
  · exact mj_sl9_n
theorem mj_sl9_d1 {s : List Value} {f g : Value → List Value → Option mjS} (h : ∀ a r, mj_sl9 (f a r) (g a r)) : mj_sl9 (mj_d1 s f) (mj_d1 s g) := by
  unfold mj_d1
  split
  · rename_i v r
    cases Nat.beq v.category 1
    · exact mj_sl9_n
    · exact h _ _
  · exact mj_sl9_n
theorem mj_sl9_ldi {a b : List (Option Value)} (hs : mj_sub9 a b) {i : Nat} {f g : Int32 → Option mjS} (h : ∀ x, mj_sl9 (f x) (g x)) : mj_sl9 (mj_ldi a i f) (mj_ldi b i g) := by
  intro t ht
  obtain ⟨x, h1, h2⟩ := mj_ldi_of ht
  unfold mj_ldi
  rw [hs.2 _ _ h1]
  exact h x t h2
theorem mj_sl9_ldl {a b : List (Option Value)} (hs : mj_sub9 a b) {i : Nat} {f g : Int64 → Option mjS} (h : ∀ x, mj_sl9 (f x) (g x)) : mj_sl9 (mj_ldl a i f) (mj_ldl b i g) := by
  intro t ht
  obtain ⟨x, h1, h2⟩ := mj_ldl_of ht
  unfold mj_ldl
  rw [hs.2 _ _ h1]
  exact h x t h2
theorem mj_sl9_lda {a b : List (Option Value)} (hs : mj_sub9 a b) {i : Nat} {f g : Nat → Option mjS} (h : ∀ x, mj_sl9 (f x) (g x)) : mj_sl9 (mj_lda a i f) (mj_lda b i g) := by
  intro t ht
  obtain ⟨x, h1, h2⟩ := mj_lda_of ht
  unfold mj_lda
  rw [hs.2 _ _ h1]
  exact h x t h2
theorem mj_sl9_ite {c : Prop} [Decidable c] {A B A' B' : Option mjS} (h1 : mj_sl9 A A') (h2 : mj_sl9 B B') : mj_sl9 (if c then A else B) (if c then A' else B') := by
  by_cases h : c
  · rw [if_pos h, if_pos h]; exact h1
  · rw [if_neg h, if_neg h]; exact h2
theorem mj_sl9_bif {c : Bool} {A B A' B' : Option mjS} (h1 : mj_sl9 A A') (h2 : mj_sl9 B B') : mj_sl9 (bif c then A else B) (bif c then A' else B') := by
  cases c
  · exact h2
  · exact h1
theorem mj_sl9_ic {c : ClassFile.Cond} {a b : Int32} {A B A' B' : Option mjS} (h1 : mj_sl9 A A') (h2 : mj_sl9 B B') : mj_sl9 (mj_ic c a b A B) (mj_ic c a b A' B') := by
  cases c <;> simp only [mj_ic] <;> first
    | exact mj_sl9_ite h1 h2
    | exact mj_sl9_ite h2 h1
theorem mj_sl9_pf {a b : List (Option Value)} (hs : mj_sub9 a b) {tt p x k : Nat} {w : mjW} {v : Value} {r : List Value} : mj_sl9 (mj_pf tt p a w x k v r) (mj_pf tt p b w x k v r) := by
  unfold mj_pf
  refine mj_sl9_bif ?_ (mj_sl9_bif ?_ ?_)
  · cases v <;> first
      | exact mj_sl9_s hs
      | exact mj_sl9_n
  · cases v <;> first
      | exact mj_sl9_ite (mj_sl9_s hs) mj_sl9_n
      | exact mj_sl9_n
  · cases v <;> first
      | exact mj_sl9_s hs
      | exact mj_sl9_n
theorem mj_sl9_sf {a b : List (Option Value)} (hs : mj_sub9 a b) (y : Nat) (e : mjE) (p : Nat) (s : List Value) (w : mjW) : mj_sl9 (mj_sf y e p a s w) (mj_sf y e p b s w) := by
  obtain ⟨i, n, k0, k⟩ := e
  cases i <;> first
    | exact mj_sl9_s hs
    | exact mj_sl9_n
    | exact mj_sl9_i1 (fun _ _ => mj_sl9_s hs)
    | exact mj_sl9_i1 (fun _ _ => mj_sl9_s (mj_sub_put hs _ _))
    | exact mj_sl9_l1 (fun _ _ => mj_sl9_s hs)
    | exact mj_sl9_l1 (fun _ _ => mj_sl9_s (mj_sub_put2 hs _ _))
    | exact mj_sl9_a1 (fun _ _ => mj_sl9_s (mj_sub_put hs _ _))
    | exact mj_sl9_i2 (fun _ _ _ => mj_sl9_s hs)
    | exact mj_sl9_l2 (fun _ _ _ => mj_sl9_s hs)
    | exact mj_sl9_li (fun _ _ _ => mj_sl9_s hs)
    | exact mj_sl9_i2 (fun _ _ _ => mj_sl9_ite mj_sl9_n (mj_sl9_s hs))
    | exact mj_sl9_l2 (fun _ _ _ => mj_sl9_ite mj_sl9_n (mj_sl9_s hs))
    | exact mj_sl9_ldi hs (fun _ => mj_sl9_s hs)
    | exact mj_sl9_ldi hs (fun _ => mj_sl9_s (mj_sub_put hs _ _))
    | exact mj_sl9_ldl hs (fun _ => mj_sl9_s hs)
    | exact mj_sl9_lda hs (fun _ => mj_sl9_s hs)
    | exact mj_sl9_d1 (fun _ _ => mj_sl9_s hs)
    | exact mj_sl9_d1 (fun _ _ => mj_sl9_d1 (fun _ _ => mj_sl9_s hs))
    | exact mj_sl9_i1 (fun _ _ => mj_sl9_ic (mj_sl9_s hs) (mj_sl9_s hs))
    | exact mj_sl9_i2 (fun _ _ _ => mj_sl9_ic (mj_sl9_s hs) (mj_sl9_s hs))
    | exact mj_sl9_a1 (fun _ _ => mj_sl9_bif (mj_sl9_s hs) mj_sl9_n)
    | exact mj_sl9_ai (fun _ _ _ => mj_sl9_bif (mj_sl9_ite mj_sl9_n (mj_sl9_s hs)) mj_sl9_n)
    | exact mj_sl9_aii (fun _ _ _ _ => mj_sl9_bif (mj_sl9_ite mj_sl9_n (mj_sl9_s hs)) mj_sl9_n)
    | exact mj_sl9_ail (fun _ _ _ _ => mj_sl9_bif (mj_sl9_ite mj_sl9_n (mj_sl9_s hs)) mj_sl9_n)
    | exact mj_sl9_av (fun _ _ _ => mj_sl9_bif (mj_sl9_pf hs) mj_sl9_n)
    | exact mj_sl9_i2 (fun _ _ _ => mj_sl9_bif (mj_sl9_bif (mj_sl9_s hs) (mj_sl9_s hs)) mj_sl9_n)
    | skip
  · show mj_sl9 (match mj_lr (1000 * mj_mc y + _) with
      | some v => some (p + 3, a, .long v :: s, w)
      | none => none) (match mj_lr (1000 * mj_mc y + _) with
      | some v => some (p + 3, b, .long v :: s, w)
      | none => none)
    split
    · exact mj_sl9_s hs
    · exact mj_sl9_n
  · show mj_sl9 (match mj_sr (2000 * y + p) with
      | some q => mj_i1 s fun x r => some (mj_sw q.1 q.2 x, a, r, w)
      | none => none) (match mj_sr (2000 * y + p) with
      | some q => mj_i1 s fun x r => some (mj_sw q.1 q.2 x, b, r, w)
      | none => none)
    split
    · exact mj_sl9_i1 (fun _ _ => mj_sl9_s hs)
    · exact mj_sl9_n
  · rename_i t0
    refine mj_sl9_i1 (fun _ _ => mj_sl9_ite mj_sl9_n ?_)
    cases t0 <;> first
      | exact mj_sl9_s hs
      | exact mj_sl9_n
  · show mj_sl9 (match mj_sr (2000 * y + p) with
      | some q => mj_i1 s fun x r => some (mj_sw q.1 q.2 x, a, r, w)
      | none => none) (match mj_sr (2000 * y + p) with
      | some q => mj_i1 s fun x r => some (mj_sw q.1 q.2 x, b, r, w)
      | none => none)
    split
    · exact mj_sl9_i1 (fun _ _ => mj_sl9_s hs)
    · exact mj_sl9_n
theorem mj_go_sub : ∀ (n d y p : Nat) (a b : List (Option Value)) (st : List Value) (w : mjW) (r : mjR), mj_sub9 a b → mj_go n d y p a st w = some r → mj_go n d y p b st w = some r := by
  intro n
  induction n with
  | zero => intro d y p a b st w r _ h; cases h
  | succ n ih =>
    intro d y p a b st w r hs h
    unfold mj_go at h ⊢
    cases hco : mj_co y p with
    | none => rw [hco] at h; cases h
    | some e =>
      rw [hco] at h
      simp only at h ⊢
      cases hr : mj_isr e.1 with
      | true =>
        rw [hr] at h
        exact h
      | false =>
        rw [hr] at h
        simp only [cond_false] at h ⊢
        cases hc : mj_isc e with
        | true =>
          rw [hc] at h
          simp only [cond_true] at h ⊢
          cases hca : mj_ca d e.2.2.2 st w with
          | none => rw [hca] at h; cases h
          | some q =>
            rw [hca] at h
            simp only at h ⊢
            cases hg : mj_go n (mj_rk e.2.2.2 q.1) e.2.2.2 0 (mj_lo e.2.2.2 q.1) [] w with
            | none => rw [hg] at h; cases h
            | some t =>
              rw [hg] at h
              exact ih _ _ _ _ _ _ _ _ hs h
        | false =>
          rw [hc] at h
          simp only [cond_false] at h ⊢
          cases hsf : mj_sf y e p a st w with
          | none => rw [hsf] at h; cases h
          | some t =>
            rw [hsf] at h
            obtain ⟨lo', h1, h2⟩ := mj_sl9_sf hs y e p st w t hsf
            rw [h1]
            exact ih _ _ _ _ _ _ _ _ h2 h
/-! the rules -/
section
variable {α β : Type} {π : Option mjR → Option α} {d y p L : Nat} {lo : List (Option Value)} {st : List Value} {i : mMI} {l : mML}
theorem mj_L_leaf {lo' : List (Option Value)} (h : mj_ll lo lo') (hπ : ∀ o r, π o = some r → ∃ q, o = some q) : mj_le (π (mj_E d y p lo st L i l)) (π (mj_E d y p lo' st L i l)) := by
  intro r hr
  obtain ⟨q, hq⟩ := hπ _ _ hr
  have hq2 : mj_E d y p lo' st L i l = some q := by
    obtain ⟨n, hn⟩ := mj_ev_iff.mp hq
    exact mj_ev_iff.mpr ⟨n, mj_go_sub _ _ _ _ _ _ _ _ _ (mj_ll_at _ _ h) hn⟩
  rw [hq2, ← hq]
  exact hr
theorem mj_L_st {p' : Nat} {lo' : List (Option Value)} {st' : List Value} {i' : mMI} {l' : mML} {T : Option α} (k : Nat) (h : mj_ss k y (p, lo, st, mj_mk L i l) = some (p', lo', st', mj_mk L i' l')) (P : mj_le T (π (mj_E d y p' lo' st' L i' l'))) : mj_le T (π (mj_E d y p lo st L i l)) := by
  have e : mj_E d y p lo st L i l = mj_E d y p' lo' st' L i' l' := mj_ev_ss k h
  rw [e]
  exact P
theorem mj_L_if {c : Prop} [Decidable c] {p1 p2 : Nat} {st' : List Value} {TA TB : Option α} (h : mj_q1 y (p, lo, st, mj_mk L i l) = some (if c then some (p1, lo, st', mj_mk L i l) else some (p2, lo, st', mj_mk L i l))) (PA : mj_le TA (π (mj_E d y p1 lo st' L i l))) (PB : mj_le TB (π (mj_E d y p2 lo st' L i l))) : mj_le (if c then TA else TB) (π (mj_E d y p lo st L i l)) := by
  by_cases hc : c
  · rw [if_pos hc] at h ⊢
    have e : mj_E d y p lo st L i l = mj_E d y p1 lo st' L i l := mj_ev_1 h
    rw [e]
    exact PA
  · rw [if_neg hc] at h ⊢
    have e : mj_E d y p lo st L i l = mj_E d y p2 lo st' L i l := mj_ev_1 h
    rw [e]
    exact PB
theorem mj_L_ck {c : Prop} [Decidable c] {p1 : Nat} {st' : List Value} {i' : mMI} {l' : mML} {TA : Option α} (h : mj_q1 y (p, lo, st, mj_mk L i l) = some (if c then none else some (p1, lo, st', mj_mk L i' l'))) (PA : mj_le TA (π (mj_E d y p1 lo st' L i' l'))) : mj_le (if c then none else TA) (π (mj_E d y p lo st L i l)) := by
  by_cases hc : c
  · rw [if_pos hc]
    intro r hr
    cases hr
  · rw [if_neg hc] at h ⊢
    have e : mj_E d y p lo st L i l = mj_E d y p1 lo st' L i' l' := mj_ev_1 h
    rw [e]
    exact PA
theorem mj_L_sw {k : Int32} {t df : Nat} {ps : List (Int32 × Nat)} {x : Int32} {TA TB : Option α} (PA : mj_le TA (π (mj_E d y t lo st L i l))) (PB : mj_le TB (π (mj_E d y (mj_sw ps df x) lo st L i l))) : mj_le (if x = k then TA else TB) (π (mj_E d y (mj_sw ((k, t) :: ps) df x) lo st L i l)) := by
  by_cases hc : x = k
  · rw [if_pos hc]
    have e : mj_sw ((k, t) :: ps) df x = t := by simp only [mj_sw]; rw [if_pos hc]
    rw [e]
    exact PA
  · rw [if_neg hc]
    have e : mj_sw ((k, t) :: ps) df x = mj_sw ps df x := by simp only [mj_sw]; rw [if_neg hc]
    rw [e]
    exact PB
noncomputable def mj_rr (y : Nat) (S : mjS) : Option (Option mjR) := match mj_co y S.1 with
  | none => none
  | some e => bif mj_isr e.1 then some (mj_rt y e.1 S.2.2.1 S.2.2.2) else none
theorem mj_L_ret {o : Option mjR} {T : Option α} (h : mj_rr y (p, lo, st, mj_mk L i l) = some o) (ht : π o = T) : mj_le T (π (mj_E d y p lo st L i l)) := by
  unfold mj_rr at h
  cases hco : mj_co y p with
  | none => simp only [hco] at h; cases h
  | some e =>
    simp only [hco] at h
    cases hr : mj_isr e.1 with
    | false => rw [hr] at h; cases h
    | true =>
      rw [hr] at h
      have e2 : mj_E d y p lo st L i l = o := mj_ev_r (S := (p, lo, st, mj_mk L i l)) hco hr (Option.some.inj h)
      rw [e2, ht]
      exact fun r hr => hr
noncomputable def mj_cc (d y : Nat) (S : mjS) : Option (Nat × List Value × List Value) := match mj_co y S.1 with
  | none => none
  | some e => bif mj_isr e.1 then none else bif mj_isc e then (match mj_ca d e.2.2.2 S.2.2.1 S.2.2.2 with
    | some q => some (e.2.2.2, q)
    | none => none) else none
theorem mj_cc_of {d y : Nat} {S : mjS} {z : Nat} {a r : List Value} (h : mj_cc d y S = some (z, a, r)) : mj_ev d y S = (mj_ev (mj_rk z a) z (0, mj_lo z a, [], S.2.2.2)).bind fun t => mj_ev d y (S.1 + 3, S.2.1, t.1.toList ++ r, t.2) := by
  unfold mj_cc at h
  cases hco : mj_co y S.1 with
  | none => rw [hco] at h; cases h
  | some e =>
    rw [hco] at h
    simp only at h
    cases hr : mj_isr e.1 with
    | true => rw [hr] at h; cases h
    | false =>
      rw [hr] at h
      cases hc : mj_isc e with
      | false => rw [hc] at h; cases h
      | true =>
        rw [hc] at h
        cases hca : mj_ca d e.2.2.2 S.2.2.1 S.2.2.2 with
        | none => rw [hca] at h; cases h
        | some q =>
          rw [hca] at h
          cases h
          exact mj_ev_c hco hr hc hca
theorem mj_qw {d z : Nat} {lo : List (Option Value)} {st : List Value} {L : Nat} {i : mMI} {l : mML} {p : Nat} {v : Option Value} {w : mjW} (hq : mj_qe z = true) (h : mj_E d z p lo st L i l = some (v, w)) : w = mj_mk L w.2.2.1 w.2.2.2 := by
  obtain ⟨n, hn⟩ := mj_ev_iff.mp h
  obtain ⟨h1, h2, -⟩ := mj_quiet _ _ _ _ _ _ _ _ _ hq hn
  obtain ⟨w1, w2, w3, w4⟩ := w
  have h1 : w1 = mj_SH L := h1
  have h2 : w2 = mj_MR := h2
  subst h1; subst h2
  rfl
theorem mj_L_callI {z d' : Nat} {a r : List Value} {lo' : List (Option Value)} {T : Int32 × mMI × mML → Option α} (h : mj_cc d y (p, lo, st, mj_mk L i l) = some (z, a, r)) (hq : mj_qe z = true) (hd : mj_rk z a = d') (hl : mj_lo z a = lo') (P : ∀ q : Int32 × mMI × mML, mj_le (T q) (π (mj_E d y (p + 3) lo (.int q.1 :: r) L q.2.1 q.2.2))) : mj_le ((mj_tI (mj_E d' z 0 lo' [] L i l)).bind T) (π (mj_E d y p lo st L i l)) := by
  subst hd; subst hl
  intro x hx
  obtain ⟨q, h1, h2⟩ := Option.bind_eq_some_iff.mp hx
  have e : mj_E d y p lo st L i l = (mj_E (mj_rk z a) z 0 (mj_lo z a) [] L i l).bind fun t => mj_ev d y (p + 3, lo, t.1.toList ++ r, t.2) := mj_cc_of h
  unfold mj_tI at h1
  split at h1
  · rename_i r0 w0 hE
    cases h1
    have hw := mj_qw hq hE
    have := P (r0, w0.2.2.1, w0.2.2.2) x h2
    rw [e, hE]
    show π (mj_ev d y (p + 3, lo, .int r0 :: r, w0)) = some x
    rw [hw]
    exact this
  · cases h1
theorem mj_L_callJ {z d' : Nat} {a r : List Value} {lo' : List (Option Value)} {T : Int64 × mMI × mML → Option α} (h : mj_cc d y (p, lo, st, mj_mk L i l) = some (z, a, r)) (hq : mj_qe z = true) (hd : mj_rk z a = d') (hl : mj_lo z a = lo') (P : ∀ q : Int64 × mMI × mML, mj_le (T q) (π (mj_E d y (p + 3) lo (.long q.1 :: r) L q.2.1 q.2.2))) : mj_le ((mj_tJ (mj_E d' z 0 lo' [] L i l)).bind T) (π (mj_E d y p lo st L i l)) := by
  subst hd; subst hl
  intro x hx
  obtain ⟨q, h1, h2⟩ := Option.bind_eq_some_iff.mp hx
  have e : mj_E d y p lo st L i l = (mj_E (mj_rk z a) z 0 (mj_lo z a) [] L i l).bind fun t => mj_ev d y (p + 3, lo, t.1.toList ++ r, t.2) := mj_cc_of h
  unfold mj_tJ at h1
  split at h1
  · rename_i r0 w0 hE
    cases h1
    have hw := mj_qw hq hE
    have := P (r0, w0.2.2.1, w0.2.2.2) x h2
    rw [e, hE]
    show π (mj_ev d y (p + 3, lo, .long r0 :: r, w0)) = some x
    rw [hw]
    exact this
  · cases h1
theorem mj_L_callV {z d' : Nat} {a r : List Value} {lo' : List (Option Value)} {T : mMI × mML → Option α} (h : mj_cc d y (p, lo, st, mj_mk L i l) = some (z, a, r)) (hq : mj_qe z = true) (hd : mj_rk z a = d') (hl : mj_lo z a = lo') (P : ∀ q : mMI × mML, mj_le (T q) (π (mj_E d y (p + 3) lo r L q.1 q.2))) : mj_le ((mj_tV (mj_E d' z 0 lo' [] L i l)).bind T) (π (mj_E d y p lo st L i l)) := by
  subst hd; subst hl
  intro x hx
  obtain ⟨q, h1, h2⟩ := Option.bind_eq_some_iff.mp hx
  have e : mj_E d y p lo st L i l = (mj_E (mj_rk z a) z 0 (mj_lo z a) [] L i l).bind fun t => mj_ev d y (p + 3, lo, t.1.toList ++ r, t.2) := mj_cc_of h
  unfold mj_tV at h1
  split at h1
  · rename_i w0 hE
    cases h1
    have hw := mj_qw hq hE
    have := P (w0.2.2.1, w0.2.2.2) x h2
    rw [e, hE]
    show π (mj_ev d y (p + 3, lo, r, w0)) = some x
    rw [hw]
    exact this
  · cases h1
end
theorem mj_nI (o : Option mjR) (r : Int32 × mMI × mML) (h : mj_tI o = some r) : ∃ q, o = some q := by
  cases o with
  | none => cases h
  | some q => exact ⟨q, rfl⟩
theorem mj_nJ (o : Option mjR) (r : Int64 × mMI × mML) (h : mj_tJ o = some r) : ∃ q, o = some q := by
  cases o with
  | none => cases h
  | some q => exact ⟨q, rfl⟩
theorem mj_nV (o : Option mjR) (r : mMI × mML) (h : mj_tV o = some r) : ∃ q, o = some q := by
  cases o with
  | none => cases h
  | some q => exact ⟨q, rfl⟩
