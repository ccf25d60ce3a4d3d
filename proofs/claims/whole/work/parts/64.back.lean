/-! Putting back: what it is, and the class's side. -/
def mq_lz (lie : Nat → Nat) (c : Nat → Bool) : Nat → Nat → List Nat
  | 0, _ => []
  | m + 1, p => if c (lie p) = true then lie p :: mq_lz lie c m (p + 1) else mq_lz lie c m (p + 1)
theorem mq_lz_t {lie : Nat → Nat} {c : Nat → Bool} {m p : Nat} (h : c (lie p) = true) : mq_lz lie c (m + 1) p = lie p :: mq_lz lie c m (p + 1) := by
  simp only [mq_lz]
  rw [if_pos h]
theorem mq_lz_f {lie : Nat → Nat} {c : Nat → Bool} {m p : Nat} (h : c (lie p) = false) : mq_lz lie c (m + 1) p = mq_lz lie c m (p + 1) := by
  simp only [mq_lz]
  rw [if_neg (by rw [h]; decide)]
theorem mq_lz_mem {lie : Nat → Nat} {c : Nat → Bool} {s : Nat} : ∀ m p, s ∈ mq_lz lie c m p → ∃ q, p ≤ q ∧ q < p + m ∧ lie q = s ∧ c s = true
  | 0, p, h => by cases h
  | m + 1, p, h => by
    cases hc : c (lie p) with
    | true =>
      rw [mq_lz_t hc] at h
      cases h with
      | head => exact ⟨p, Nat.le_refl _, by omega, rfl, hc⟩
      | tail _ h =>
        obtain ⟨q, h1, h2, h3⟩ := mq_lz_mem m (p + 1) h
        exact ⟨q, by omega, by omega, h3⟩
    | false =>
      rw [mq_lz_f hc] at h
      obtain ⟨q, h1, h2, h3⟩ := mq_lz_mem m (p + 1) h
      exact ⟨q, by omega, by omega, h3⟩
theorem mq_lz_pw {lie : Nat → Nat} {c : Nat → Bool} {n : Nat} (hi : ∀ a b, a < n → b < n → lie a = lie b → a = b) : ∀ m p, p + m ≤ n → (mq_lz lie c m p).Pairwise (fun a b => a ≠ b)
  | 0, _, _ => List.Pairwise.nil
  | m + 1, p, h => by
    have ih := mq_lz_pw (c := c) hi m (p + 1) (by omega)
    cases hc : c (lie p) with
    | true =>
      rw [mq_lz_t hc]
      refine List.pairwise_cons.mpr ⟨fun a ha e => ?_, ih⟩
      obtain ⟨q, h1, h2, h3, _⟩ := mq_lz_mem m (p + 1) ha
      have := hi p q (by omega) (by omega) (e.trans h3.symm)
      omega
    | false =>
      rw [mq_lz_f hc]
      exact ih
theorem mq_lz_len {lie : Nat → Nat} {c1 c2 c3 : Nat → Bool} {n : Nat} (h : ∀ p, p < n → (c1 (lie p) = true ∧ c2 (lie p) = false ∧ c3 (lie p) = false) ∨ (c1 (lie p) = false ∧ c2 (lie p) = true ∧ c3 (lie p) = false) ∨ (c1 (lie p) = false ∧ c2 (lie p) = false ∧ c3 (lie p) = true)) : ∀ m p, p + m ≤ n → (mq_lz lie c1 m p).length + (mq_lz lie c2 m p).length + (mq_lz lie c3 m p).length = m
  | 0, _, _ => rfl
  | m + 1, p, hp => by
    have ih := mq_lz_len h m (p + 1) (by omega)
    rcases h p (by omega) with ⟨a, b, c⟩ | ⟨a, b, c⟩ | ⟨a, b, c⟩
    · rw [mq_lz_t a, mq_lz_f b, mq_lz_f c, List.length_cons]; omega
    · rw [mq_lz_f a, mq_lz_t b, mq_lz_f c, List.length_cons]; omega
    · rw [mq_lz_f a, mq_lz_f b, mq_lz_t c, List.length_cons]; omega
theorem mq_pw_inj : ∀ (l : List Nat), l.Pairwise (fun a b => a ≠ b) → ∀ a b s : Nat, l[a]? = some s → l[b]? = some s → a = b
  | [], _, a, b, s, h, _ => by cases h
  | x :: l, hp, a, b, s, ha, hb => by
    obtain ⟨p1, p2⟩ := List.pairwise_cons.mp hp
    cases a with
    | zero =>
      cases b with
      | zero => rfl
      | succ b =>
        have e1 : x = s := by simpa using ha
        have e2 : l[b]? = some s := by simpa using hb
        exact absurd e1 (p1 s (List.mem_of_getElem? e2))
    | succ a =>
      have e1 : l[a]? = some s := by simpa using ha
      cases b with
      | zero =>
        have e2 : x = s := by simpa using hb
        exact absurd e2 (p1 s (List.mem_of_getElem? e1))
      | succ b =>
        have e2 : l[b]? = some s := by simpa using hb
        rw [mq_pw_inj l p2 a b s e1 e2]
/-- those that come first, those between, those that come last -/
def mq_c1 (f : Nat) (b : Nat) : Bool := f.testBit b
def mq_c2 (f t : Nat) (b : Nat) : Bool := !(f.testBit b) && !(t.testBit b)
def mq_lb (lie : Nat → Nat) (n f t : Nat) : List Nat := mq_lz lie (mq_c1 f) n 0 ++ (mq_lz lie (mq_c2 f t) n 0 ++ mq_lz lie (mq_c1 t) n 0)
/-- who lies where then -/
def mq_nl (lie : Nat → Nat) (n r f t : Nat) : Nat → Nat := fun p => if r = 5 then lie (n - 1 - p) else (mq_lb lie n f t).getD p 0
section
variable {lie : Nat → Nat} {n f t : Nat}
theorem mq_disj (hd : f &&& t = 0) (b : Nat) : (f.testBit b = true ∧ t.testBit b = false) ∨ (f.testBit b = false ∧ t.testBit b = true) ∨ (f.testBit b = false ∧ t.testBit b = false) := by
  have h : (f &&& t).testBit b = false := by rw [hd, Nat.zero_testBit]
  rw [Nat.testBit_and] at h
  cases h1 : f.testBit b with
  | true =>
    rw [h1, Bool.true_and] at h
    exact Or.inl ⟨rfl, h⟩
  | false =>
    cases h2 : t.testBit b with
    | true => exact Or.inr (Or.inl ⟨rfl, rfl⟩)
    | false => exact Or.inr (Or.inr ⟨rfl, rfl⟩)
theorem mq_lb_len (hd : f &&& t = 0) : (mq_lb lie n f t).length = n := by
  have h := mq_lz_len (lie := lie) (c1 := mq_c1 f) (c2 := mq_c2 f t) (c3 := mq_c1 t) (n := n) (fun p _ => by
    unfold mq_c1 mq_c2
    rcases mq_disj hd (lie p) with ⟨a, b⟩ | ⟨a, b⟩ | ⟨a, b⟩
    · rw [a, b]; exact Or.inl ⟨rfl, rfl, rfl⟩
    · rw [a, b]; exact Or.inr (Or.inr ⟨rfl, rfl, rfl⟩)
    · rw [a, b]; exact Or.inr (Or.inl ⟨rfl, rfl, rfl⟩)) n 0 (by omega)
  unfold mq_lb
  rw [List.length_append, List.length_append]
  omega
theorem mq_lb_ok (hi1 : ∀ j, j < n → lie j < n) (hi2 : ∀ a b, a < n → b < n → lie a = lie b → a = b) (hd : f &&& t = 0) : (∀ s ∈ mq_lb lie n f t, s < n) ∧ (mq_lb lie n f t).Pairwise (fun a b => a ≠ b) := by
  have mem : ∀ c s, s ∈ mq_lz lie c n 0 → s < n ∧ c s = true := by
    intro c s h
    obtain ⟨q, _, h2, h3, h4⟩ := mq_lz_mem n 0 h
    exact ⟨by rw [← h3]; exact hi1 q (by omega), h4⟩
  unfold mq_lb
  refine ⟨fun s hs => ?_, ?_⟩
  · rw [List.mem_append, List.mem_append] at hs
    rcases hs with hs | hs | hs
    · exact (mem _ s hs).1
    · exact (mem _ s hs).1
    · exact (mem _ s hs).1
  · refine List.pairwise_append.mpr ⟨mq_lz_pw hi2 n 0 (by omega), List.pairwise_append.mpr ⟨mq_lz_pw hi2 n 0 (by omega), mq_lz_pw hi2 n 0 (by omega), fun a ha b hb e => ?_⟩, fun a ha b hb e => ?_⟩
    · have h1 := (mem _ a ha).2
      have h2 := (mem _ b hb).2
      rw [← e] at h2
      unfold mq_c1 at h2
      unfold mq_c2 at h1
      rw [h2] at h1
      simp at h1
    · have h1 := (mem _ a ha).2
      rw [List.mem_append] at hb
      unfold mq_c1 at h1
      rcases hb with hb | hb
      · have h2 := (mem _ b hb).2
        rw [← e] at h2
        unfold mq_c2 at h2
        rw [h1] at h2
        simp at h2
      · have h2 := (mem _ b hb).2
        rw [← e] at h2
        unfold mq_c1 at h2
        rcases mq_disj hd a with ⟨x, y⟩ | ⟨x, y⟩ | ⟨x, y⟩
        · rw [y] at h2; cases h2
        · rw [x] at h1; cases h1
        · rw [x] at h1; cases h1
theorem mq_nl_ok (hi1 : ∀ j, j < n → lie j < n) (hi2 : ∀ a b, a < n → b < n → lie a = lie b → a = b) (hd : f &&& t = 0) (r : Nat) : (∀ j, j < n → mq_nl lie n r f t j < n) ∧ ∀ a b, a < n → b < n → mq_nl lie n r f t a = mq_nl lie n r f t b → a = b := by
  have hlen := mq_lb_len (lie := lie) (n := n) hd
  obtain ⟨ok1, ok2⟩ := mq_lb_ok hi1 hi2 hd
  have get : ∀ p, p < n → (mq_lb lie n f t)[p]? = some ((mq_lb lie n f t).getD p 0) := by
    intro p hp
    rw [List.getD_eq_getElem?_getD, List.getElem?_eq_getElem (by omega)]
    rfl
  unfold mq_nl
  by_cases h5 : r = 5
  · simp only [h5, if_true]
    refine ⟨fun j hj => hi1 _ (by omega), fun a b ha hb e => ?_⟩
    have := hi2 _ _ (by omega) (by omega) e
    omega
  · simp only [h5, if_false]
    refine ⟨fun j hj => ok1 _ (List.mem_of_getElem? (get j hj)), fun a b ha hb e => ?_⟩
    refine mq_pw_inj _ ok2 a b _ (get a ha) ?_
    rw [get b hb, e]
end
def mq_h1 (a : Nat → Int32) (p : List Nat) : Prop := ∀ t s, p[t]? = some s → a t = nI s
theorem mq_h1_app {a a' : Nat → Int32} {p : List Nat} {s : Nat} (h : mq_h1 a p) (ha : ∀ t, a' t = if t = p.length then nI s else a t) : mq_h1 a' (p ++ [s]) := by
  intro t s1 ht
  rw [ha]
  by_cases e : t = p.length
  · subst e
    rw [List.getElem?_append_right (Nat.le_refl _), Nat.sub_self] at ht
    cases ht
    rw [if_pos rfl]
  · rw [if_neg e]
    refine h t s1 ?_
    by_cases h2 : t < p.length
    · rw [List.getElem?_append_left h2] at ht
      exact ht
    · rw [List.getElem?_eq_none (by rw [List.length_append, List.length_singleton]; omega)] at ht
      cases ht
/-- an int tells of each battery whether it is among some -/
def mq_tl (x : Int32) (n : Nat) (c : Nat → Bool) : Prop := ∀ b, b < n → (((x >>> (nI b &&& 31)) &&& (1 : Int32) = (1 : Int32)) ↔ c b = true)
theorem mq_tl_n {f n : Nat} (hf : f < 256) (hn : n ≤ 8) : mq_tl (nI f) n (mq_c1 f) := fun b hb => (mq_bit1 (by omega) (by omega)).trans mq_tb1
theorem mq_compl : ∀ v, v < 256 → ∀ b, b < 8 → decide ((((nI v ^^^ (-1 : Int32)) >>> (nI b &&& 31)) &&& (1 : Int32)) = (1 : Int32)) = !(v.testBit b) := by decide +kernel
theorem mq_tl_c {f t n : Nat} (hf : f < 256) (ht : t < 256) (hn : n ≤ 8) : mq_tl ((nI f ||| nI t) ^^^ (-1 : Int32)) n (mq_c2 f t) := by
  intro b hb
  have ho : f ||| t < 2 ^ 8 := Nat.or_lt_two_pow (n := 8) hf ht
  rw [mq_or]
  have h := mq_compl (f ||| t) ho b (by omega)
  rw [Nat.testBit_or, Bool.not_or] at h
  exact ⟨fun q => h.symm.trans (decide_eq_true q), fun q => of_decide_eq_true (h.trans q)⟩
theorem qs_layNext (L : Nat) {s k : Nat} (i : mMI) (l : mML) (hk : k < 8) : qf_Evening_layNext L (nI s) (nI k) i l = some (nI (k + 1), mj_up i 40 k (nI s), l) := by
  refine qe_Evening_layNext L _ _ i l _ ?_
  rw [qs_Two_store_40 L _ i l hk, Option.bind_some]
  dsimp only
  rw [nI_1]
theorem qs_layThose (L : Nat) {lie : Nat → Nat} {n : Nat} {c : Nat → Bool} {x : Int32} (i : mMI) (l : mML) (hn : n ≤ 8) (hl : ∀ j, j < n → lie j < n) (hx : mq_tl x n c) (h8 : i 35 8 = nI n) (h39 : ∀ p, p < n → i 39 p = nI (lie p)) (p0 Q : List Nat) (hQ : Q.length ≤ 8) (h0 : mq_h1 (i 40) p0) (hq : p0 ++ mq_lz lie c n 0 = Q) : ∃ i', qf_Evening_layThose L x (nI p0.length) i l = some (nI Q.length, i', l) ∧ mq_h1 (i' 40) Q ∧ ∀ k, k ≠ 40 → i' k = i k := by
  have loop : ∀ (m j : Nat), j + m = n → ∀ (p : List Nat) (i1 : mMI), mq_h1 (i1 40) p → p ++ mq_lz lie c m j = Q → (∀ k, k ≠ 40 → i1 k = i k) → ∃ i', qf_Evening_layThose_p5 L x (nI p.length) (nI j) i1 l = some (nI Q.length, i', l) ∧ mq_h1 (i' 40) Q ∧ ∀ k, k ≠ 40 → i' k = i k := by
    intro m
    induction m with
    | zero =>
      intro j hj p i1 a1 a2 a3
      have hj : j = n := hj
      subst hj
      have a2 : p ++ [] = Q := a2
      rw [List.append_nil] at a2
      subst a2
      refine ⟨i1, qe_Evening_layThose_p5 L _ _ _ i1 l _ ?_, a1, a3⟩
      rw [a3 35 (by omega), h8, if_pos (nI_le (Nat.le_refl _) (by omega))]
    | succ m ih =>
      intro j hj p i1 a1 a2 a3
      have hlt : j < n := by omega
      have e39 : i1 39 j = nI (lie j) := by rw [a3 39 (by omega)]; exact h39 j hlt
      have hb := hx (lie j) (hl j hlt)
      cases hc : c (lie j) with
      | true =>
        rw [mq_lz_t hc] at a2
        have hlen : p.length < 8 := by
          have := congrArg List.length a2
          rw [List.length_append, List.length_cons] at this
          omega
        obtain ⟨i', g1, g2⟩ := ih (j + 1) (by omega) (p ++ [lie j]) (mj_up i1 40 p.length (nI (lie j))) (mq_h1_app a1 (fun t => by rw [mq_upi_at])) (by rw [List.append_assoc]; exact a2) (fun k hk => (mq_upn hk).trans (a3 k hk))
        refine ⟨i', qe_Evening_layThose_p5 L _ _ _ i1 l _ ?_, g2⟩
        rw [a3 35 (by omega), h8, if_neg (nI_ge hlt (by omega)), qs_Two_at_39 L i1 l (by omega), Option.bind_some]
        simp only [e39]
        rw [if_pos (hb.mpr hc), qs_layNext L i1 l hlen, Option.bind_some, nI_1]
        rw [List.length_append, List.length_singleton] at g1
        exact g1
      | false =>
        rw [mq_lz_f hc] at a2
        obtain ⟨i', g1, g2⟩ := ih (j + 1) (by omega) p i1 a1 a2 a3
        refine ⟨i', qe_Evening_layThose_p5 L _ _ _ i1 l _ ?_, g2⟩
        rw [a3 35 (by omega), h8, if_neg (nI_ge hlt (by omega)), qs_Two_at_39 L i1 l (by omega), Option.bind_some]
        simp only [e39]
        rw [if_neg (fun q => by have := hb.mp q; rw [hc] at this; cases this), nI_1]
        exact g1
  obtain ⟨i', g1, g2⟩ := loop n 0 (by omega) p0 i h0 hq (fun _ _ => rfl)
  exact ⟨i', qe_Evening_layThose L _ _ i l _ g1, g2⟩
theorem qs_layBack93 (L : Nat) {n : Nat} {v : Nat → Nat} (l : mML) (hn : n ≤ 8) : ∀ (m j : Nat), j + m = n → ∀ i : mMI, (∀ p, p < n → i 40 p = nI (v p)) → ∃ i', qf_Evening_layBack_p93 L (nI n) (nI j) i l = some (i', l) ∧ (∀ p, j ≤ p → p < n → i' 39 p = nI (v p)) ∧ (∀ p, (p < j ∨ n ≤ p) → i' 39 p = i 39 p) ∧ ∀ k, k ≠ 39 → i' k = i k := by
  intro m
  induction m with
  | zero =>
    intro j hj i h
    have hj : j = n := hj
    subst hj
    refine ⟨i, qe_Evening_layBack_p93 L _ _ i l _ ?_, fun p h1 h2 => absurd h1 (by omega), fun _ _ => rfl, fun _ _ => rfl⟩
    rw [if_pos (nI_le (Nat.le_refl _) (by omega))]
  | succ m ih =>
    intro j hj i h
    have hlt : j < n := by omega
    obtain ⟨i', g1, g2, g3, g4⟩ := ih (j + 1) (by omega) (mj_up i 39 j (nI (v j))) (fun p hp => by rw [mq_upn (by omega)]; exact h p hp)
    refine ⟨i', qe_Evening_layBack_p93 L _ _ i l _ ?_, fun p h1 h2 => ?_, fun p hp => ?_, fun k hk => (g4 k hk).trans (mq_upn hk)⟩
    · rw [if_neg (nI_ge hlt (by omega)), qs_Two_at_40 L i l (by omega), Option.bind_some]
      simp only [h j hlt, qs_Two_store_39 L _ i l (show j < 8 by omega), Option.bind_some, nI_1]
      exact g1
    · by_cases e : p = j
      · rw [g3 p (Or.inl (by omega)), mq_upi_at, if_pos e, e]
      · exact g2 p (by omega) h2
    · rw [g3 p (by omega), mq_upi_at, if_neg (by omega)]
