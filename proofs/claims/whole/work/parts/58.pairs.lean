/-! The pairs that a trier makes. -/
def mq_pin (c : Nat → Nat → Bool) (h : Nat → Nat) (a : Nat) : Nat → Nat → List (Nat × Nat)
  | 0, _ => []
  | m + 1, b => if c a b = true then (h a, h b) :: mq_pin c h a m (b + 1) else mq_pin c h a m (b + 1)
def mq_pout (n : Nat) (c : Nat → Nat → Bool) (h : Nat → Nat) : Nat → Nat → List (Nat × Nat)
  | 0, _ => []
  | m + 1, a => mq_pin c h a (n - (a + 1)) (a + 1) ++ mq_pout n c h m (a + 1)
def mq_nin (d : Nat) : Nat → Nat → List (Nat × Nat)
  | 0, _ => []
  | m + 1, a => (a, a + d) :: mq_nin d m (a + 1)
def mq_nout (n : Nat) : Nat → Nat → List (Nat × Nat)
  | 0, _ => []
  | m + 1, d => mq_nin d (n - d) 0 ++ mq_nout n m (d + 1)
/-- how many heaps -/
def mq_hc (g : Nat) : Nat := if 2 < g then g - 1 else 1
/-- where a heap begins -/
def mq_hS (n h k : Nat) : Nat := k * (n / h) + (if k < n % h then k else n % h)
def mq_hpf (n h p : Nat) : Nat → Nat → Nat
  | 0, k => k
  | m + 1, k => if p < mq_hS n h (k + 1) then k else mq_hpf n h p m (k + 1)
def mq_hp (n h p : Nat) : Nat := mq_hpf n h p 9 0
def mq_same (n g : Nat) (f : Bool) (a b : Nat) : Bool := decide (mq_hp n (mq_hc g) a = mq_hp n (mq_hc g) b) == f
def mq_pl (n g k : Nat) : List (Nat × Nat) :=
  if k = 1 ∨ k = 4 then mq_pout n (mq_same n g true) (fun x => x) n 0 ++ mq_pout n (mq_same n g false) (fun x => x) n 0
  else if k = 2 ∨ k = 5 then mq_nout n (n - 1) 1
  else if k = 3 then mq_pout n (fun _ _ => true) (fun x => n - 1 - x) n 0
  else mq_pout n (fun _ _ => true) (fun x => x) n 0
def mq_newb (n : Nat) : List (Nat × Nat) → Bool
  | [] => true
  | p :: t => decide (p.1 < n) && decide (p.2 < n) && decide (p.1 ≠ p.2) && t.all (fun q => decide (q ≠ p) && decide (q ≠ (p.2, p.1))) && mq_newb n t
theorem mq_pl_ok : ∀ n, n < 9 → ∀ g, g < n + 1 → ∀ k, k < 6 → (decide ((mq_pl n g k).length ≤ 28) && mq_newb n (mq_pl n g k)) = true := by decide +kernel
theorem mq_pl_len {n g k : Nat} (hn : n ≤ 8) (hg : g ≤ n) (hk : k ≤ 5) : (mq_pl n g k).length ≤ 28 := by
  have h := mq_pl_ok n (by omega) g (by omega) k (by omega)
  rw [Bool.and_eq_true] at h
  exact of_decide_eq_true h.1
theorem mq_pl_new {n g k : Nat} (hn : n ≤ 8) (hg : g ≤ n) (hk : k ≤ 5) : mq_newb n (mq_pl n g k) = true := by
  have h := mq_pl_ok n (by omega) g (by omega) k (by omega)
  rw [Bool.and_eq_true] at h
  exact h.2
/-- rows hold a list of pairs -/
def mq_h2 (a b : Nat → Int32) (p : List (Nat × Nat)) : Prop := ∀ t s w, p[t]? = some (s, w) → a t = nI s ∧ b t = nI w
theorem mq_h2_app {a a' b b' : Nat → Int32} {p : List (Nat × Nat)} {s w : Nat} (h : mq_h2 a b p) (ha : ∀ t, a' t = if t = p.length then nI s else a t) (hb : ∀ t, b' t = if t = p.length then nI w else b t) : mq_h2 a' b' (p ++ [(s, w)]) := by
  intro t s1 w1 ht
  rw [ha, hb]
  by_cases e : t = p.length
  · subst e
    rw [List.getElem?_append_right (Nat.le_refl _), Nat.sub_self] at ht
    cases ht
    rw [if_pos rfl, if_pos rfl]
    exact ⟨rfl, rfl⟩
  · rw [if_neg e, if_neg e]
    refine h t s1 w1 ?_
    by_cases h2 : t < p.length
    · rw [List.getElem?_append_left h2] at ht
      exact ht
    · rw [List.getElem?_eq_none (by rw [List.length_append, List.length_singleton]; omega)] at ht
      cases ht
def mq_Ec (i0 i : mMI) (p : List (Nat × Nat)) : Prop := i 35 2 = nI p.length ∧ mq_h2 (i 36) (i 37) p ∧ (∀ k, k ≠ 35 → k ≠ 36 → k ≠ 37 → i k = i0 k) ∧ ∀ j, j ≠ 2 → i 35 j = i0 35 j
def mq_Em (i0 i : mMI) (p : List (Nat × Nat)) : Prop := i 42 42 = nI p.length ∧ mq_h2 (i 64) (i 65) p ∧ (∀ k, k ≠ 42 → k ≠ 64 → k ≠ 65 → i k = i0 k) ∧ ∀ j, j ≠ 42 → i 42 j = i0 42 j
theorem qs_addPair (L : Nat) (s w : Nat) {i0 i : mMI} (l : mML) {p : List (Nat × Nat)} (h : mq_Ec i0 i p) (hp : p.length < 28) : ∃ i', qf_Evening_addPair L (nI s) (nI w) i l = some (i', l) ∧ mq_Ec i0 i' (p ++ [(s, w)]) := by
  obtain ⟨h1, h2, h3, h4⟩ := h
  refine ⟨mj_up (mj_up (mj_up i 36 p.length (nI s)) 37 p.length (nI w)) 35 2 (nI (p.length + 1)), qe_Evening_addPair L _ _ i l _ ?_, ?_, ?_, ?_, ?_⟩
  · rw [h1, qs_Two_store_36 L _ i l hp, Option.bind_some]
    dsimp only
    rw [show mj_up i 36 p.length (nI s) 35 2 = nI p.length by rw [mq_upn (by omega)]; exact h1, qs_Two_store_37 L _ _ l hp, Option.bind_some]
    dsimp only
    rw [show mj_up (mj_up i 36 p.length (nI s)) 37 p.length (nI w) 35 2 = nI p.length by rw [mq_upn (by omega), mq_upn (by omega)]; exact h1, nI_1]
  · rw [mq_upi_at, if_pos rfl, List.length_append, List.length_singleton]
  · refine mq_h2_app h2 (fun t => ?_) (fun t => ?_)
    · rw [mq_upn (by omega), mq_upn (by omega), mq_upi_at]
    · rw [mq_upn (by omega), mq_upi_at, mq_upn (by omega)]
  · intro k k1 k2 k3
    rw [mq_upn k1, mq_upn k3, mq_upn k2]
    exact h3 k k1 k2 k3
  · intro j hj
    rw [mq_upi_at, if_neg hj, mq_upn (by omega), mq_upn (by omega)]
    exact h4 j hj
theorem qs_laysPair (L : Nat) (s w : Nat) {i0 i : mMI} (l : mML) {p : List (Nat × Nat)} (h : mq_Em i0 i p) (hp : p.length < 28) : ∃ i', qf_Mod_laysPair L (nI s) (nI w) i l = some (i', l) ∧ mq_Em i0 i' (p ++ [(s, w)]) := by
  obtain ⟨h1, h2, h3, h4⟩ := h
  refine ⟨mj_up (mj_up (mj_up i 64 p.length (nI s)) 65 p.length (nI w)) 42 42 (nI (p.length + 1)), qe_Mod_laysPair L _ _ i l _ ?_, ?_, ?_, ?_, ?_⟩
  · simp only [h1, if_neg (nI_in hp (show 28 < 2 ^ 31 by omega)), nI_1]
    rw [nI_clamp (by omega)]
  · rw [mq_upi_at, if_pos rfl, List.length_append, List.length_singleton]
  · refine mq_h2_app h2 (fun t => ?_) (fun t => ?_)
    · rw [mq_upn (by omega), mq_upn (by omega), mq_upi_at]
    · rw [mq_upn (by omega), mq_upi_at, mq_upn (by omega)]
  · intro k k1 k2 k3
    rw [mq_upn k1, mq_upn k3, mq_upn k2]
    exact h3 k k1 k2 k3
  · intro j hj
    rw [mq_upi_at, if_neg hj, mq_upn (by omega), mq_upn (by omega)]
    exact h4 j hj
/-- two loops, one in the other, that lay pairs a < b -/
theorem mq_pgen (n : Nat) (c : Nat → Nat → Bool) (h : Nat → Nat) (Inv : mMI → List (Nat × Nat) → Prop) (l : mML) (F1 : Int32 → mMI → mML → Option (mMI × mML)) (F2 : Int32 → Int32 → mMI → mML → Option (mMI × mML))
    (e1 : ∀ i p, Inv i p → F1 (nI n) i l = some (i, l))
    (s1 : ∀ i p a, a < n → Inv i p → ∀ r, F2 (nI a) (nI (a + 1)) i l = some r → F1 (nI a) i l = some r)
    (e2 : ∀ i p a, a < n → Inv i p → ∀ r, F1 (nI (a + 1)) i l = some r → F2 (nI a) (nI n) i l = some r)
    (s2 : ∀ i p a b, a < b → b < n → Inv i p → (c a b = true → p.length < 28 → ∃ i', Inv i' (p ++ [(h a, h b)]) ∧ ∀ r, F2 (nI a) (nI (b + 1)) i' l = some r → F2 (nI a) (nI b) i l = some r) ∧ (c a b = false → ∀ r, F2 (nI a) (nI (b + 1)) i l = some r → F2 (nI a) (nI b) i l = some r))
    (Q : List (Nat × Nat)) (hQ : Q.length ≤ 28) (p0 : List (Nat × Nat)) (i0 : mMI) (h0 : Inv i0 p0) (hq0 : p0 ++ mq_pout n c h n 0 = Q) : ∃ i', F1 (nI 0) i0 l = some (i', l) ∧ Inv i' Q := by
  have outer : ∀ (m a : Nat) (p : List (Nat × Nat)) (i : mMI), a + m = n → p ++ mq_pout n c h m a = Q → Inv i p → ∃ i', F1 (nI a) i l = some (i', l) ∧ Inv i' Q := by
    intro m
    induction m with
    | zero =>
      intro a p i ha hq hi
      have ha : a = n := ha
      subst ha
      have hq : p ++ [] = Q := hq
      rw [List.append_nil] at hq
      exact ⟨i, e1 i p hi, hq ▸ hi⟩
    | succ m ih =>
      intro a p i ha hq hi
      have hlt : a < n := by omega
      have inner : ∀ (m' b : Nat) (p : List (Nat × Nat)) (i : mMI), a < b → b + m' = n → p ++ (mq_pin c h a m' b ++ mq_pout n c h m (a + 1)) = Q → Inv i p → ∃ i', F2 (nI a) (nI b) i l = some (i', l) ∧ Inv i' Q := by
        intro m'
        induction m' with
        | zero =>
          intro b p i hab hb hq hi
          have hb : b = n := hb
          subst hb
          obtain ⟨i', g1, g2⟩ := ih (a + 1) p i (by omega) hq hi
          exact ⟨i', e2 i p a hlt hi _ g1, g2⟩
        | succ m' ih2 =>
          intro b p i hab hb hq hi
          obtain ⟨t1, t2⟩ := s2 i p a b hab (by omega) hi
          simp only [mq_pin] at hq
          cases hc : c a b with
          | true =>
            rw [if_pos hc] at hq
            have hlen : p.length < 28 := by
              have := congrArg List.length hq
              rw [List.length_append, List.cons_append, List.length_cons] at this
              omega
            obtain ⟨i1, q1, q2⟩ := t1 hc hlen
            obtain ⟨i', g1, g2⟩ := ih2 (b + 1) (p ++ [(h a, h b)]) i1 (by omega) (by omega) (by rw [List.append_assoc]; exact hq) q1
            exact ⟨i', q2 _ g1, g2⟩
          | false =>
            rw [if_neg (by rw [hc]; decide)] at hq
            obtain ⟨i', g1, g2⟩ := ih2 (b + 1) p i (by omega) (by omega) hq hi
            exact ⟨i', t2 hc _ g1, g2⟩
      obtain ⟨i', g1, g2⟩ := inner (n - (a + 1)) (a + 1) p i (by omega) (by omega) hq hi
      exact ⟨i', s1 i p a hlt hi _ g1, g2⟩
  exact outer n 0 p0 i0 (by omega) hq0 h0
theorem mq_ngen (n : Nat) (Inv : mMI → List (Nat × Nat) → Prop) (l : mML) (F1 : Int32 → mMI → mML → Option (mMI × mML)) (F2 : Int32 → Int32 → mMI → mML → Option (mMI × mML))
    (e1 : ∀ i p, Inv i p → F1 (nI n) i l = some (i, l))
    (s1 : ∀ i p d, d < n → Inv i p → ∀ r, F2 (nI d) (nI 0) i l = some r → F1 (nI d) i l = some r)
    (e2 : ∀ i p d a, d < n → a + d = n → Inv i p → ∀ r, F1 (nI (d + 1)) i l = some r → F2 (nI d) (nI a) i l = some r)
    (s2 : ∀ i p d a, a + d < n → Inv i p → p.length < 28 → ∃ i', Inv i' (p ++ [(a, a + d)]) ∧ ∀ r, F2 (nI d) (nI (a + 1)) i' l = some r → F2 (nI d) (nI a) i l = some r)
    (Q : List (Nat × Nat)) (hQ : Q.length ≤ 28) (i0 : mMI) (h0 : Inv i0 []) (hn : 1 ≤ n) (hq0 : mq_nout n (n - 1) 1 = Q) : ∃ i', F1 (nI 1) i0 l = some (i', l) ∧ Inv i' Q := by
  have outer : ∀ (m d : Nat) (p : List (Nat × Nat)) (i : mMI), d + m = n → p ++ mq_nout n m d = Q → Inv i p → ∃ i', F1 (nI d) i l = some (i', l) ∧ Inv i' Q := by
    intro m
    induction m with
    | zero =>
      intro d p i hd hq hi
      have hd : d = n := hd
      subst hd
      have hq : p ++ [] = Q := hq
      rw [List.append_nil] at hq
      exact ⟨i, e1 i p hi, hq ▸ hi⟩
    | succ m ih =>
      intro d p i hd hq hi
      have hlt : d < n := by omega
      have inner : ∀ (m' a : Nat) (p : List (Nat × Nat)) (i : mMI), a + d + m' = n → p ++ (mq_nin d m' a ++ mq_nout n m (d + 1)) = Q → Inv i p → ∃ i', F2 (nI d) (nI a) i l = some (i', l) ∧ Inv i' Q := by
        intro m'
        induction m' with
        | zero =>
          intro a p i ha hq hi
          obtain ⟨i', g1, g2⟩ := ih (d + 1) p i (by omega) hq hi
          exact ⟨i', e2 i p d a hlt ha hi _ g1, g2⟩
        | succ m' ih2 =>
          intro a p i ha hq hi
          have hlen : p.length < 28 := by
            have := congrArg List.length hq
            simp only [mq_nin] at this
            rw [List.length_append, List.cons_append, List.length_cons] at this
            omega
          obtain ⟨i1, q1, q2⟩ := s2 i p d a (by omega) hi hlen
          obtain ⟨i', g1, g2⟩ := ih2 (a + 1) (p ++ [(a, a + d)]) i1 (by omega) (by rw [List.append_assoc]; exact hq) q1
          exact ⟨i', q2 _ g1, g2⟩
      obtain ⟨i', g1, g2⟩ := inner (n - d) 0 p i (by omega) hq hi
      exact ⟨i', s1 i p d hlt hi _ g1, g2⟩
  exact outer (n - 1) 1 [] i0 (by omega) hq0 h0
