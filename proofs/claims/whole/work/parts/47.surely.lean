/-! Who is surely good, or flat. -/
theorem mq_bvc (x y : BitVec 32) : x &&& (y ^^^ BitVec.allOnes 32) = x ^^^ (x &&& y) := by
  apply BitVec.eq_of_getLsbD_eq
  intro j hj
  simp only [BitVec.getLsbD_and, BitVec.getLsbD_xor, BitVec.getLsbD_allOnes, hj, decide_true]
  cases hx : x.getLsbD j <;> cases hy : y.getLsbD j <;> rfl
theorem mq_andc (s w : Nat) : (nI s &&& (nI w ^^^ (-1 : Int32))) = nI (s ^^^ (s &&& w)) := by
  rw [← mq_xor, ← mq_and]
  rw [← Int32.toBitVec_inj, Int32.toBitVec_and, Int32.toBitVec_xor, Int32.toBitVec_xor, Int32.toBitVec_and]
  exact mq_bvc _ _
/-- the bits below n of which c holds -/
def mq_sg (c : Nat → Bool) : Nat → Nat
  | 0 => 0
  | b + 1 => if c b = true then mq_sg c b ||| 2 ^ b else mq_sg c b
theorem mq_sg_bit (c : Nat → Bool) : ∀ n j, (mq_sg c n).testBit j = (decide (j < n) && c j)
  | 0, j => by simp [mq_sg]
  | n + 1, j => by
    simp only [mq_sg]
    have ih := mq_sg_bit c n j
    by_cases hc : c n = true
    · rw [if_pos hc, Nat.testBit_or, ih, Nat.testBit_two_pow]
      by_cases e : n = j
      · subst e
        rw [hc]
        simp
      · rw [decide_eq_false e, Bool.or_false]
        by_cases h : j < n
        · rw [decide_eq_true h, decide_eq_true (by omega)]
        · rw [decide_eq_false h, decide_eq_false (by omega)]
    · rw [if_neg hc, ih]
      by_cases e : n = j
      · subst e
        cases h : c n with
        | true => exact absurd h hc
        | false => simp
      · by_cases h : j < n
        · rw [decide_eq_true h, decide_eq_true (by omega)]
        · rw [decide_eq_false h, decide_eq_false (by omega)]
theorem mq_sg_lt (c : Nat → Bool) (n : Nat) : mq_sg c n < 2 ^ n := by
  apply Nat.lt_pow_two_of_testBit
  intro j hj
  rw [mq_sg_bit, decide_eq_false (by omega)]
  rfl
theorem mq_sg_congr {c d : Nat → Bool} : ∀ (n : Nat), (∀ b, b < n → c b = d b) → mq_sg c n = mq_sg d n
  | 0, _ => rfl
  | n + 1, h => by
    simp only [mq_sg]
    rw [h n (by omega), mq_sg_congr n (fun b hb => h b (by omega))]
/-- what is left of a set when each world that may be has had its say -/
def mq_sa (G : Nat → Nat) (f : Bool) (s0 : Nat) : Nat → Nat
  | 0 => s0
  | m + 1 => if G m = 0 then mq_sa G f s0 m else if f = true then mq_sa G f s0 m ^^^ (mq_sa G f s0 m &&& m) else mq_sa G f s0 m &&& m
theorem mq_sa_bit (G : Nat → Nat) (f : Bool) (s0 j : Nat) : ∀ m, (mq_sa G f s0 m).testBit j = true ↔ (s0.testBit j = true ∧ ∀ w, w < m → G w ≠ 0 → w.testBit j = !f)
  | 0 => ⟨fun h => ⟨h, fun _ h => absurd h (by omega)⟩, fun h => h.1⟩
  | m + 1 => by
    have ih := mq_sa_bit G f s0 j m
    simp only [mq_sa]
    by_cases h0 : G m = 0
    · rw [if_pos h0, ih]
      refine ⟨fun h => ⟨h.1, fun w hw hg => ?_⟩, fun h => ⟨h.1, fun w hw hg => h.2 w (by omega) hg⟩⟩
      by_cases e : w = m
      · subst e; exact absurd h0 hg
      · exact h.2 w (by omega) hg
    · rw [if_neg h0]
      have key : (mq_sa G f s0 m).testBit j = true ∧ m.testBit j = (!f) ↔ (s0.testBit j = true ∧ ∀ w, w < m + 1 → G w ≠ 0 → w.testBit j = !f) := by
        rw [ih]
        refine ⟨fun h => ⟨h.1.1, fun w hw hg => ?_⟩, fun h => ⟨⟨h.1, fun w hw hg => h.2 w (by omega) hg⟩, h.2 m (by omega) h0⟩⟩
        by_cases e : w = m
        · subst e; exact h.2
        · exact h.1.2 w (by omega) hg
      rw [← key]
      cases f with
      | true =>
        rw [if_pos rfl, Nat.testBit_xor, Nat.testBit_and]
        cases (mq_sa G true s0 m).testBit j <;> cases m.testBit j <;> simp
      | false =>
        rw [if_neg (by decide), Nat.testBit_and]
        cases (mq_sa G false s0 m).testBit j <;> cases m.testBit j <;> simp
theorem mq_sa_lt (G : Nat → Nat) (f : Bool) (s0 m : Nat) (h : s0 < 256) : mq_sa G f s0 m < 256 := by
  show _ < 2 ^ 8
  apply Nat.lt_pow_two_of_testBit
  intro j hj
  cases hb : (mq_sa G f s0 m).testBit j with
  | false => rfl
  | true =>
    have := ((mq_sa_bit G f s0 j m).mp hb).1
    rw [mq_tb8 h hj] at this
    cases this
theorem mq_sum_le {f g : Nat → Nat} : ∀ (m : Nat), (∀ w, w < m → f w ≤ g w) → mq_sum f m ≤ mq_sum g m
  | 0, _ => Nat.le_refl _
  | m + 1, h => by
    simp only [mq_sum]
    have h1 := mq_sum_le m (fun w hw => h w (by omega))
    have h2 := h m (by omega)
    omega
/-- a part of a sum is all of it only if nothing is left out -/
theorem mq_sw_all (G : Nat → Nat) (s : Nat) : ∀ m, mq_sw G s m = mq_sw G 0 m ↔ ∀ w, w < m → G w ≠ 0 → s &&& w = s
  | 0 => ⟨fun _ _ h => absurd h (by omega), fun _ => rfl⟩
  | m + 1 => by
    have ih := mq_sw_all G s m
    have e1 : mq_sw G s (m + 1) = mq_sw G s m + (if s &&& m = s then G m else 0) := rfl
    have e2 : mq_sw G 0 (m + 1) = mq_sw G 0 m + G m := by
      show mq_sw G 0 m + (if 0 &&& m = 0 then G m else 0) = _
      rw [Nat.zero_and, if_pos rfl]
    have hle : mq_sw G s m ≤ mq_sw G 0 m := mq_sum_le m (fun w _ => by
      rw [Nat.zero_and, if_pos rfl]
      split <;> omega)
    rw [e1, e2]
    constructor
    · intro h w hw hg
      by_cases hm : s &&& m = s
      · rw [if_pos hm] at h
        by_cases e : w = m
        · subst e; exact hm
        · exact ih.mp (by omega) w (by omega) hg
      · rw [if_neg hm] at h
        by_cases e : w = m
        · subst e; omega
        · exact ih.mp (by omega) w (by omega) hg
    · intro h
      rw [ih.mpr (fun w hw hg => h w (by omega) hg)]
      by_cases hg : G m = 0
      · rw [hg]
        split <;> rfl
      · rw [if_pos (h m (by omega) hg)]
theorem mq_sw_none (G : Nat → Nat) (s : Nat) : ∀ m, mq_sw G s m = 0 ↔ ∀ w, w < m → G w ≠ 0 → ¬ s &&& w = s
  | 0 => ⟨fun _ _ h => absurd h (by omega), fun _ => rfl⟩
  | m + 1 => by
    have ih := mq_sw_none G s m
    have e1 : mq_sw G s (m + 1) = mq_sw G s m + (if s &&& m = s then G m else 0) := rfl
    rw [e1]
    constructor
    · intro h w hw hg hs
      by_cases e : w = m
      · subst e
        rw [if_pos hs] at h
        omega
      · exact ih.mp (by omega) w (by omega) hg hs
    · intro h
      rw [ih.mpr (fun w hw hg => h w (by omega) hg)]
      by_cases hg : G m = 0
      · rw [hg]
        split <;> rfl
      · rw [if_neg (h m (by omega) hg)]
theorem mq_two_and {b w : Nat} : 2 ^ b &&& w = 2 ^ b ↔ w.testBit b = true := by
  constructor
  · intro h
    have := congrArg (fun z => z.testBit b) h
    simp only [Nat.testBit_and, Nat.testBit_two_pow_self, Bool.true_and] at this
    exact this
  · intro h
    apply Nat.eq_of_testBit_eq
    intro j
    rw [Nat.testBit_and, Nat.testBit_two_pow]
    by_cases e : b = j
    · subst e; simp [h]
    · simp [e]
theorem mq_cnt_pos (G : Nat → Nat) : ∀ m, mq_cnt G m ≠ 0 ↔ ∃ w, w < m ∧ G w ≠ 0
  | 0 => ⟨fun h => absurd rfl h, fun ⟨_, h, _⟩ => absurd h (by omega)⟩
  | m + 1 => by
    have ih := mq_cnt_pos G m
    have e : mq_cnt G (m + 1) = mq_cnt G m + (if G m = 0 then 0 else 1) := rfl
    rw [e]
    constructor
    · intro h
      by_cases h0 : G m = 0
      · rw [if_pos h0] at h
        obtain ⟨w, hw, hg⟩ := ih.mp h
        exact ⟨w, by omega, hg⟩
      · exact ⟨m, by omega, h0⟩
    · rintro ⟨w, hw, hg⟩
      by_cases e : w = m
      · subst e
        rw [if_neg hg]
        omega
      · have := ih.mpr ⟨w, by omega, hg⟩
        omega
/-- who is surely good (or flat), of n batteries -/
noncomputable def mq_sure (G : Nat → Nat) (f : Bool) (n : Nat) : Nat := if mq_cnt G 256 = 0 then 0 else mq_sg (fun b => decide (mq_sw G (2 ^ b) 256 = if f = true then 0 else mq_sw G 0 256)) n
theorem mq_sure_sa (G : Nat → Nat) (f : Bool) {n : Nat} (h : mq_cnt G 256 ≠ 0) : mq_sg (fun b => decide (mq_sw G (2 ^ b) 256 = if f = true then 0 else mq_sw G 0 256)) n = mq_sa G f (2 ^ n - 1) 256 := by
  apply Nat.eq_of_testBit_eq
  intro j
  rw [mq_sg_bit]
  have key : (mq_sa G f (2 ^ n - 1) 256).testBit j = true ↔ (decide (j < n) && decide (mq_sw G (2 ^ j) 256 = if f = true then 0 else mq_sw G 0 256)) = true := by
    rw [mq_sa_bit, Nat.testBit_two_pow_sub_one, Bool.and_eq_true, decide_eq_true_eq, decide_eq_true_eq]
    refine and_congr Iff.rfl ?_
    cases f with
    | true =>
      rw [if_pos rfl, mq_sw_none]
      refine forall_congr' fun w => forall_congr' fun _ => forall_congr' fun _ => ?_
      rw [mq_two_and]
      cases w.testBit j <;> simp
    | false =>
      rw [if_neg (by decide), mq_sw_all]
      refine forall_congr' fun w => forall_congr' fun _ => forall_congr' fun _ => ?_
      rw [mq_two_and]
      cases w.testBit j <;> simp
  cases h1 : (mq_sa G f (2 ^ n - 1) 256).testBit j with
  | true => exact key.mp h1
  | false =>
    cases h2 : (decide (j < n) && decide (mq_sw G (2 ^ j) 256 = if f = true then 0 else mq_sw G 0 256)) with
    | false => rfl
    | true => rw [key.mpr h2] at h1; cases h1
theorem qs_surely (L : Nat) (f : Bool) {n : Nat} (i : mMI) (l : mML) (G : Nat → Nat) (hG : ∀ w, w < 256 → G w < 2 ^ 31 ∧ i 56 w = nI (G w)) (h6 : i 42 6 = nI n) (hn : 0 < n ∧ n ≤ 8) : qf_Mod_surely L (if f = true then 1 else 0) i l = some (nI (mq_sure G f n), i, l) := by
  have hp := mq_pow hn.2
  have hs0 : 2 ^ n - 1 < 256 := by
    have := Nat.pow_pos (n := n) (show 0 < 2 by omega)
    omega
  have loop : ∀ (m w : Nat), w + m = 256 → qf_Mod_surely_p25 L (if f = true then 1 else 0) (nI (mq_sa G f (2 ^ n - 1) w)) (if mq_cnt G w = 0 then 0 else 1) (nI w) i l = some (nI (mq_sure G f n), i, l) := by
    intro m
    induction m with
    | zero =>
      intro w hw
      have hw : w = 256 := hw
      subst hw
      refine qe_Mod_surely_p25 L _ _ _ _ i l _ ?_
      rw [if_pos (show (256 : Int32) ≤ nI 256 from nI_le (Nat.le_refl _) (by omega))]
      unfold mq_sure
      by_cases h : mq_cnt G 256 = 0
      · rw [if_pos h, if_pos rfl, if_pos h]
        rfl
      · rw [if_neg h, if_neg (by decide), if_neg h, mq_sure_sa G f h]
    | succ m ih =>
      intro w hw
      have next := ih (w + 1) (by omega)
      have ec : mq_cnt G (w + 1) = mq_cnt G w + (if G w = 0 then 0 else 1) := rfl
      have es : mq_sa G f (2 ^ n - 1) (w + 1) = if G w = 0 then mq_sa G f (2 ^ n - 1) w else if f = true then mq_sa G f (2 ^ n - 1) w ^^^ (mq_sa G f (2 ^ n - 1) w &&& w) else mq_sa G f (2 ^ n - 1) w &&& w := rfl
      obtain ⟨g1, g2⟩ := hG w (by omega)
      have ez : nI (G w) = (0 : Int32) ↔ G w = 0 := nI_eq (b := 0) g1 (by omega)
      refine qe_Mod_surely_p25 L _ _ _ _ i l _ ?_
      rw [if_neg (show ¬ (256 : Int32) ≤ nI w from nI_ge (a := w) (b := 256) (by omega) (by omega)), if_neg (nI_in (show w < 256 by omega) (by omega)), nI_clamp (by omega), g2, nI_1]
      by_cases h : G w = 0
      · rw [if_pos (ez.mpr h)]
        rw [es, if_pos h, ec, if_pos h, Nat.add_zero] at next
        exact next
      · rw [if_neg (fun q => h (ez.mp q))]
        have hc1 : (if mq_cnt G w + 1 = 0 then (0 : Int32) else 1) = 1 := if_neg (by omega)
        rw [es, if_neg h, ec, if_neg h, hc1] at next
        cases f with
        | true =>
          simp only [↓reduceIte, mq_10, mq_andc] at next ⊢
          exact next
        | false =>
          simp only [↓reduceIte, Bool.false_eq_true, mq_and] at next ⊢
          exact next
  refine qe_Mod_surely L _ i l _ ?_
  rw [h6, if_neg (nI_ne0 hn.1 (by omega)), mq_shl (by omega), show nI (2 ^ n) - 1 = nI (2 ^ n - 1) from pk_sub (b := 1) (Nat.one_le_two_pow)]
  exact loop 256 0 rfl
theorem mq_sw_lt (G : Nat → Nat) (s : Nat) (hG : ∀ w, G w ≤ 43046721) (m : Nat) : mq_sw G s m ≤ 43046721 * m := by
  induction m with
  | zero => exact Nat.le_refl _
  | succ m ih =>
    have e1 : mq_sw G s (m + 1) = mq_sw G s m + (if s &&& m = s then G m else 0) := rfl
    have := hG m
    rw [e1]
    split <;> omega
theorem qs_holdingAll (L : Nat) {s : Nat} (i : mMI) (l : mML) (h : s < 256) : qf_Worlds_holdingAll L (nI s) i l = some (l 26 s, i, l) := by
  refine qe_Worlds_holdingAll L _ i l _ ?_
  simp only [qs_Two_atL_26 L i l h, Option.bind_some]
theorem qs_total (L : Nat) (i : mMI) (l : mML) : qf_Worlds_total L i l = some (l 26 0, i, l) := by
  refine qe_Worlds_total L i l _ ?_
  have h := qs_Two_atL_26 L (j := 0) i l (by omega)
  rw [show (0 : Int32) = nI 0 from rfl, h, Option.bind_some]
theorem mq_pow_lt {a b : Nat} (h : a < b) : 2 ^ a < 2 ^ b := Nat.pow_lt_pow_right (by omega) h
theorem qs_surelyGood (L : Nat) {n : Nat} (i : mMI) (l : mML) (G : Nat → Nat) (hG : ∀ w, G w ≤ 43046721) (h7 : i 24 7 = nI n) (h9 : i 24 9 = nI (mq_cnt G 256)) (hn : n ≤ 8) (hH : ∀ s, s < 2 ^ n → l 26 s = lN (mq_sw G s 256)) : qf_Worlds_surelyGood L i l = some (nI (mq_sure G false n), i, l) := by
  have hp := mq_pow hn
  have hc := mq_cnt_le G 256
  have hb := fun s => mq_sw_lt G s hG 256
  have loop : ∀ (m b : Nat), b + m = n → mq_cnt G 256 ≠ 0 → qf_Worlds_surelyGood_p4 L (nI (mq_sg (fun b => decide (mq_sw G (2 ^ b) 256 = if false = true then 0 else mq_sw G 0 256)) b)) (nI b) i l = some (nI (mq_sg (fun b => decide (mq_sw G (2 ^ b) 256 = if false = true then 0 else mq_sw G 0 256)) n), i, l) := by
    intro m
    induction m with
    | zero =>
      intro b hbn h0
      have hbn : b = n := hbn
      subst hbn
      refine qe_Worlds_surelyGood_p4 L _ _ i l _ ?_
      rw [h7, if_pos (nI_le (Nat.le_refl _) (by omega))]
    | succ m ih =>
      intro b hbn h0
      have next := ih (b + 1) (by omega) h0
      have hpb := mq_pow_lt (show b < n by omega)
      have e0 : (l 26 0) = lN (mq_sw G 0 256) := hH 0 (Nat.pow_pos (by omega))
      have eb : (l 26 (2 ^ b)) = lN (mq_sw G (2 ^ b) 256) := hH _ hpb
      have b1 := hb 0
      have b2 := hb (2 ^ b)
      refine qe_Worlds_surelyGood_p4 L _ _ i l _ ?_
      rw [h7, if_neg (nI_ge (show b < n by omega) (by omega)), h9, if_neg (nI_nle (by omega) (by omega)), mq_shl (by omega)]
      simp only [qs_holdingAll L i l (show 2 ^ b < 256 by omega), qs_total L i l, Option.bind_some, e0, eb, nI_1]
      simp only [mq_sg] at next
      by_cases h : mq_sw G (2 ^ b) 256 = mq_sw G 0 256
      · rw [if_pos ((mq_cl (by omega) (by omega)).mpr h), mq_or]
        rw [if_pos (decide_eq_true (by rw [if_neg (by decide)]; exact h))] at next
        exact next
      · rw [if_neg (fun q => h ((mq_cl (by omega) (by omega)).mp q))]
        rw [if_neg (fun q => h (by have := of_decide_eq_true q; rw [if_neg (by decide)] at this; exact this))] at next
        exact next
  unfold mq_sure
  refine qe_Worlds_surelyGood L i l _ ?_
  by_cases h : mq_cnt G 256 = 0
  · rw [if_pos h]
    refine qe_Worlds_surelyGood_p4 L _ _ i l _ ?_
    rw [h7, h9, h]
    by_cases hz : nI n ≤ (0 : Int32)
    · rw [if_pos hz]; rfl
    · rw [if_neg hz, if_pos (by decide)]; rfl
  · rw [if_neg h]
    exact loop n 0 (by omega) h
theorem qs_surelyFlat (L : Nat) {n : Nat} (i : mMI) (l : mML) (G : Nat → Nat) (hG : ∀ w, G w ≤ 43046721) (h7 : i 24 7 = nI n) (h9 : i 24 9 = nI (mq_cnt G 256)) (hn : n ≤ 8) (hH : ∀ s, s < 2 ^ n → l 26 s = lN (mq_sw G s 256)) : qf_Worlds_surelyFlat L i l = some (nI (mq_sure G true n), i, l) := by
  have hp := mq_pow hn
  have hc := mq_cnt_le G 256
  have hb := fun s => mq_sw_lt G s hG 256
  have loop : ∀ (m b : Nat), b + m = n → mq_cnt G 256 ≠ 0 → qf_Worlds_surelyFlat_p4 L (nI (mq_sg (fun b => decide (mq_sw G (2 ^ b) 256 = if true = true then 0 else mq_sw G 0 256)) b)) (nI b) i l = some (nI (mq_sg (fun b => decide (mq_sw G (2 ^ b) 256 = if true = true then 0 else mq_sw G 0 256)) n), i, l) := by
    intro m
    induction m with
    | zero =>
      intro b hbn h0
      have hbn : b = n := hbn
      subst hbn
      refine qe_Worlds_surelyFlat_p4 L _ _ i l _ ?_
      rw [h7, if_pos (nI_le (Nat.le_refl _) (by omega))]
    | succ m ih =>
      intro b hbn h0
      have next := ih (b + 1) (by omega) h0
      have hpb := mq_pow_lt (show b < n by omega)
      have eb : (l 26 (2 ^ b)) = lN (mq_sw G (2 ^ b) 256) := hH _ hpb
      have b2 := hb (2 ^ b)
      refine qe_Worlds_surelyFlat_p4 L _ _ i l _ ?_
      rw [h7, if_neg (nI_ge (show b < n by omega) (by omega)), h9, if_neg (nI_nle (by omega) (by omega)), mq_shl (by omega)]
      simp only [qs_holdingAll L i l (show 2 ^ b < 256 by omega), Option.bind_some, eb, nI_1]
      simp only [mq_sg] at next
      by_cases h : mq_sw G (2 ^ b) 256 = 0
      · rw [if_pos ((mq_c0 (by omega)).mpr h), mq_or]
        rw [if_pos (decide_eq_true (by rw [if_pos trivial]; exact h))] at next
        exact next
      · rw [if_neg (fun q => h ((mq_c0 (by omega)).mp q))]
        rw [if_neg (fun q => h (by have := of_decide_eq_true q; rw [if_pos trivial] at this; exact this))] at next
        exact next
  unfold mq_sure
  refine qe_Worlds_surelyFlat L i l _ ?_
  by_cases h : mq_cnt G 256 = 0
  · rw [if_pos h]
    refine qe_Worlds_surelyFlat_p4 L _ _ i l _ ?_
    rw [h7, h9, h]
    by_cases hz : nI n ≤ (0 : Int32)
    · rw [if_pos hz]; rfl
    · rw [if_neg hz, if_pos (by decide)]; rfl
  · rw [if_neg h]
    exact loop n 0 (by omega) h
