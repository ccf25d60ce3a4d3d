/-! Putting back on the class's side; what is known behind an evening. -/
def mq_gd : Option (Nat × Nat) → Nat
  | none => 0
  | some p => 2 ^ p.1 ||| 2 ^ p.2
def mq_kf (dk : Nat → Nat) : Option (Nat × Nat) → Nat
  | none => 0
  | some p => dk p.1 ||| dk p.2
def mq_ff (r la : Nat) (o : Option (Nat × Nat)) : Nat := if r = 1 then mq_gd o else if r = 3 then mq_gd o else if r = 4 then la else 0
def mq_tt (r : Nat) (dk : Nat → Nat) (o : Option (Nat × Nat)) : Nat := if r = 2 then mq_kf dk o else if r = 3 then mq_kf dk o else 0
theorem mq_run_ok {k n g F W : Nat} : ∀ (t : List (Nat × Nat)) (m la : Nat) (dk : Nat → Nat), mq_fr dk t → (∀ x, (dk x).testBit x = false) → (∀ x, dk x < 256) → (∀ p ∈ t, p.1 < n ∧ p.2 < n) → la < 256 →
    (∀ x, (mq_run k n g F W t m la dk).2.2.2 x < 256) ∧ (mq_run k n g F W t m la dk).2.1 < 256 ∧ ∀ p, (mq_run k n g F W t m la dk).2.2.1 = some p → (mq_run k n g F W t m la dk).2.1 = 2 ^ p.1 ||| 2 ^ p.2 ∧ p.1 < n ∧ p.2 < n ∧ p.1 ≠ p.2 ∧ p.1 < 8 ∧ p.2 < 8 ∧ m + 1 ≤ (mq_run k n g F W t m la dk).1 ∧ (2 ^ p.1 ||| 2 ^ p.2) &&& ((mq_run k n g F W t m la dk).2.2.2 p.1 ||| (mq_run k n g F W t m la dk).2.2.2 p.2) = 0 ∧ ((mq_run k n g F W t m la dk).1 = m + 1 → (mq_run k n g F W t m la dk).2.2.2 = dk) := by
  intro t
  induction t with
  | nil =>
    intro m la dk hf hs hd hn hl
    exact ⟨hd, hl, fun p h => by cases h⟩
  | cons q t ih =>
    intro m la dk hf hs hd hn hl
    obtain ⟨q1, q2, q3, q4, q5⟩ := hf.1 q (List.mem_cons_self ..)
    obtain ⟨n1, n2⟩ := hn q (List.mem_cons_self ..)
    have ht : ∀ p ∈ t, p.1 < n ∧ p.2 < n := fun p hp => hn p (List.mem_cons_of_mem _ hp)
    have hor : 2 ^ q.1 ||| 2 ^ q.2 < 256 := Nat.or_lt_two_pow (n := 8) (mq_pow_lt q1) (mq_pow_lt q2)
    by_cases h1 : (mq_lt k n g F dk q.1 || mq_lt k n g F dk q.2) = true
    · have er : mq_run k n g F W (q :: t) m la dk = mq_run k n g F W t m la dk := by
        simp only [mq_run]
        rw [if_pos h1]
      rw [er]
      exact ih m la dk (mq_fr_tail hf) hs hd ht hl
    · by_cases h2 : (W.testBit q.1 && W.testBit q.2) = true
      · have er : mq_run k n g F W (q :: t) m la dk = (m + 1, 2 ^ q.1 ||| 2 ^ q.2, some q, dk) := by
          simp only [mq_run]
          rw [if_neg h1, if_pos h2]
        rw [er]
        refine ⟨hd, hor, fun p hp => ?_⟩
        cases hp
        refine ⟨rfl, n1, n2, q3, q1, q2, Nat.le_refl _, ?_, fun _ => rfl⟩
        apply Nat.eq_of_testBit_eq
        intro y
        rw [Nat.zero_testBit, Nat.testBit_and, Nat.testBit_or, Nat.testBit_or, Nat.testBit_two_pow, Nat.testBit_two_pow]
        by_cases e1 : q.1 = y
        · rw [← e1, hs q.1, q5]
          simp
        · by_cases e2 : q.2 = y
          · rw [← e2, q4, hs q.2]
            simp
          · rw [decide_eq_false e1, decide_eq_false e2]
            rfl
      · have er : mq_run k n g F W (q :: t) m la dk = mq_run k n g F W t (m + 1) (2 ^ q.1 ||| 2 ^ q.2) (mq_dd dk q.1 q.2) := by
          simp only [mq_run]
          rw [if_neg h1, if_neg h2]
        rw [er]
        have hs2 : ∀ x, (mq_dd dk q.1 q.2 x).testBit x = false := by
          intro x
          unfold mq_dd
          by_cases e1 : x = q.1
          · rw [if_pos e1, Nat.testBit_or, e1, hs q.1, Nat.testBit_two_pow, decide_eq_false (fun z => q3 z.symm)]
            rfl
          · rw [if_neg e1]
            by_cases e2 : x = q.2
            · rw [if_pos e2, Nat.testBit_or, e2, hs q.2, Nat.testBit_two_pow, decide_eq_false q3]
              rfl
            · rw [if_neg e2]; exact hs x
        obtain ⟨r1, r2, r3⟩ := ih (m + 1) _ _ (mq_fr_dd hf) hs2 (mq_dd_lt hd q1 q2) ht hor
        refine ⟨r1, r2, fun p hp => ?_⟩
        obtain ⟨a1, a2, a3, a4, a5, a6, a7, a8, a9⟩ := r3 p hp
        exact ⟨a1, a2, a3, a4, a5, a6, by omega, a8, fun e => absurd e (by omega)⟩
theorem mq_res_ok {D : mq_D} (hO : mq_Ok D) {k F W : Nat} {lie : Nat → Nat} (hk : k ≤ 5) (hl1 : ∀ j, j < D 0 0 → lie j < D 0 0) (hl2 : ∀ a b, a < D 0 0 → b < D 0 0 → lie a = lie b → a = b) :
    (∀ x, (mq_res D k F W lie).2.2.2 x < 256) ∧ (mq_res D k F W lie).2.1 < 256 ∧ ∀ p, (mq_res D k F W lie).2.2.1 = some p → (mq_res D k F W lie).2.1 = 2 ^ p.1 ||| 2 ^ p.2 ∧ p.1 < D 0 0 ∧ p.2 < D 0 0 ∧ p.1 ≠ p.2 ∧ p.1 < 8 ∧ p.2 < 8 ∧ 0 + 1 ≤ (mq_res D k F W lie).1 ∧ (2 ^ p.1 ||| 2 ^ p.2) &&& ((mq_res D k F W lie).2.2.2 p.1 ||| (mq_res D k F W lie).2.2.2 p.2) = 0 ∧ ((mq_res D k F W lie).1 = 0 + 1 → (mq_res D k F W lie).2.2.2 = fun _ => 0) := by
  have hnew := mq_pl_new hO.1.2 hO.2.2.2.2.2.1 hk
  have hin := mq_newb_in _ hnew
  refine mq_run_ok _ 0 0 _ (mq_fr_new hO.1.2 hl1 hl2 _ hnew) (fun x => Nat.zero_testBit _) (fun _ => by omega) (fun p hp => ?_) (by omega)
  obtain ⟨q, hq, rfl⟩ := List.mem_map.mp hp
  obtain ⟨h1, h2⟩ := hin q hq
  exact ⟨hl1 _ h1, hl1 _ h2⟩
/-- what comes first and what comes last have nothing in common -/
theorem mq_ff_tt {D : mq_D} (hO : mq_Ok D) {k F W : Nat} {lie : Nat → Nat} (hk : k ≤ 5) (hl1 : ∀ j, j < D 0 0 → lie j < D 0 0) (hl2 : ∀ a b, a < D 0 0 → b < D 0 0 → lie a = lie b → a = b) (r : Nat) :
    mq_ff r (mq_res D k F W lie).2.1 (mq_res D k F W lie).2.2.1 < 256 ∧ mq_tt r (mq_res D k F W lie).2.2.2 (mq_res D k F W lie).2.2.1 < 256 ∧ mq_ff r (mq_res D k F W lie).2.1 (mq_res D k F W lie).2.2.1 &&& mq_tt r (mq_res D k F W lie).2.2.2 (mq_res D k F W lie).2.2.1 = 0 := by
  obtain ⟨h1, h2, h3⟩ := mq_res_ok hO (F := F) (W := W) hk hl1 hl2
  have g : mq_gd (mq_res D k F W lie).2.2.1 < 256 ∧ mq_kf (mq_res D k F W lie).2.2.2 (mq_res D k F W lie).2.2.1 < 256 ∧ mq_gd (mq_res D k F W lie).2.2.1 &&& mq_kf (mq_res D k F W lie).2.2.2 (mq_res D k F W lie).2.2.1 = 0 := by
    cases ho : (mq_res D k F W lie).2.2.1 with
    | none => exact ⟨(by show 0 < 256; omega), (by show 0 < 256; omega), Nat.zero_and _⟩
    | some p =>
      obtain ⟨a1, a2, a3, a4, a5, a6, a7, a8, a9⟩ := h3 p ho
      exact ⟨Nat.or_lt_two_pow (n := 8) (mq_pow_lt a5) (mq_pow_lt a6), Nat.or_lt_two_pow (n := 8) (h1 _) (h1 _), a8⟩
  unfold mq_ff mq_tt
  by_cases r1 : r = 1
  · rw [if_pos r1, if_neg (by omega), if_neg (by omega)]
    exact ⟨g.1, by omega, Nat.and_zero _⟩
  · rw [if_neg r1]
    by_cases r3 : r = 3
    · rw [if_pos r3, if_neg (by omega), if_pos r3]
      exact g
    · rw [if_neg r3, if_neg r3]
      by_cases r4 : r = 4
      · rw [if_pos r4, if_neg (by omega)]
        exact ⟨h2, by omega, Nat.and_zero _⟩
      · rw [if_neg r4]
        by_cases r2 : r = 2
        · rw [if_pos r2]
          exact ⟨by omega, g.2.1, Nat.zero_and _⟩
        · rw [if_neg r2]
          exact ⟨by omega, by omega, rfl⟩
theorem qs_knownGood (L : Nat) {la : Nat} {o : Option (Nat × Nat)} (i : mMI) (l : mML) (h12 : i 35 12 = nI la) (h13 : i 35 13 = mq_ob o) (ho : ∀ p, o = some p → la = 2 ^ p.1 ||| 2 ^ p.2) : qf_Evening_knownGood L i l = some (nI (mq_gd o), i, l) := by
  refine qe_Evening_knownGood L i l _ ?_
  rw [h12, h13]
  cases o with
  | none => exact if_pos rfl
  | some p =>
    rw [ho p rfl]
    exact if_neg (show ¬ (1 : Int32) = 0 by decide)
theorem qs_knownFlat (L : Nat) {la n : Nat} {o : Option (Nat × Nat)} {dk : Nat → Nat} (i : mMI) (l : mML) (hn : n ≤ 8) (h8 : i 35 8 = nI n) (h12 : i 35 12 = nI la) (h13 : i 35 13 = mq_ob o) (h41 : ∀ x, x < 8 → i 41 x = nI (dk x)) (ho : ∀ p, o = some p → la = 2 ^ p.1 ||| 2 ^ p.2 ∧ p.1 < n ∧ p.2 < n ∧ p.1 ≠ p.2) : qf_Evening_knownFlat L i l = some (nI (mq_kf dk o), i, l) := by
  have kg := qs_knownGood L i l h12 h13 (fun p hp => (ho p hp).1)
  refine qe_Evening_knownFlat L i l _ ?_
  cases o with
  | none =>
    have loop : ∀ (m x : Nat), x + m = n → qf_Evening_knownFlat_p4 L (0 : Int32) (nI x) i l = some ((0 : Int32), i, l) := by
      intro m
      induction m with
      | zero =>
        intro x hx
        have hx : x = n := hx
        refine qe_Evening_knownFlat_p4 L _ _ i l _ ?_
        rw [h8, hx, if_pos (nI_le (Nat.le_refl _) (by omega))]
      | succ m ih =>
        intro x hx
        refine qe_Evening_knownFlat_p4 L _ _ i l _ ?_
        rw [h8, if_neg (nI_ge (by omega) (by omega)), kg, Option.bind_some]
        dsimp only
        have eb := (mq_bit1 (w := mq_gd none) (b := x) (by show 0 < 1024; omega) (by omega)).trans mq_tb1
        rw [if_neg (fun q => by have := eb.mp q; rw [show mq_gd none = 0 from rfl, Nat.zero_testBit] at this; cases this), nI_1]
        exact ih (x + 1) (by omega)
    exact loop n 0 (by omega)
  | some p =>
    obtain ⟨a1, a2, a3, a4⟩ := ho p rfl
    have hgd : mq_gd (some p) < 256 := Nat.or_lt_two_pow (n := 8) (mq_pow_lt (by omega)) (mq_pow_lt (by omega))
    have loop : ∀ (m x : Nat), x + m = n → qf_Evening_knownFlat_p4 L (nI ((if p.1 < x then dk p.1 else 0) ||| (if p.2 < x then dk p.2 else 0))) (nI x) i l = some (nI (mq_kf dk (some p)), i, l) := by
      intro m
      induction m with
      | zero =>
        intro x hx
        have hx : x = n := hx
        refine qe_Evening_knownFlat_p4 L _ _ i l _ ?_
        rw [h8, hx, if_pos (nI_le (Nat.le_refl _) (by omega)), if_pos a2, if_pos a3]
        rfl
      | succ m ih =>
        intro x hx
        have next := ih (x + 1) (by omega)
        refine qe_Evening_knownFlat_p4 L _ _ i l _ ?_
        rw [h8, if_neg (nI_ge (by omega) (by omega)), kg, Option.bind_some]
        dsimp only
        have eb := (mq_bit1 (w := mq_gd (some p)) (b := x) (by omega) (by omega)).trans mq_tb1
        have et : (mq_gd (some p)).testBit x = (decide (p.1 = x) || decide (p.2 = x)) := by
          show (2 ^ p.1 ||| 2 ^ p.2).testBit x = _
          rw [Nat.testBit_or, Nat.testBit_two_pow, Nat.testBit_two_pow]
        by_cases e1 : p.1 = x
        · subst e1
          rw [if_pos (eb.mpr (by rw [et, decide_eq_true rfl]; rfl)), qs_Two_at_41 L i l (by omega), Option.bind_some]
          dsimp only
          rw [h41 p.1 (by omega), mq_or, nI_1]
          rw [if_pos (by omega)] at next
          rw [if_neg (by omega), Nat.zero_or]
          by_cases e2 : p.2 < p.1
          · rw [if_pos (by omega)] at next
            rw [if_pos e2, Nat.or_comm]
            exact next
          · rw [if_neg (by omega), Nat.or_zero] at next
            rw [if_neg e2, Nat.zero_or]
            exact next
        · by_cases e2 : p.2 = x
          · rw [if_pos (eb.mpr (by rw [et, decide_eq_true e2, Bool.or_true])), qs_Two_at_41 L i l (by omega), Option.bind_some]
            dsimp only
            rw [h41 x (by omega), mq_or, nI_1]
            rw [if_pos (show p.2 < x + 1 by omega)] at next
            rw [if_neg (show ¬ p.2 < x by omega), Nat.or_zero]
            by_cases e3 : p.1 < x
            · rw [if_pos (by omega)] at next
              rw [if_pos e3, ← e2]
              rw [← e2] at next
              exact next
            · rw [if_neg (by omega)] at next
              rw [if_neg e3, ← e2]
              rw [← e2] at next
              exact next
          · rw [if_neg (fun q => by have := eb.mp q; rw [et, decide_eq_false e1, decide_eq_false e2] at this; cases this), nI_1]
            have c1 : (if p.1 < x + 1 then dk p.1 else 0) = (if p.1 < x then dk p.1 else 0) := by
              by_cases h : p.1 < x
              · rw [if_pos h, if_pos (by omega)]
              · rw [if_neg h, if_neg (by omega)]
            have c2 : (if p.2 < x + 1 then dk p.2 else 0) = (if p.2 < x then dk p.2 else 0) := by
              by_cases h : p.2 < x
              · rw [if_pos h, if_pos (by omega)]
              · rw [if_neg h, if_neg (by omega)]
            rw [c1, c2] at next
            exact next
    have l0 := loop n 0 (by omega)
    rw [if_neg (by omega), if_neg (by omega)] at l0
    exact l0
theorem mq_rk {r c : Nat} (hr : r ≤ 5) (hc : c < 2 ^ 31) : (nI r = nI c) ↔ r = c := nI_eq (by omega) hc
theorem qs_comingFirst (L : Nat) {la r : Nat} {o : Option (Nat × Nat)} (i : mMI) (l : mML) (hr : r ≤ 5) (h12 : i 35 12 = nI la) (h13 : i 35 13 = mq_ob o) (ho : ∀ p, o = some p → la = 2 ^ p.1 ||| 2 ^ p.2) : qf_Evening_comingFirst L (nI r) i l = some (nI (mq_ff r la o), i, l) := by
  have kg := qs_knownGood L i l h12 h13 ho
  have e1 : nI r = (1 : Int32) ↔ r = 1 := mq_rk (c := 1) hr (by omega)
  have e3 : nI r = (3 : Int32) ↔ r = 3 := mq_rk (c := 3) hr (by omega)
  have e4 : nI r = (4 : Int32) ↔ r = 4 := mq_rk (c := 4) hr (by omega)
  refine qe_Evening_comingFirst L _ i l _ ?_
  unfold mq_ff
  by_cases r1 : r = 1
  · rw [if_pos (e1.mpr r1), if_pos r1, kg, Option.bind_some]
  · rw [if_neg (fun q => r1 (e1.mp q)), if_neg r1]
    by_cases r3 : r = 3
    · rw [if_pos (e3.mpr r3), if_pos r3, kg, Option.bind_some]
    · rw [if_neg (fun q => r3 (e3.mp q)), if_neg r3]
      by_cases r4 : r = 4
      · rw [if_pos (e4.mpr r4), if_pos r4, h12]
      · rw [if_neg (fun q => r4 (e4.mp q)), if_neg r4]
        rfl
theorem qs_comingLast (L : Nat) {la n r : Nat} {o : Option (Nat × Nat)} {dk : Nat → Nat} (i : mMI) (l : mML) (hr : r ≤ 5) (hn : n ≤ 8) (h8 : i 35 8 = nI n) (h12 : i 35 12 = nI la) (h13 : i 35 13 = mq_ob o) (h41 : ∀ x, x < 8 → i 41 x = nI (dk x)) (ho : ∀ p, o = some p → la = 2 ^ p.1 ||| 2 ^ p.2 ∧ p.1 < n ∧ p.2 < n ∧ p.1 ≠ p.2) : qf_Evening_comingLast L (nI r) i l = some (nI (mq_tt r dk o), i, l) := by
  have kf := qs_knownFlat L i l hn h8 h12 h13 h41 ho
  have e2 : nI r = (2 : Int32) ↔ r = 2 := mq_rk (c := 2) hr (by omega)
  have e3 : nI r = (3 : Int32) ↔ r = 3 := mq_rk (c := 3) hr (by omega)
  refine qe_Evening_comingLast L _ i l _ ?_
  unfold mq_tt
  by_cases r2 : r = 2
  · rw [if_pos (e2.mpr r2), if_pos r2, kf, Option.bind_some]
  · rw [if_neg (fun q => r2 (e2.mp q)), if_neg r2]
    by_cases r3 : r = 3
    · rw [if_pos (e3.mpr r3), if_pos r3, kf, Option.bind_some]
    · rw [if_neg (fun q => r3 (e3.mp q)), if_neg r3]
      rfl
theorem qs_layBack (L : Nat) {la n r : Nat} {o : Option (Nat × Nat)} {dk lie : Nat → Nat} (i : mMI) (l : mML) (hr : r ≤ 5) (hn : 2 ≤ n ∧ n ≤ 8) (hl1 : ∀ j, j < n → lie j < n) (h8 : i 35 8 = nI n) (h12 : i 35 12 = nI la) (h13 : i 35 13 = mq_ob o) (h41 : ∀ x, x < 8 → i 41 x = nI (dk x)) (h39 : ∀ p, p < n → i 39 p = nI (lie p)) (ho : ∀ p, o = some p → la = 2 ^ p.1 ||| 2 ^ p.2 ∧ p.1 < n ∧ p.2 < n ∧ p.1 ≠ p.2)
    (hf : mq_ff r la o < 256) (ht : mq_tt r dk o < 256) (hd : mq_ff r la o &&& mq_tt r dk o = 0) :
    ∃ i', qf_Evening_layBack L (nI r) i l = some (i', l) ∧ (∀ p, p < n → i' 39 p = nI (mq_nl lie n r (mq_ff r la o) (mq_tt r dk o) p)) ∧ (∀ p, n ≤ p → i' 39 p = i 39 p) ∧ ∀ k, k ≠ 39 → k ≠ 40 → i' k = i k := by
  have cf := qs_comingFirst L i l hr h12 h13 (fun p hp => (ho p hp).1)
  have cl := qs_comingLast L i l hr hn.2 h8 h12 h13 h41 ho
  have e5 : nI r = (5 : Int32) ↔ r = 5 := mq_rk (c := 5) hr (by omega)
  generalize mq_ff r la o = f at hf hd cf ⊢
  generalize mq_tt r dk o = t at ht hd cl ⊢
  by_cases r5 : r = 5
  · have loop : ∀ (m : Nat), m ≤ n → ∀ i1 : mMI, (∀ q, q < n - m → i1 40 q = nI (lie (n - 1 - q))) → (∀ k, k ≠ 40 → i1 k = i k) → ∃ i', qf_Evening_layBack_p28 L (nI (n - m)) (nI m - 1) i1 l = some (i', l) ∧ (∀ p, p < n → i' 39 p = nI (lie (n - 1 - p))) ∧ (∀ p, n ≤ p → i' 39 p = i 39 p) ∧ ∀ k, k ≠ 39 → k ≠ 40 → i' k = i k := by
      intro m
      induction m with
      | zero =>
        intro _ i1 a1 a2
        obtain ⟨i', g1, g2, g3, g4⟩ := qs_layBack93 L (n := n) (v := fun q => lie (n - 1 - q)) l hn.2 n 0 (by omega) i1 (fun p hp => a1 p (by omega))
        refine ⟨i', qe_Evening_layBack_p28 L _ _ i1 l _ ?_, fun p hp => g2 p (by omega) hp, fun p hp => ?_, fun k k1 k2 => (g4 k k1).trans (a2 k k2)⟩
        · rw [if_pos (by decide)]
          exact g1
        · rw [g3 p (Or.inr hp), a2 39 (by omega)]
      | succ m ih =>
        intro hm i1 a1 a2
        have hlt : m < n := by omega
        have e39 : i1 39 m = nI (lie m) := by rw [a2 39 (by omega)]; exact h39 m hlt
        obtain ⟨i', g1, g2⟩ := ih (by omega) (mj_up i1 40 (n - (m + 1)) (nI (lie m))) (fun q hq => by
          rw [mq_upi_at]
          by_cases e : q = n - (m + 1)
          · rw [if_pos e, e, show n - 1 - (n - (m + 1)) = m by omega]
          · rw [if_neg e]; exact a1 q (by omega)) (fun k hk => (mq_upn hk).trans (a2 k hk))
        refine ⟨i', qe_Evening_layBack_p28 L _ _ i1 l _ ?_, g2⟩
        rw [nI_pred, if_neg (nI_pos (by omega)), qs_Two_at_39 L i1 l (by omega), Option.bind_some]
        simp only [e39]
        rw [qs_layNext L i1 l (by omega), Option.bind_some]
        dsimp only
        rw [show n - (m + 1) + 1 = n - m by omega, show nI m + (-1 : Int32) = nI m - 1 from (Int32.sub_eq_add_neg (nI m) 1).symm]
        exact g1
    obtain ⟨i', g1, g2, g3, g4⟩ := loop n (Nat.le_refl _) i (fun q hq => absurd hq (by omega)) (fun _ _ => rfl)
    refine ⟨i', qe_Evening_layBack L _ i l _ ?_, fun p hp => ?_, g3, g4⟩
    · simp only [cf, cl, Option.bind_some]
      rw [if_pos (e5.mpr r5), h8]
      rw [Nat.sub_self] at g1
      exact g1
    · rw [g2 p hp]
      unfold mq_nl
      rw [if_pos r5]
  · have hlen := mq_lb_len (lie := lie) (n := n) hd
    have hlen2 : (mq_lz lie (mq_c1 f) n 0).length + ((mq_lz lie (mq_c2 f t) n 0).length + (mq_lz lie (mq_c1 t) n 0).length) = n := by
      unfold mq_lb at hlen
      rw [List.length_append, List.length_append] at hlen
      exact hlen
    obtain ⟨i1, b1, b2, b3⟩ := qs_layThose L i l hn.2 hl1 (mq_tl_n hf hn.2) h8 h39 [] (mq_lz lie (mq_c1 f) n 0) (by omega) (fun t s h => by cases h) rfl
    obtain ⟨i2, c1, c2, c3⟩ := qs_layThose L i1 l hn.2 hl1 (mq_tl_c hf ht hn.2) (by rw [b3 35 (by omega)]; exact h8) (fun p hp => by rw [b3 39 (by omega)]; exact h39 p hp) (mq_lz lie (mq_c1 f) n 0) (mq_lz lie (mq_c1 f) n 0 ++ mq_lz lie (mq_c2 f t) n 0) (by rw [List.length_append]; omega) b2 rfl
    obtain ⟨i3, d1, d2, d3⟩ := qs_layThose L i2 l hn.2 hl1 (mq_tl_n ht hn.2) (by rw [c3 35 (by omega), b3 35 (by omega)]; exact h8) (fun p hp => by rw [c3 39 (by omega), b3 39 (by omega)]; exact h39 p hp) _ (mq_lb lie n f t) (by omega) c2 (by unfold mq_lb; rw [List.append_assoc])
    have get : ∀ p, p < n → (mq_lb lie n f t)[p]? = some ((mq_lb lie n f t).getD p 0) := by
      intro p hp
      rw [List.getD_eq_getElem?_getD, List.getElem?_eq_getElem (by omega)]
      rfl
    obtain ⟨i', g1, g2, g3, g4⟩ := qs_layBack93 L (n := n) (v := mq_nl lie n r f t) l hn.2 n 0 (by omega) i3 (fun p hp => by
      rw [d2 p _ (get p hp)]
      unfold mq_nl
      rw [if_neg r5])
    refine ⟨i', qe_Evening_layBack L _ i l _ ?_, fun p hp => g2 p (by omega) hp, fun p hp => ?_, fun k k1 k2 => by rw [g4 k k1, d3 k k2, c3 k k2, b3 k k2]⟩
    · have b1' : qf_Evening_layThose L (nI f) (0 : Int32) i l = some (nI (mq_lz lie (mq_c1 f) n 0).length, i1, l) := b1
      simp only [cf, cl, Option.bind_some]
      rw [if_neg (fun q => r5 (e5.mp q)), b1', Option.bind_some]
      simp only [c1, Option.bind_some, d1]
      rw [hlen]
      exact g1
    · rw [g3 p (Or.inr hp), d3 39 (by omega), c3 39 (by omega), b3 39 (by omega)]
