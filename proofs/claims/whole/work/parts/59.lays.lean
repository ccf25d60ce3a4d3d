/-! Both sides lay the same pairs. -/
theorem mq_hp_at0 : ∀ n, n < 9 → ∀ h, h < 9 → ∀ k, k < 9 → (List.range 9).all (fun p => !(decide (mq_hS n h k ≤ p) && decide (p < mq_hS n h (k + 1))) || decide (mq_hp n h p = k)) = true := by decide +kernel
theorem mq_hp_at (n : Nat) (hn : n < 9) (h : Nat) (hh : h < 9) (k : Nat) (hk : k < 9) (p : Nat) (hp : p < 9) (h1 : mq_hS n h k ≤ p) (h2 : p < mq_hS n h (k + 1)) : mq_hp n h p = k := by
  have q := List.all_eq_true.mp (mq_hp_at0 n hn h hh k hk) p (List.mem_range.mpr hp)
  rw [decide_eq_true h1, decide_eq_true h2] at q
  exact of_decide_eq_true q
theorem mq_hS_s : ∀ n, n < 9 → ∀ h, h < 9 → ∀ k, k < 9 → mq_hS n h (k + 1) = mq_hS n h k + (if n % h ≤ k then n / h else n / h + 1) := by decide +kernel
theorem mq_hS_n : ∀ n, n < 9 → ∀ h, h < 9 → 1 ≤ h → mq_hS n h h = n ∧ ∀ k, k < h → mq_hS n h (k + 1) ≤ n := by decide +kernel
theorem mq_hc_in {n g : Nat} (hn : 2 ≤ n ∧ n ≤ 8) (hg : g ≤ n) : 1 ≤ mq_hc g ∧ mq_hc g ≤ n ∧ mq_hc g < 9 ∧ 1 ≤ n / mq_hc g := by
  have h : 1 ≤ mq_hc g ∧ mq_hc g ≤ n := by
    unfold mq_hc
    split <;> omega
  exact ⟨h.1, h.2, by omega, Nat.div_pos h.2 h.1⟩
theorem mq_hcI : ∀ g, g < 9 → (if (1 : Int32) < nI g - 1 then nI g - 1 else (1 : Int32)) = nI (mq_hc g) := by decide +kernel
def mq_b (f : Bool) : Int32 := if f = true then 1 else 0
theorem qs_fillHeaps (L : Nat) {n h : Nat} (i : mMI) (l : mML) (hn : n ≤ 8) (hh : 1 ≤ h ∧ h ≤ n) (h8 : i 35 8 = nI n) : ∃ i', qf_Evening_fillHeaps L (nI h) i l = some (i', l) ∧ (∀ p, p < n → i' 38 p = nI (mq_hp n h p)) ∧ ∀ k, k ≠ 38 → i' k = i k := by
  have hS := mq_hS_n n (by omega) h (by omega) hh.1
  have e0 : ¬ nI h = (0 : Int32) := nI_ne0 (by omega) (by omega)
  have eD : nI n / nI h = nI (n / h) := pk_div (by omega) (by omega) (by omega)
  have eR : nI n - nI n / nI h * nI h = nI (n % h) := pk_rem (by omega) (by omega) (by omega)
  have hq : n / h ≤ n := Nat.div_le_self n h
  have hr : n % h ≤ n := Nat.mod_le n h
  have outer : ∀ (m k : Nat), k + m = h → ∀ i1 : mMI, (∀ p, p < mq_hS n h k → i1 38 p = nI (mq_hp n h p)) → (∀ c, c ≠ 38 → i1 c = i c) → ∃ i', qf_Evening_fillHeaps_p10 L (nI h) (nI (mq_hS n h k)) (nI k) i1 l = some (i', l) ∧ (∀ p, p < n → i' 38 p = nI (mq_hp n h p)) ∧ ∀ k, k ≠ 38 → i' k = i k := by
    intro m
    induction m with
    | zero =>
      intro k hk i1 a1 a2
      have hk : k = h := hk
      subst hk
      refine ⟨i1, qe_Evening_fillHeaps_p10 L _ _ _ i1 l _ ?_, fun p hp => a1 p (by omega), a2⟩
      rw [if_pos (nI_le (Nat.le_refl _) (by omega))]
    | succ m ih =>
      intro k hk i1 a1 a2
      have hlt : k < h := by omega
      have hs := mq_hS_s n (by omega) h (by omega) k (by omega)
      have hb := hS.2 k hlt
      have inner : ∀ (sz : Nat), mq_hS n h (k + 1) = mq_hS n h k + sz → ∀ (m' j : Nat), j + m' = sz → ∀ i2 : mMI, (∀ p, p < mq_hS n h k + j → i2 38 p = nI (mq_hp n h p)) → (∀ c, c ≠ 38 → i2 c = i c) → ∃ i', qf_Evening_fillHeaps_p42 L (nI h) (nI (mq_hS n h k + j)) (nI k) (nI sz) (nI j) i2 l = some (i', l) ∧ (∀ p, p < n → i' 38 p = nI (mq_hp n h p)) ∧ ∀ k, k ≠ 38 → i' k = i k := by
        intro sz hsz m'
        induction m' with
        | zero =>
          intro j hj i2 b1 b2
          have hj : j = sz := hj
          subst hj
          obtain ⟨i', g1, g2⟩ := ih (k + 1) (by omega) i2 (fun p hp => b1 p (by omega)) b2
          refine ⟨i', qe_Evening_fillHeaps_p42 L _ _ _ _ _ i2 l _ ?_, g2⟩
          rw [if_pos (nI_le (Nat.le_refl _) (by omega)), nI_1, ← hsz]
          exact g1
        | succ m' ih2 =>
          intro j hj i2 b1 b2
          have hat := mq_hp_at n (by omega) h (by omega) k (by omega) (mq_hS n h k + j) (by omega) (by omega) (by omega)
          obtain ⟨i', g1, g2⟩ := ih2 (j + 1) (by omega) (mj_up i2 38 (mq_hS n h k + j) (nI k)) (fun p hp => by
            rw [mq_upi_at]
            by_cases e : p = mq_hS n h k + j
            · rw [if_pos e, e, hat]
            · rw [if_neg e]; exact b1 p (by omega)) (fun c hc => by rw [mq_upn hc]; exact b2 c hc)
          refine ⟨i', qe_Evening_fillHeaps_p42 L _ _ _ _ _ i2 l _ ?_, g2⟩
          rw [if_neg (nI_ge (by omega) (by omega)), qs_Two_store_38 L _ i2 l (by omega), Option.bind_some]
          dsimp only
          rw [nI_1, nI_1]
          exact g1
      by_cases hc : n % h ≤ k
      · rw [if_pos hc] at hs
        obtain ⟨i', g1, g2⟩ := inner (n / h) hs (n / h) 0 (by omega) i1 a1 a2
        refine ⟨i', qe_Evening_fillHeaps_p10 L _ _ _ i1 l _ ?_, g2⟩
        rw [if_neg (nI_ge hlt (by omega)), if_neg e0, if_neg e0, a2 35 (by omega), h8]
        simp only [eR]
        rw [if_pos (nI_le hc (by omega)), eD, show (0 : Int32) = nI 0 from rfl, nI_add]
        exact g1
      · rw [if_neg hc] at hs
        obtain ⟨i', g1, g2⟩ := inner (n / h + 1) hs (n / h + 1) 0 (by omega) i1 a1 a2
        refine ⟨i', qe_Evening_fillHeaps_p10 L _ _ _ i1 l _ ?_, g2⟩
        rw [if_neg (nI_ge hlt (by omega)), if_neg e0, if_neg e0, a2 35 (by omega), h8]
        simp only [eR]
        rw [if_neg (nI_ge (by omega) (by omega)), eD, nI_1]
        exact g1
  have hS0 : mq_hS n h 0 = 0 := by
    unfold mq_hS
    split <;> omega
  obtain ⟨i', g1, g2⟩ := outer h 0 (by omega) i (fun p hp => absurd hp (by omega)) (fun _ _ => rfl)
  refine ⟨i', qe_Evening_fillHeaps L _ i l _ ?_, g2⟩
  rw [if_pos (show (1 : Int32) ≤ nI h from nI_le (a := 1) hh.1 (by omega))]
  rw [hS0] at g1
  exact g1
theorem qs_laysHeaps (L : Nat) {n g : Nat} (i : mMI) (l : mML) (hn : 2 ≤ n ∧ n ≤ 8) (hg : g ≤ n) (h6 : i 42 6 = nI n) (h8 : i 42 8 = nI g) : ∃ i', qf_Mod_laysHeaps L i l = some (i', l) ∧ (∀ p, p < n → i' 66 p = nI (mq_hp n (mq_hc g) p + 1)) ∧ ∀ k, k ≠ 66 → i' k = i k := by
  obtain ⟨hc1, hc2, hc3, hc4⟩ := mq_hc_in hn hg
  generalize hh : mq_hc g = h at hc1 hc2 hc3 hc4
  have hS := mq_hS_n n (by omega) h (by omega) hc1
  have hq : n / h ≤ n := Nat.div_le_self n h
  have hr : n % h ≤ n := Nat.mod_le n h
  have loop : ∀ (m p : Nat), p + m = n → ∀ (k lf : Nat) (i1 : mMI), k ≤ h → p + lf = mq_hS n h k → (lf ≠ 0 → 1 ≤ k ∧ mq_hS n h (k - 1) ≤ p) → (∀ q, q < p → i1 66 q = nI (mq_hp n h q + 1)) → (∀ c, c ≠ 66 → i1 c = i c) → ∃ i', qf_Mod_laysHeaps_p42 L (nI (n / h)) (nI (n % h)) (nI k) (nI lf) (nI p) i1 l = some (i', l) ∧ (∀ p, p < n → i' 66 p = nI (mq_hp n h p + 1)) ∧ ∀ k, k ≠ 66 → i' k = i k := by
    intro m
    induction m with
    | zero =>
      intro p hp k lf i1 hk hS1 hlf a1 a2
      have hp : p = n := hp
      subst hp
      refine ⟨i1, qe_Mod_laysHeaps_p42 L _ _ _ _ _ i1 l _ ?_, a1, a2⟩
      rw [a2 42 (by omega), h6, if_pos (nI_le (Nat.le_refl _) (by omega))]
    | succ m ih =>
      intro p hp k lf i1 hk hS1 hlf a1 a2
      have hlt : p < n := by omega
      have ez : nI lf = (0 : Int32) ↔ lf = 0 := by
        have : lf ≤ n := by
          rcases Nat.lt_or_ge k h with q | q
          · have b := hS.2 k q
            have s := mq_hS_s n (by omega) h (by omega) k (by omega)
            omega
          · have : k = h := by omega
            rw [this, hS.1] at hS1
            omega
        exact nI_eq (b := 0) (by omega) (by omega)
      have ext : ∀ v, v = mq_hp n h p + 1 → (∀ q, q < p + 1 → mj_up i1 66 p (nI v) 66 q = nI (mq_hp n h q + 1)) ∧ ∀ c, c ≠ 66 → mj_up i1 66 p (nI v) c = i c := by
        intro v hv
        refine ⟨fun q hq => ?_, fun c hc => by rw [mq_upn hc]; exact a2 c hc⟩
        rw [mq_upi_at]
        by_cases e : q = p
        · rw [if_pos e, e, hv]
        · rw [if_neg e]; exact a1 q (by omega)
      by_cases hl : lf = 0
      · subst hl
        have hkh : k < h := by
          rcases Nat.lt_or_ge k h with q | q
          · exact q
          · have : k = h := by omega
            rw [this, hS.1] at hS1
            omega
        have s := mq_hS_s n (by omega) h (by omega) k (by omega)
        have b := hS.2 k hkh
        by_cases hc : n % h ≤ k
        · rw [if_pos hc] at s
          have hat := mq_hp_at n (by omega) h (by omega) k (by omega) p (by omega) (by omega) (by omega)
          obtain ⟨x1, x2⟩ := ext (k + 1) (by omega)
          obtain ⟨w, hw⟩ : ∃ w, n / h = w + 1 := ⟨n / h - 1, by omega⟩
          obtain ⟨i', g1, g2⟩ := ih (p + 1) (by omega) (k + 1) w (mj_up i1 66 p (nI (k + 1))) (by omega) (by omega) (fun _ => ⟨by omega, by rw [Nat.add_sub_cancel]; omega⟩) x1 x2
          refine ⟨i', qe_Mod_laysHeaps_p42 L _ _ _ _ _ i1 l _ ?_, g2⟩
          rw [a2 42 (by omega), h6, if_neg (nI_ge hlt (by omega)), if_pos (ez.mpr rfl), nI_1, if_pos (nI_lt (by omega) (by omega)), if_neg (nI_in (show p < 8 by omega) (by omega)), nI_clamp (by omega), nI_1]
          rw [show nI (n / h) + (-1 : Int32) = nI w by rw [hw]; exact pk_m1 w]
          exact g1
        · rw [if_neg hc] at s
          have hat := mq_hp_at n (by omega) h (by omega) k (by omega) p (by omega) (by omega) (by omega)
          obtain ⟨x1, x2⟩ := ext (k + 1) (by omega)
          obtain ⟨i', g1, g2⟩ := ih (p + 1) (by omega) (k + 1) (n / h) (mj_up i1 66 p (nI (k + 1))) (by omega) (by omega) (fun _ => ⟨by omega, by rw [Nat.add_sub_cancel]; omega⟩) x1 x2
          refine ⟨i', qe_Mod_laysHeaps_p42 L _ _ _ _ _ i1 l _ ?_, g2⟩
          rw [a2 42 (by omega), h6, if_neg (nI_ge hlt (by omega)), if_pos (ez.mpr rfl), nI_1, if_neg (nI_nlt (by omega) (by omega)), if_neg (nI_in (show p < 8 by omega) (by omega)), nI_clamp (by omega), nI_1, nI_1, pk_m1]
          exact g1
      · obtain ⟨k1, k2⟩ := hlf hl
        obtain ⟨k, rfl⟩ : ∃ k', k = k' + 1 := ⟨k - 1, by omega⟩
        rw [Nat.add_sub_cancel] at k2
        have hat := mq_hp_at n (by omega) h (by omega) k (by omega) p (by omega) k2 (by omega)
        obtain ⟨x1, x2⟩ := ext (k + 1) (by omega)
        obtain ⟨lf, rfl⟩ : ∃ lf', lf = lf' + 1 := ⟨lf - 1, by omega⟩
        obtain ⟨i', g1, g2⟩ := ih (p + 1) (by omega) (k + 1) lf (mj_up i1 66 p (nI (k + 1))) (by omega) (by omega) (fun _ => ⟨by omega, by rw [Nat.add_sub_cancel]; omega⟩) x1 x2
        refine ⟨i', qe_Mod_laysHeaps_p42 L _ _ _ _ _ i1 l _ ?_, g2⟩
        rw [a2 42 (by omega), h6, if_neg (nI_ge hlt (by omega)), if_neg (fun q => hl (ez.mp q)), if_neg (nI_in (show p < 8 by omega) (by omega)), nI_clamp (by omega), pk_m1, nI_1]
        exact g1
  have hS0 : mq_hS n h 0 = 0 := by
    unfold mq_hS
    split <;> omega
  obtain ⟨i', g1, g2⟩ := loop n 0 (by omega) 0 0 i (by omega) (by omega) (fun q => absurd rfl q) (fun q hq => absurd hq (by omega)) (fun _ _ => rfl)
  refine ⟨i', qe_Mod_laysHeaps L i l _ ?_, g2⟩
  have e2 : nI g ≤ (2 : Int32) ↔ g ≤ 2 := nI_leI (b := 2) (by omega) (by omega)
  rw [h8, h6]
  by_cases hg2 : g ≤ 2
  · have hh1 : h = 1 := by rw [← hh]; unfold mq_hc; rw [if_neg (by omega)]
    have eD : nI n / (1 : Int32) = nI (n / 1) := pk_div (d := 1) (by omega) (by omega) (by omega)
    have eR : nI n - nI n / (1 : Int32) * (1 : Int32) = nI (n % 1) := pk_rem (d := 1) (by omega) (by omega) (by omega)
    rw [if_pos (e2.mpr hg2), if_neg (by decide), if_neg (by decide), eR, eD]
    rw [hh1] at g1
    exact g1
  · obtain ⟨g', rfl⟩ : ∃ g', g = g' + 1 := ⟨g - 1, by omega⟩
    have hh1 : h = g' := by rw [← hh]; unfold mq_hc; rw [if_pos (by omega)]; omega
    subst hh1
    have eD : nI n / nI h = nI (n / h) := pk_div (by omega) (by omega) (by omega)
    have eR : nI n - nI n / nI h * nI h = nI (n % h) := pk_rem (by omega) (by omega) (by omega)
    have e0 : ¬ nI h = (0 : Int32) := nI_ne0 (by omega) (by omega)
    rw [if_neg (fun q => hg2 (e2.mp q)), nI_pred, if_neg e0, if_neg e0, eR, eD]
    exact g1
theorem mq_app_len {α : Type} {p q Q : List α} (h : p ++ q = Q) : p.length ≤ Q.length := by
  rw [← h, List.length_append]
  omega
section
variable {n g : Nat}
theorem qs_pairWhere (L : Nat) (f : Bool) {i0 : mMI} (i : mMI) (l : mML) (hn : 2 ≤ n ∧ n ≤ 8) (h8 : i0 35 8 = nI n) (h38 : ∀ p, p < n → i0 38 p = nI (mq_hp n (mq_hc g) p)) (Q p0 : List (Nat × Nat)) (hQ : Q.length ≤ 28) (h0 : mq_Ec i0 i p0) (hq : p0 ++ mq_pout n (mq_same n g f) (fun x => x) n 0 = Q) : ∃ i', qf_Evening_pairWhere L (mq_b f) i l = some (i', l) ∧ mq_Ec i0 i' Q := by
  have hpb : ∀ p, p < n → mq_hp n (mq_hc g) p ≤ 9 := by
    have key : ∀ (m k p h : Nat), mq_hpf n h p m k ≤ k + m := by
      intro m
      induction m with
      | zero => intro k p h; exact Nat.le_refl _
      | succ m ih =>
        intro k p h
        simp only [mq_hpf]
        split
        · omega
        · have := ih (k + 1) p h
          omega
    intro p _
    have := key 9 0 p (mq_hc g)
    unfold mq_hp
    omega
  obtain ⟨i', g1, g2⟩ := mq_pgen n (mq_same n g f) (fun x => x) (mq_Ec i0) l (fun a => qf_Evening_pairWhere_p2 L (mq_b f) a) (fun a b => qf_Evening_pairWhere_p14 L (mq_b f) a b)
    (fun i p hi => qe_Evening_pairWhere_p2 L _ _ i l _ (by rw [hi.2.2.2 8 (by omega), h8, if_pos (nI_le (Nat.le_refl _) (by omega))]))
    (fun i p a ha hi r hr => qe_Evening_pairWhere_p2 L _ _ i l _ (by rw [hi.2.2.2 8 (by omega), h8, if_neg (nI_ge ha (by omega)), nI_1]; exact hr))
    (fun i p a ha hi r hr => qe_Evening_pairWhere_p14 L _ _ _ i l _ (by rw [hi.2.2.2 8 (by omega), h8, if_pos (nI_le (Nat.le_refl _) (by omega)), nI_1]; exact hr))
    (fun i p a b hab hb hi => by
      have e8 : i 35 8 = nI n := (hi.2.2.2 8 (by omega)).trans h8
      have ea : i 38 a = nI (mq_hp n (mq_hc g) a) := by rw [hi.2.2.1 38 (by omega) (by omega) (by omega)]; exact h38 a (by omega)
      have eb : i 38 b = nI (mq_hp n (mq_hc g) b) := by rw [hi.2.2.1 38 (by omega) (by omega) (by omega)]; exact h38 b (by omega)
      have b1 := hpb a (by omega)
      have b2 := hpb b (by omega)
      have ee : nI (mq_hp n (mq_hc g) a) = nI (mq_hp n (mq_hc g) b) ↔ mq_hp n (mq_hc g) a = mq_hp n (mq_hc g) b := nI_eq (by omega) (by omega)
      have go : ∀ r, (if nI (mq_hp n (mq_hc g) a) = nI (mq_hp n (mq_hc g) b) then (if (1 : Int32) = mq_b f then ((qf_Evening_addPair L (nI a) (nI b) i l).bind fun q3 => (qf_Evening_pairWhere_p14 L (mq_b f) (nI a) (nI (b + 1)) q3.1 q3.2)) else (qf_Evening_pairWhere_p14 L (mq_b f) (nI a) (nI (b + 1)) i l)) else (if (0 : Int32) = mq_b f then ((qf_Evening_addPair L (nI a) (nI b) i l).bind fun q4 => (qf_Evening_pairWhere_p14 L (mq_b f) (nI a) (nI (b + 1)) q4.1 q4.2)) else (qf_Evening_pairWhere_p14 L (mq_b f) (nI a) (nI (b + 1)) i l))) = some r → qf_Evening_pairWhere_p14 L (mq_b f) (nI a) (nI b) i l = some r := by
        intro r hr
        refine qe_Evening_pairWhere_p14 L _ _ _ i l _ ?_
        rw [e8, if_neg (nI_ge hb (by omega))]
        simp only [qs_Two_at_38 L i l (show a < 8 by omega), qs_Two_at_38 L i l (show b < 8 by omega), Option.bind_some, ea, eb, nI_1]
        exact hr
      refine ⟨fun hc hlen => ?_, fun hc r hr => go r ?_⟩
      · obtain ⟨i', q1, q2⟩ := qs_addPair L a b l hi hlen
        refine ⟨i', q2, fun r hr => go r ?_⟩
        unfold mq_same at hc
        cases f with
        | true =>
          rw [if_pos (ee.mpr (by simpa using hc)), if_pos (by decide), q1, Option.bind_some]
          exact hr
        | false =>
          rw [if_neg (fun q => by have := ee.mp q; simp [this] at hc), if_pos (by decide), q1, Option.bind_some]
          exact hr
      · unfold mq_same at hc
        cases f with
        | true =>
          rw [if_neg (fun q => by have := ee.mp q; simp [this] at hc), if_neg (show ¬ (0 : Int32) = mq_b true by decide)]
          exact hr
        | false =>
          rw [if_pos (ee.mpr (by simpa using hc)), if_neg (show ¬ (1 : Int32) = mq_b false by decide)]
          exact hr) Q hQ p0 i h0 hq
  exact ⟨i', qe_Evening_pairWhere L _ i l _ g1, g2⟩
theorem qs_laysInHeaps (L : Nat) (f : Bool) {i0 : mMI} (i : mMI) (l : mML) (hn : 2 ≤ n ∧ n ≤ 8) (h6 : i0 42 6 = nI n) (h66 : ∀ p, p < n → i0 66 p = nI (mq_hp n (mq_hc g) p + 1)) (Q p0 : List (Nat × Nat)) (hQ : Q.length ≤ 28) (h0 : mq_Em i0 i p0) (hq : p0 ++ mq_pout n (mq_same n g f) (fun x => x) n 0 = Q) : ∃ i', qf_Mod_laysInHeaps L (mq_b f) i l = some (i', l) ∧ mq_Em i0 i' Q := by
  have hpb : ∀ p, p < n → mq_hp n (mq_hc g) p ≤ 9 := by
    have key : ∀ (m k p h : Nat), mq_hpf n h p m k ≤ k + m := by
      intro m
      induction m with
      | zero => intro k p h; exact Nat.le_refl _
      | succ m ih =>
        intro k p h
        simp only [mq_hpf]
        split
        · omega
        · have := ih (k + 1) p h
          omega
    intro p _
    have := key 9 0 p (mq_hc g)
    unfold mq_hp
    omega
  obtain ⟨i', g1, g2⟩ := mq_pgen n (mq_same n g f) (fun x => x) (mq_Em i0) l (fun a => qf_Mod_laysInHeaps_p2 L (mq_b f) a) (fun a b => qf_Mod_laysInHeaps_p14 L (mq_b f) a b)
    (fun i p hi => qe_Mod_laysInHeaps_p2 L _ _ i l _ (by rw [hi.2.2.2 6 (by omega), h6, if_pos (nI_le (Nat.le_refl _) (by omega))]))
    (fun i p a ha hi r hr => qe_Mod_laysInHeaps_p2 L _ _ i l _ (by rw [hi.2.2.2 6 (by omega), h6, if_neg (nI_ge ha (by omega)), nI_1]; exact hr))
    (fun i p a ha hi r hr => qe_Mod_laysInHeaps_p14 L _ _ _ i l _ (by rw [hi.2.2.2 6 (by omega), h6, if_pos (nI_le (Nat.le_refl _) (by omega)), nI_1]; exact hr))
    (fun i p a b hab hb hi => by
      have e6 : i 42 6 = nI n := (hi.2.2.2 6 (by omega)).trans h6
      have ea : i 66 a = nI (mq_hp n (mq_hc g) a + 1) := by rw [hi.2.2.1 66 (by omega) (by omega) (by omega)]; exact h66 a (by omega)
      have eb : i 66 b = nI (mq_hp n (mq_hc g) b + 1) := by rw [hi.2.2.1 66 (by omega) (by omega) (by omega)]; exact h66 b (by omega)
      have b1 := hpb a (by omega)
      have b2 := hpb b (by omega)
      have ee : nI (mq_hp n (mq_hc g) a + 1) = nI (mq_hp n (mq_hc g) b + 1) ↔ mq_hp n (mq_hc g) a = mq_hp n (mq_hc g) b := (nI_eq (by omega) (by omega)).trans (by omega)
      have go : ∀ r, (if nI (mq_hp n (mq_hc g) a + 1) = nI (mq_hp n (mq_hc g) b + 1) then (if mq_b f = (1 : Int32) then ((qf_Mod_laysPair L (nI a) (nI b) i l).bind fun q3 => (qf_Mod_laysInHeaps_p14 L (mq_b f) (nI a) (nI (b + 1)) q3.1 q3.2)) else (qf_Mod_laysInHeaps_p14 L (mq_b f) (nI a) (nI (b + 1)) i l)) else (if mq_b f = (0 : Int32) then ((qf_Mod_laysPair L (nI a) (nI b) i l).bind fun q4 => (qf_Mod_laysInHeaps_p14 L (mq_b f) (nI a) (nI (b + 1)) q4.1 q4.2)) else (qf_Mod_laysInHeaps_p14 L (mq_b f) (nI a) (nI (b + 1)) i l))) = some r → qf_Mod_laysInHeaps_p14 L (mq_b f) (nI a) (nI b) i l = some r := by
        intro r hr
        refine qe_Mod_laysInHeaps_p14 L _ _ _ i l _ ?_
        rw [e6, if_neg (nI_ge hb (by omega)), if_neg (nI_in (show a < 8 by omega) (by omega)), if_neg (nI_in (show b < 8 by omega) (by omega)), nI_clamp (by omega), nI_clamp (by omega), ea, eb, nI_1]
        exact hr
      refine ⟨fun hc hlen => ?_, fun hc r hr => go r ?_⟩
      · obtain ⟨i', q1, q2⟩ := qs_laysPair L a b l hi hlen
        refine ⟨i', q2, fun r hr => go r ?_⟩
        unfold mq_same at hc
        cases f with
        | true =>
          rw [if_pos (ee.mpr (by simpa using hc)), if_pos (by decide), q1, Option.bind_some]
          exact hr
        | false =>
          rw [if_neg (fun q => by have := ee.mp q; simp [this] at hc), if_pos (by decide), q1, Option.bind_some]
          exact hr
      · unfold mq_same at hc
        cases f with
        | true =>
          rw [if_neg (fun q => by have := ee.mp q; simp [this] at hc), if_neg (show ¬ mq_b true = (0 : Int32) by decide)]
          exact hr
        | false =>
          rw [if_pos (ee.mpr (by simpa using hc)), if_neg (show ¬ mq_b false = (1 : Int32) by decide)]
          exact hr) Q hQ p0 i h0 hq
  exact ⟨i', qe_Mod_laysInHeaps L _ i l _ g1, g2⟩
def mq_hh (n : Nat) (f : Bool) (x : Nat) : Nat := if f = true then n - 1 - x else x
theorem qs_pairAll (L : Nat) (f : Bool) {i0 : mMI} (i : mMI) (l : mML) (hn : 2 ≤ n ∧ n ≤ 8) (h8 : i0 35 8 = nI n) (h0 : mq_Ec i0 i []) (hQ : (mq_pout n (fun _ _ => true) (mq_hh n f) n 0).length ≤ 28) : ∃ i', qf_Evening_pairAll L (mq_b f) i l = some (i', l) ∧ mq_Ec i0 i' (mq_pout n (fun _ _ => true) (mq_hh n f) n 0) := by
  have em : nI n - (1 : Int32) = nI (n - 1) := pk_sub (b := 1) (by omega)
  obtain ⟨i', g1, g2⟩ := mq_pgen n (fun _ _ => true) (mq_hh n f) (mq_Ec i0) l (fun a => qf_Evening_pairAll_p9 L (mq_b f) (nI (n - 1)) a) (fun a b => qf_Evening_pairAll_p22 L (mq_b f) (nI (n - 1)) a b)
    (fun i p hi => qe_Evening_pairAll_p9 L _ _ _ i l _ (by rw [hi.2.2.2 8 (by omega), h8, if_pos (nI_le (Nat.le_refl _) (by omega))]))
    (fun i p a ha hi r hr => qe_Evening_pairAll_p9 L _ _ _ i l _ (by rw [hi.2.2.2 8 (by omega), h8, if_neg (nI_ge ha (by omega)), nI_1]; exact hr))
    (fun i p a ha hi r hr => qe_Evening_pairAll_p22 L _ _ _ _ i l _ (by rw [hi.2.2.2 8 (by omega), h8, if_pos (nI_le (Nat.le_refl _) (by omega)), nI_1]; exact hr))
    (fun i p a b hab hb hi => by
      have e8 : i 35 8 = nI n := (hi.2.2.2 8 (by omega)).trans h8
      refine ⟨fun hc hlen => ?_, fun hc => by cases hc⟩
      obtain ⟨i', q1, q2⟩ := qs_addPair L (mq_hh n f a) (mq_hh n f b) l hi hlen
      refine ⟨i', q2, fun r hr => qe_Evening_pairAll_p22 L _ _ _ _ i l _ ?_⟩
      rw [e8, if_neg (nI_ge hb (by omega))]
      cases f with
      | true =>
        have q1 : qf_Evening_addPair L (nI (n - 1 - a)) (nI (n - 1 - b)) i l = some (i', l) := q1
        rw [if_neg (show ¬ mq_b true = (0 : Int32) by decide), if_neg (show ¬ mq_b true = (0 : Int32) by decide), pk_sub (by omega), pk_sub (by omega), q1, Option.bind_some, nI_1]
        exact hr
      | false =>
        have q1 : qf_Evening_addPair L (nI a) (nI b) i l = some (i', l) := q1
        rw [if_pos (show mq_b false = (0 : Int32) by decide), if_pos (show mq_b false = (0 : Int32) by decide), q1, Option.bind_some, nI_1]
        exact hr) _ hQ [] i h0 rfl
  refine ⟨i', qe_Evening_pairAll L _ i l _ ?_, g2⟩
  rw [h0.2.2.2 8 (by omega), h8, em]
  exact g1
theorem qs_lays85 (L : Nat) {k : Nat} {i0 : mMI} (i : mMI) (l : mML) (hn : 2 ≤ n ∧ n ≤ 8) (hk : k ≤ 5) (h6 : i0 42 6 = nI n) (h0 : mq_Em i0 i []) (hQ : (mq_pout n (fun _ _ => true) (mq_hh n (decide (k = 3))) n 0).length ≤ 28) : ∃ i', qf_Mod_laysPairs_p85 L (nI k) 0 i l = some (i', l) ∧ mq_Em i0 i' (mq_pout n (fun _ _ => true) (mq_hh n (decide (k = 3))) n 0) := by
  have em : nI n - (1 : Int32) = nI (n - 1) := pk_sub (b := 1) (by omega)
  have e3 : nI k = (3 : Int32) ↔ k = 3 := nI_eq (b := 3) (by omega) (by omega)
  exact mq_pgen n (fun _ _ => true) (mq_hh n (decide (k = 3))) (mq_Em i0) l (fun a => qf_Mod_laysPairs_p85 L (nI k) a) (fun a b => qf_Mod_laysPairs_p97 L (nI k) a b)
    (fun i p hi => qe_Mod_laysPairs_p85 L _ _ i l _ (by rw [hi.2.2.2 6 (by omega), h6, if_pos (nI_le (Nat.le_refl _) (by omega))]))
    (fun i p a ha hi r hr => qe_Mod_laysPairs_p85 L _ _ i l _ (by rw [hi.2.2.2 6 (by omega), h6, if_neg (nI_ge ha (by omega)), nI_1]; exact hr))
    (fun i p a ha hi r hr => qe_Mod_laysPairs_p97 L _ _ _ i l _ (by rw [hi.2.2.2 6 (by omega), h6, if_pos (nI_le (Nat.le_refl _) (by omega)), nI_1]; exact hr))
    (fun i p a b hab hb hi => by
      have e6 : i 42 6 = nI n := (hi.2.2.2 6 (by omega)).trans h6
      refine ⟨fun hc hlen => ?_, fun hc => by cases hc⟩
      obtain ⟨i', q1, q2⟩ := qs_laysPair L (mq_hh n (decide (k = 3)) a) (mq_hh n (decide (k = 3)) b) l hi hlen
      refine ⟨i', q2, fun r hr => qe_Mod_laysPairs_p97 L _ _ _ i l _ ?_⟩
      rw [e6, if_neg (nI_ge hb (by omega))]
      by_cases hk3 : k = 3
      · have q1 : qf_Mod_laysPair L (nI (n - 1 - a)) (nI (n - 1 - b)) i l = some (i', l) := by
          rw [decide_eq_true hk3] at q1
          exact q1
        rw [if_pos (e3.mpr hk3), if_pos (e3.mpr hk3), em, pk_sub (by omega), pk_sub (by omega), q1, Option.bind_some, nI_1]
        exact hr
      · have q1 : qf_Mod_laysPair L (nI a) (nI b) i l = some (i', l) := by
          rw [decide_eq_false hk3] at q1
          exact q1
        rw [if_neg (fun q => hk3 (e3.mp q)), if_neg (fun q => hk3 (e3.mp q)), q1, Option.bind_some, nI_1]
        exact hr) _ hQ [] i h0 rfl
theorem qs_pairNeighbours (L : Nat) {i0 : mMI} (i : mMI) (l : mML) (hn : 2 ≤ n ∧ n ≤ 8) (h8 : i0 35 8 = nI n) (h0 : mq_Ec i0 i []) (hQ : (mq_nout n (n - 1) 1).length ≤ 28) : ∃ i', qf_Evening_pairNeighbours L i l = some (i', l) ∧ mq_Ec i0 i' (mq_nout n (n - 1) 1) := by
  obtain ⟨i', g1, g2⟩ := mq_ngen n (mq_Ec i0) l (fun d => qf_Evening_pairNeighbours_p2 L d) (fun d a => qf_Evening_pairNeighbours_p12 L d a)
    (fun i p hi => qe_Evening_pairNeighbours_p2 L _ i l _ (by rw [hi.2.2.2 8 (by omega), h8, if_pos (nI_le (Nat.le_refl _) (by omega))]))
    (fun i p d hd hi r hr => qe_Evening_pairNeighbours_p2 L _ i l _ (by rw [hi.2.2.2 8 (by omega), h8, if_neg (nI_ge hd (by omega))]; exact hr))
    (fun i p d a hd ha hi r hr => qe_Evening_pairNeighbours_p12 L _ _ i l _ (by rw [hi.2.2.2 8 (by omega), h8, nI_add, if_pos (nI_le (by omega) (by omega)), nI_1]; exact hr))
    (fun i p d a hda hi hlen => by
      have e8 : i 35 8 = nI n := (hi.2.2.2 8 (by omega)).trans h8
      obtain ⟨i', q1, q2⟩ := qs_addPair L a (a + d) l hi hlen
      refine ⟨i', q2, fun r hr => qe_Evening_pairNeighbours_p12 L _ _ i l _ ?_⟩
      rw [e8, nI_add, if_neg (nI_ge hda (by omega)), q1, Option.bind_some, nI_1]
      exact hr) _ hQ i h0 (by omega) rfl
  exact ⟨i', qe_Evening_pairNeighbours L i l _ g1, g2⟩
theorem qs_lays42 (L : Nat) {i0 : mMI} (i : mMI) (l : mML) (hn : 2 ≤ n ∧ n ≤ 8) (h6 : i0 42 6 = nI n) (h0 : mq_Em i0 i []) (hQ : (mq_nout n (n - 1) 1).length ≤ 28) : ∃ i', qf_Mod_laysPairs_p42 L 1 i l = some (i', l) ∧ mq_Em i0 i' (mq_nout n (n - 1) 1) :=
  mq_ngen n (mq_Em i0) l (fun d => qf_Mod_laysPairs_p42 L d) (fun d a => qf_Mod_laysPairs_p52 L d a)
    (fun i p hi => qe_Mod_laysPairs_p42 L _ i l _ (by rw [hi.2.2.2 6 (by omega), h6, if_pos (nI_le (Nat.le_refl _) (by omega))]))
    (fun i p d hd hi r hr => qe_Mod_laysPairs_p42 L _ i l _ (by rw [hi.2.2.2 6 (by omega), h6, if_neg (nI_ge hd (by omega))]; exact hr))
    (fun i p d a hd ha hi r hr => qe_Mod_laysPairs_p52 L _ _ i l _ (by rw [hi.2.2.2 6 (by omega), h6, nI_add, if_pos (nI_le (by omega) (by omega)), nI_1]; exact hr))
    (fun i p d a hda hi hlen => by
      have e6 : i 42 6 = nI n := (hi.2.2.2 6 (by omega)).trans h6
      obtain ⟨i', q1, q2⟩ := qs_laysPair L a (a + d) l hi hlen
      refine ⟨i', q2, fun r hr => qe_Mod_laysPairs_p52 L _ _ i l _ ?_⟩
      rw [e6, nI_add, if_neg (nI_ge hda (by omega)), q1, Option.bind_some, nI_1]
      exact hr) _ hQ i h0 (by omega) rfl
end
