/-! What all worlds weigh that hold a set: the class's way. -/
/-- what the worlds weigh that hold s, and are like s from battery b on -/
def mq_hs (F : Nat → Nat) : Nat → Nat → Nat
  | 0, s => F s
  | b + 1, s => if s / 2 ^ b % 2 = 0 then mq_hs F b s + mq_hs F b (s + 2 ^ b) else mq_hs F b s
set_option maxRecDepth 100000 in
theorem mq_orb : ∀ s, s < 256 → ∀ b, b < 8 → s / 2 ^ b % 2 = 0 → s ||| 2 ^ b = s + 2 ^ b := by decide +kernel
set_option maxRecDepth 100000 in
theorem mq_andb : ∀ s, s < 256 → ∀ b, b < 8 → (s &&& 2 ^ b = 0 ↔ s / 2 ^ b % 2 = 0) := by decide +kernel
set_option maxRecDepth 100000 in
theorem mq_ltb : ∀ n, n < 9 → ∀ s, s < 2 ^ n → ∀ b, b < n → s / 2 ^ b % 2 = 0 → s + 2 ^ b < 2 ^ n := by decide +kernel
theorem mq_upl_at (l : mML) (a k j : Nat) (v : Int64) : mj_up l a k v a j = if j = k then v else l a j := by simp [mj_up]
theorem qs_weighHolding (L : Nat) (i : mMI) (l : mML) {n : Nat} (F : Nat → Nat) (hn : n ≤ 8) (h7 : i 24 7 = nI n) (h8 : i 24 8 = nI (2 ^ n)) (hF : ∀ w, w < 2 ^ n → l 25 w = lN (F w)) : ∃ l', qf_Worlds_weighHolding L i l = some (i, l') ∧ (∀ k, k ≠ 26 → l' k = l k) ∧ ∀ s, s < 2 ^ n → l' 26 s = lN (mq_hs F n s) := by
  have hp := mq_pow hn
  -- the sums, battery by battery
  have inner : ∀ (b : Nat), b < n → ∀ (G : mML → Prop), (∀ l' : mML, (∀ k, k ≠ 26 → l' k = l k) → (∀ s, s < 2 ^ n → l' 26 s = lN (mq_hs F (b + 1) s)) → ∃ l'', qf_Worlds_weighHolding_p34 L (nI (b + 1)) i l' = some (i, l'') ∧ (∀ k, k ≠ 26 → l'' k = l k) ∧ ∀ s, s < 2 ^ n → l'' 26 s = lN (mq_hs F n s)) →
      ∀ (m s0 : Nat), s0 + m = 2 ^ n → ∀ l' : mML, (∀ k, k ≠ 26 → l' k = l k) → (∀ s, s < s0 → l' 26 s = lN (mq_hs F (b + 1) s)) → (∀ s, s0 ≤ s → s < 2 ^ n → l' 26 s = lN (mq_hs F b s)) → ∃ l'', qf_Worlds_weighHolding_p48 L (nI b) (nI (2 ^ b)) (nI s0) i l' = some (i, l'') ∧ (∀ k, k ≠ 26 → l'' k = l k) ∧ ∀ s, s < 2 ^ n → l'' 26 s = lN (mq_hs F n s) := by
    intro b hb _ K m
    induction m with
    | zero =>
      intro s0 hs l' f1 f2 f3
      have hs : s0 = 2 ^ n := hs
      subst hs
      obtain ⟨l'', g1, g2, g3⟩ := K l' f1 f2
      refine ⟨l'', ?_, g2, g3⟩
      refine qe_Worlds_weighHolding_p48 L _ _ _ i l' _ ?_
      rw [h8, if_pos (nI_le (Nat.le_refl _) (by omega)), nI_1]
      exact g1
    | succ m ih =>
      intro s0 hs l' f1 f2 f3
      have hlt : s0 < 2 ^ n := by omega
      have hand := Nat.and_le_left (n := s0) (m := 2 ^ b)
      have ez : nI (s0 &&& 2 ^ b) = (0 : Int32) ↔ s0 / 2 ^ b % 2 = 0 := (nI_eq (b := 0) (by omega) (by omega)).trans (mq_andb s0 (by omega) b (by omega))
      by_cases hbit : s0 / 2 ^ b % 2 = 0
      · have hsum := mq_ltb n (by omega) s0 hlt b hb hbit
        have hor := mq_orb s0 (by omega) b (by omega) hbit
        obtain ⟨l'', g1, g2, g3⟩ := ih (s0 + 1) (by omega) (mj_up l' 26 s0 (lN (mq_hs F (b + 1) s0))) (fun k hk => (mj_up_ne hk).trans (f1 k hk)) (fun s h => by
          rw [mq_upl_at]
          by_cases e : s = s0
          · rw [if_pos e, e]
          · rw [if_neg e]; exact f2 s (by omega)) (fun s h h2 => by
          rw [mq_upl_at, if_neg (by omega)]
          exact f3 s (by omega) h2)
        refine ⟨l'', ?_, g2, g3⟩
        refine qe_Worlds_weighHolding_p48 L _ _ _ i l' _ ?_
        rw [h8, if_neg (nI_ge hlt (by omega)), mq_and, if_pos (ez.mpr hbit), qs_Two_atL_26 L i l' (by omega), Option.bind_some, mq_or, hor, qs_Two_atL_26 L i l' (by omega), Option.bind_some, qs_Two_storeL_26 L _ i l' (by omega), Option.bind_some]
        simp only [f3 s0 (Nat.le_refl _) hlt, f3 (s0 + 2 ^ b) (Nat.le_add_right _ _) hsum]
        rw [lN_add, nI_1]
        have e : mq_hs F (b + 1) s0 = mq_hs F b s0 + mq_hs F b (s0 + 2 ^ b) := by simp only [mq_hs]; rw [if_pos hbit]
        rw [← e]
        exact g1
      · obtain ⟨l'', g1, g2, g3⟩ := ih (s0 + 1) (by omega) l' f1 (fun s h => by
          by_cases e : s = s0
          · subst e
            rw [f3 s (Nat.le_refl _) hlt]
            simp only [mq_hs]
            rw [if_neg hbit]
          · exact f2 s (by omega)) (fun s h h2 => f3 s (by omega) h2)
        refine ⟨l'', ?_, g2, g3⟩
        refine qe_Worlds_weighHolding_p48 L _ _ _ i l' _ ?_
        rw [h8, if_neg (nI_ge hlt (by omega)), mq_and, if_neg (fun q => hbit (ez.mp q)), nI_1]
        exact g1
  have outer : ∀ (m b : Nat), b + m = n → ∀ l' : mML, (∀ k, k ≠ 26 → l' k = l k) → (∀ s, s < 2 ^ n → l' 26 s = lN (mq_hs F b s)) → ∃ l'', qf_Worlds_weighHolding_p34 L (nI b) i l' = some (i, l'') ∧ (∀ k, k ≠ 26 → l'' k = l k) ∧ ∀ s, s < 2 ^ n → l'' 26 s = lN (mq_hs F n s) := by
    intro m
    induction m with
    | zero =>
      intro b hb l' f1 f2
      have hb : b = n := hb
      subst hb
      refine ⟨l', ?_, f1, f2⟩
      refine qe_Worlds_weighHolding_p34 L _ i l' _ ?_
      rw [h7, if_pos (nI_le (Nat.le_refl _) (by omega))]
    | succ m ih =>
      intro b hb l' f1 f2
      obtain ⟨l'', g1, g2, g3⟩ := inner b (by omega) (fun _ => True) (fun l2 a1 a2 => ih (b + 1) (by omega) l2 a1 a2) (2 ^ n) 0 (by omega) l' f1 (fun s h => absurd h (by omega)) (fun s _ h => f2 s h)
      refine ⟨l'', ?_, g2, g3⟩
      refine qe_Worlds_weighHolding_p34 L _ i l' _ ?_
      rw [h7, if_neg (nI_ge (by omega) (by omega)), mq_shl (by omega)]
      exact g1
  have copy : ∀ (m w : Nat), w + m = 2 ^ n → ∀ l' : mML, (∀ k, k ≠ 26 → l' k = l k) → (∀ s, s < w → l' 26 s = lN (F s)) → ∃ l'', qf_Worlds_weighHolding_p2 L (nI w) i l' = some (i, l'') ∧ (∀ k, k ≠ 26 → l'' k = l k) ∧ ∀ s, s < 2 ^ n → l'' 26 s = lN (mq_hs F n s) := by
    intro m
    induction m with
    | zero =>
      intro w hw l' f1 f2
      have hw : w = 2 ^ n := hw
      subst hw
      obtain ⟨l'', g1, g2, g3⟩ := outer n 0 (by omega) l' f1 f2
      refine ⟨l'', ?_, g2, g3⟩
      refine qe_Worlds_weighHolding_p2 L _ i l' _ ?_
      rw [h8, if_pos (nI_le (Nat.le_refl _) (by omega))]
      exact g1
    | succ m ih =>
      intro w hw l' f1 f2
      obtain ⟨l'', g1, g2, g3⟩ := ih (w + 1) (by omega) (mj_up l' 26 w (lN (F w))) (fun k hk => (mj_up_ne hk).trans (f1 k hk)) (fun s h => by
        rw [mq_upl_at]
        by_cases e : s = w
        · rw [if_pos e, e]
        · rw [if_neg e]; exact f2 s (by omega))
      refine ⟨l'', ?_, g2, g3⟩
      refine qe_Worlds_weighHolding_p2 L _ i l' _ ?_
      rw [h8, if_neg (nI_ge (by omega) (by omega)), qs_Two_atL_25 L i l' (by omega), Option.bind_some]
      simp only [f1 25 (by omega), hF w (by omega)]
      rw [qs_Two_storeL_26 L _ i l' (by omega), Option.bind_some, nI_1]
      exact g1
  obtain ⟨l'', g1, g2, g3⟩ := copy (2 ^ n) 0 (by omega) l (fun _ _ => rfl) (fun s h => absurd h (by omega))
  exact ⟨l'', qe_Worlds_weighHolding L i l _ g1, g2, g3⟩
