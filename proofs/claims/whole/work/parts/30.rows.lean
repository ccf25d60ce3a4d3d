/-! Rows: what at, store and copy do (printed by gen30.py). -/
def mq_cp (i : mMI) (a b n : Nat) : mMI := fun k j => if k = b ∧ j < n then i a j else i k j
theorem mq_cp_0 (i : mMI) (a b : Nat) : mq_cp i a b 0 = i := by
  funext k j
  simp [mq_cp]
theorem mq_cp_s {i : mMI} {a b m : Nat} (h : a ≠ b) : mj_up (mq_cp i a b m) b m (mq_cp i a b m a m) = mq_cp i a b (m + 1) := by
  funext k j
  simp only [mj_up, mq_cp, h, false_and, if_false]
  by_cases hk : k = b
  · subst hk
    simp only [true_and]
    by_cases hj : j = m
    · subst hj
      simp
    · by_cases hl : j < m
      · rw [if_neg hj, if_pos hl, if_pos (by omega)]
      · rw [if_neg hj, if_neg hl, if_neg (by omega)]
  · simp [hk]
theorem qs_Two_at_23 (L : Nat) {j : Nat} (i : mMI) (l : mML) (h : j < 7) : qf_Two_at_23 L (nI j) i l = some (i 23 j, i, l) := by
  refine qe_Two_at_23 L (nI j) i l _ ?_
  rw [if_neg (nI_pos (by omega)), if_neg (show ¬ Int32.ofNat 7 ≤ nI j from nI_ge h (by omega)), if_neg (nI_in h (by omega)), nI_clamp (by omega)]
theorem qs_Two_store_23 (L : Nat) {j : Nat} (v : Int32) (i : mMI) (l : mML) (h : j < 7) : qf_Two_store_23 L (nI j) v i l = some (mj_up i 23 j v, l) := by
  refine qe_Two_store_23 L (nI j) v i l _ ?_
  rw [if_neg (nI_pos (by omega)), if_neg (show ¬ Int32.ofNat 7 ≤ nI j from nI_ge h (by omega)), if_neg (nI_in h (by omega)), nI_clamp (by omega)]
theorem qs_Two_store_21 (L : Nat) {j : Nat} (v : Int32) (i : mMI) (l : mML) (h : j < 96) : qf_Two_store_21 L (nI j) v i l = some (mj_up i 21 j v, l) := by
  refine qe_Two_store_21 L (nI j) v i l _ ?_
  rw [if_neg (nI_pos (by omega)), if_neg (show ¬ Int32.ofNat 96 ≤ nI j from nI_ge h (by omega)), if_neg (nI_in h (by omega)), nI_clamp (by omega)]
theorem qs_Two_at_3 (L : Nat) {j : Nat} (i : mMI) (l : mML) (h : j < 8) : qf_Two_at_3 L (nI j) i l = some (i 3 j, i, l) := by
  refine qe_Two_at_3 L (nI j) i l _ ?_
  rw [if_neg (nI_pos (by omega)), if_neg (show ¬ Int32.ofNat 8 ≤ nI j from nI_ge h (by omega)), if_neg (nI_in h (by omega)), nI_clamp (by omega)]
theorem qs_Two_store_15 (L : Nat) {j : Nat} (v : Int32) (i : mMI) (l : mML) (h : j < 8) : qf_Two_store_15 L (nI j) v i l = some (mj_up i 15 j v, l) := by
  refine qe_Two_store_15 L (nI j) v i l _ ?_
  rw [if_neg (nI_pos (by omega)), if_neg (show ¬ Int32.ofNat 8 ≤ nI j from nI_ge h (by omega)), if_neg (nI_in h (by omega)), nI_clamp (by omega)]
theorem qs_Two_at_4 (L : Nat) {j : Nat} (i : mMI) (l : mML) (h : j < 8) : qf_Two_at_4 L (nI j) i l = some (i 4 j, i, l) := by
  refine qe_Two_at_4 L (nI j) i l _ ?_
  rw [if_neg (nI_pos (by omega)), if_neg (show ¬ Int32.ofNat 8 ≤ nI j from nI_ge h (by omega)), if_neg (nI_in h (by omega)), nI_clamp (by omega)]
theorem qs_Two_store_16 (L : Nat) {j : Nat} (v : Int32) (i : mMI) (l : mML) (h : j < 8) : qf_Two_store_16 L (nI j) v i l = some (mj_up i 16 j v, l) := by
  refine qe_Two_store_16 L (nI j) v i l _ ?_
  rw [if_neg (nI_pos (by omega)), if_neg (show ¬ Int32.ofNat 8 ≤ nI j from nI_ge h (by omega)), if_neg (nI_in h (by omega)), nI_clamp (by omega)]
theorem qs_Two_at_5 (L : Nat) {j : Nat} (i : mMI) (l : mML) (h : j < 8) : qf_Two_at_5 L (nI j) i l = some (i 5 j, i, l) := by
  refine qe_Two_at_5 L (nI j) i l _ ?_
  rw [if_neg (nI_pos (by omega)), if_neg (show ¬ Int32.ofNat 8 ≤ nI j from nI_ge h (by omega)), if_neg (nI_in h (by omega)), nI_clamp (by omega)]
theorem qs_Two_store_17 (L : Nat) {j : Nat} (v : Int32) (i : mMI) (l : mML) (h : j < 8) : qf_Two_store_17 L (nI j) v i l = some (mj_up i 17 j v, l) := by
  refine qe_Two_store_17 L (nI j) v i l _ ?_
  rw [if_neg (nI_pos (by omega)), if_neg (show ¬ Int32.ofNat 8 ≤ nI j from nI_ge h (by omega)), if_neg (nI_in h (by omega)), nI_clamp (by omega)]
theorem qs_Two_at_6 (L : Nat) {j : Nat} (i : mMI) (l : mML) (h : j < 10) : qf_Two_at_6 L (nI j) i l = some (i 6 j, i, l) := by
  refine qe_Two_at_6 L (nI j) i l _ ?_
  rw [if_neg (nI_pos (by omega)), if_neg (show ¬ Int32.ofNat 10 ≤ nI j from nI_ge h (by omega)), if_neg (nI_in h (by omega)), nI_clamp (by omega)]
theorem qs_Two_at_7 (L : Nat) {j : Nat} (i : mMI) (l : mML) (h : j < 10) : qf_Two_at_7 L (nI j) i l = some (i 7 j, i, l) := by
  refine qe_Two_at_7 L (nI j) i l _ ?_
  rw [if_neg (nI_pos (by omega)), if_neg (show ¬ Int32.ofNat 10 ≤ nI j from nI_ge h (by omega)), if_neg (nI_in h (by omega)), nI_clamp (by omega)]
theorem qs_Two_store_18 (L : Nat) {j : Nat} (v : Int32) (i : mMI) (l : mML) (h : j < 10) : qf_Two_store_18 L (nI j) v i l = some (mj_up i 18 j v, l) := by
  refine qe_Two_store_18 L (nI j) v i l _ ?_
  rw [if_neg (nI_pos (by omega)), if_neg (show ¬ Int32.ofNat 10 ≤ nI j from nI_ge h (by omega)), if_neg (nI_in h (by omega)), nI_clamp (by omega)]
theorem qs_Two_store_19 (L : Nat) {j : Nat} (v : Int32) (i : mMI) (l : mML) (h : j < 10) : qf_Two_store_19 L (nI j) v i l = some (mj_up i 19 j v, l) := by
  refine qe_Two_store_19 L (nI j) v i l _ ?_
  rw [if_neg (nI_pos (by omega)), if_neg (show ¬ Int32.ofNat 10 ≤ nI j from nI_ge h (by omega)), if_neg (nI_in h (by omega)), nI_clamp (by omega)]
theorem qs_Two_at_21 (L : Nat) {j : Nat} (i : mMI) (l : mML) (h : j < 96) : qf_Two_at_21 L (nI j) i l = some (i 21 j, i, l) := by
  refine qe_Two_at_21 L (nI j) i l _ ?_
  rw [if_neg (nI_pos (by omega)), if_neg (show ¬ Int32.ofNat 96 ≤ nI j from nI_ge h (by omega)), if_neg (nI_in h (by omega)), nI_clamp (by omega)]
theorem qs_Two_at_15 (L : Nat) {j : Nat} (i : mMI) (l : mML) (h : j < 8) : qf_Two_at_15 L (nI j) i l = some (i 15 j, i, l) := by
  refine qe_Two_at_15 L (nI j) i l _ ?_
  rw [if_neg (nI_pos (by omega)), if_neg (show ¬ Int32.ofNat 8 ≤ nI j from nI_ge h (by omega)), if_neg (nI_in h (by omega)), nI_clamp (by omega)]
theorem qs_Two_store_3 (L : Nat) {j : Nat} (v : Int32) (i : mMI) (l : mML) (h : j < 8) : qf_Two_store_3 L (nI j) v i l = some (mj_up i 3 j v, l) := by
  refine qe_Two_store_3 L (nI j) v i l _ ?_
  rw [if_neg (nI_pos (by omega)), if_neg (show ¬ Int32.ofNat 8 ≤ nI j from nI_ge h (by omega)), if_neg (nI_in h (by omega)), nI_clamp (by omega)]
theorem qs_Two_at_16 (L : Nat) {j : Nat} (i : mMI) (l : mML) (h : j < 8) : qf_Two_at_16 L (nI j) i l = some (i 16 j, i, l) := by
  refine qe_Two_at_16 L (nI j) i l _ ?_
  rw [if_neg (nI_pos (by omega)), if_neg (show ¬ Int32.ofNat 8 ≤ nI j from nI_ge h (by omega)), if_neg (nI_in h (by omega)), nI_clamp (by omega)]
theorem qs_Two_store_4 (L : Nat) {j : Nat} (v : Int32) (i : mMI) (l : mML) (h : j < 8) : qf_Two_store_4 L (nI j) v i l = some (mj_up i 4 j v, l) := by
  refine qe_Two_store_4 L (nI j) v i l _ ?_
  rw [if_neg (nI_pos (by omega)), if_neg (show ¬ Int32.ofNat 8 ≤ nI j from nI_ge h (by omega)), if_neg (nI_in h (by omega)), nI_clamp (by omega)]
theorem qs_Two_at_17 (L : Nat) {j : Nat} (i : mMI) (l : mML) (h : j < 8) : qf_Two_at_17 L (nI j) i l = some (i 17 j, i, l) := by
  refine qe_Two_at_17 L (nI j) i l _ ?_
  rw [if_neg (nI_pos (by omega)), if_neg (show ¬ Int32.ofNat 8 ≤ nI j from nI_ge h (by omega)), if_neg (nI_in h (by omega)), nI_clamp (by omega)]
theorem qs_Two_store_5 (L : Nat) {j : Nat} (v : Int32) (i : mMI) (l : mML) (h : j < 8) : qf_Two_store_5 L (nI j) v i l = some (mj_up i 5 j v, l) := by
  refine qe_Two_store_5 L (nI j) v i l _ ?_
  rw [if_neg (nI_pos (by omega)), if_neg (show ¬ Int32.ofNat 8 ≤ nI j from nI_ge h (by omega)), if_neg (nI_in h (by omega)), nI_clamp (by omega)]
theorem qs_Two_at_18 (L : Nat) {j : Nat} (i : mMI) (l : mML) (h : j < 10) : qf_Two_at_18 L (nI j) i l = some (i 18 j, i, l) := by
  refine qe_Two_at_18 L (nI j) i l _ ?_
  rw [if_neg (nI_pos (by omega)), if_neg (show ¬ Int32.ofNat 10 ≤ nI j from nI_ge h (by omega)), if_neg (nI_in h (by omega)), nI_clamp (by omega)]
theorem qs_Two_at_19 (L : Nat) {j : Nat} (i : mMI) (l : mML) (h : j < 10) : qf_Two_at_19 L (nI j) i l = some (i 19 j, i, l) := by
  refine qe_Two_at_19 L (nI j) i l _ ?_
  rw [if_neg (nI_pos (by omega)), if_neg (show ¬ Int32.ofNat 10 ≤ nI j from nI_ge h (by omega)), if_neg (nI_in h (by omega)), nI_clamp (by omega)]
theorem qs_Two_store_6 (L : Nat) {j : Nat} (v : Int32) (i : mMI) (l : mML) (h : j < 10) : qf_Two_store_6 L (nI j) v i l = some (mj_up i 6 j v, l) := by
  refine qe_Two_store_6 L (nI j) v i l _ ?_
  rw [if_neg (nI_pos (by omega)), if_neg (show ¬ Int32.ofNat 10 ≤ nI j from nI_ge h (by omega)), if_neg (nI_in h (by omega)), nI_clamp (by omega)]
theorem qs_Two_store_7 (L : Nat) {j : Nat} (v : Int32) (i : mMI) (l : mML) (h : j < 10) : qf_Two_store_7 L (nI j) v i l = some (mj_up i 7 j v, l) := by
  refine qe_Two_store_7 L (nI j) v i l _ ?_
  rw [if_neg (nI_pos (by omega)), if_neg (show ¬ Int32.ofNat 10 ≤ nI j from nI_ge h (by omega)), if_neg (nI_in h (by omega)), nI_clamp (by omega)]
theorem qs_Two_atL_25 (L : Nat) {j : Nat} (i : mMI) (l : mML) (h : j < 256) : qf_Two_atL_25 L (nI j) i l = some (l 25 j, i, l) := by
  refine qe_Two_atL_25 L (nI j) i l _ ?_
  rw [if_neg (nI_pos (by omega)), if_neg (show ¬ Int32.ofNat 256 ≤ nI j from nI_ge h (by omega)), if_neg (nI_in h (by omega)), nI_clamp (by omega)]
theorem qs_Two_storeL_26 (L : Nat) {j : Nat} (v : Int64) (i : mMI) (l : mML) (h : j < 256) : qf_Two_storeL_26 L (nI j) v i l = some (i, mj_up l 26 j v) := by
  refine qe_Two_storeL_26 L (nI j) v i l _ ?_
  rw [if_neg (nI_pos (by omega)), if_neg (show ¬ Int32.ofNat 256 ≤ nI j from nI_ge h (by omega)), if_neg (nI_in h (by omega)), nI_clamp (by omega)]
theorem qs_Two_atL_26 (L : Nat) {j : Nat} (i : mMI) (l : mML) (h : j < 256) : qf_Two_atL_26 L (nI j) i l = some (l 26 j, i, l) := by
  refine qe_Two_atL_26 L (nI j) i l _ ?_
  rw [if_neg (nI_pos (by omega)), if_neg (show ¬ Int32.ofNat 256 ≤ nI j from nI_ge h (by omega)), if_neg (nI_in h (by omega)), nI_clamp (by omega)]
theorem qs_Two_storeL_25 (L : Nat) {j : Nat} (v : Int64) (i : mMI) (l : mML) (h : j < 256) : qf_Two_storeL_25 L (nI j) v i l = some (i, mj_up l 25 j v) := by
  refine qe_Two_storeL_25 L (nI j) v i l _ ?_
  rw [if_neg (nI_pos (by omega)), if_neg (show ¬ Int32.ofNat 256 ≤ nI j from nI_ge h (by omega)), if_neg (nI_in h (by omega)), nI_clamp (by omega)]
theorem qs_Two_store_27 (L : Nat) {j : Nat} (v : Int32) (i : mMI) (l : mML) (h : j < 256) : qf_Two_store_27 L (nI j) v i l = some (mj_up i 27 j v, l) := by
  refine qe_Two_store_27 L (nI j) v i l _ ?_
  rw [if_neg (nI_pos (by omega)), if_neg (show ¬ Int32.ofNat 256 ≤ nI j from nI_ge h (by omega)), if_neg (nI_in h (by omega)), nI_clamp (by omega)]
theorem qs_Two_store_28 (L : Nat) {j : Nat} (v : Int32) (i : mMI) (l : mML) (h : j < 5) : qf_Two_store_28 L (nI j) v i l = some (mj_up i 28 j v, l) := by
  refine qe_Two_store_28 L (nI j) v i l _ ?_
  rw [if_neg (nI_pos (by omega)), if_neg (show ¬ Int32.ofNat 5 ≤ nI j from nI_ge h (by omega)), if_neg (nI_in h (by omega)), nI_clamp (by omega)]
theorem qs_Two_at_27 (L : Nat) {j : Nat} (i : mMI) (l : mML) (h : j < 256) : qf_Two_at_27 L (nI j) i l = some (i 27 j, i, l) := by
  refine qe_Two_at_27 L (nI j) i l _ ?_
  rw [if_neg (nI_pos (by omega)), if_neg (show ¬ Int32.ofNat 256 ≤ nI j from nI_ge h (by omega)), if_neg (nI_in h (by omega)), nI_clamp (by omega)]
theorem qs_Two_at_28 (L : Nat) {j : Nat} (i : mMI) (l : mML) (h : j < 5) : qf_Two_at_28 L (nI j) i l = some (i 28 j, i, l) := by
  refine qe_Two_at_28 L (nI j) i l _ ?_
  rw [if_neg (nI_pos (by omega)), if_neg (show ¬ Int32.ofNat 5 ≤ nI j from nI_ge h (by omega)), if_neg (nI_in h (by omega)), nI_clamp (by omega)]
theorem qs_Two_storeL_34 (L : Nat) {j : Nat} (v : Int64) (i : mMI) (l : mML) (h : j < 21) : qf_Two_storeL_34 L (nI j) v i l = some (i, mj_up l 34 j v) := by
  refine qe_Two_storeL_34 L (nI j) v i l _ ?_
  rw [if_neg (nI_pos (by omega)), if_neg (show ¬ Int32.ofNat 21 ≤ nI j from nI_ge h (by omega)), if_neg (nI_in h (by omega)), nI_clamp (by omega)]
theorem qs_Two_store_32 (L : Nat) {j : Nat} (v : Int32) (i : mMI) (l : mML) (h : j < 20) : qf_Two_store_32 L (nI j) v i l = some (mj_up i 32 j v, l) := by
  refine qe_Two_store_32 L (nI j) v i l _ ?_
  rw [if_neg (nI_pos (by omega)), if_neg (show ¬ Int32.ofNat 20 ≤ nI j from nI_ge h (by omega)), if_neg (nI_in h (by omega)), nI_clamp (by omega)]
theorem qs_Two_storeL_33 (L : Nat) {j : Nat} (v : Int64) (i : mMI) (l : mML) (h : j < 20) : qf_Two_storeL_33 L (nI j) v i l = some (i, mj_up l 33 j v) := by
  refine qe_Two_storeL_33 L (nI j) v i l _ ?_
  rw [if_neg (nI_pos (by omega)), if_neg (show ¬ Int32.ofNat 20 ≤ nI j from nI_ge h (by omega)), if_neg (nI_in h (by omega)), nI_clamp (by omega)]
theorem qs_Two_atL_34 (L : Nat) {j : Nat} (i : mMI) (l : mML) (h : j < 21) : qf_Two_atL_34 L (nI j) i l = some (l 34 j, i, l) := by
  refine qe_Two_atL_34 L (nI j) i l _ ?_
  rw [if_neg (nI_pos (by omega)), if_neg (show ¬ Int32.ofNat 21 ≤ nI j from nI_ge h (by omega)), if_neg (nI_in h (by omega)), nI_clamp (by omega)]
theorem qs_Two_atL_33 (L : Nat) {j : Nat} (i : mMI) (l : mML) (h : j < 20) : qf_Two_atL_33 L (nI j) i l = some (l 33 j, i, l) := by
  refine qe_Two_atL_33 L (nI j) i l _ ?_
  rw [if_neg (nI_pos (by omega)), if_neg (show ¬ Int32.ofNat 20 ≤ nI j from nI_ge h (by omega)), if_neg (nI_in h (by omega)), nI_clamp (by omega)]
theorem qs_Two_at_32 (L : Nat) {j : Nat} (i : mMI) (l : mML) (h : j < 20) : qf_Two_at_32 L (nI j) i l = some (i 32 j, i, l) := by
  refine qe_Two_at_32 L (nI j) i l _ ?_
  rw [if_neg (nI_pos (by omega)), if_neg (show ¬ Int32.ofNat 20 ≤ nI j from nI_ge h (by omega)), if_neg (nI_in h (by omega)), nI_clamp (by omega)]
theorem qs_Two_store_29 (L : Nat) {j : Nat} (v : Int32) (i : mMI) (l : mML) (h : j < 20) : qf_Two_store_29 L (nI j) v i l = some (mj_up i 29 j v, l) := by
  refine qe_Two_store_29 L (nI j) v i l _ ?_
  rw [if_neg (nI_pos (by omega)), if_neg (show ¬ Int32.ofNat 20 ≤ nI j from nI_ge h (by omega)), if_neg (nI_in h (by omega)), nI_clamp (by omega)]
theorem qs_Two_storeL_30 (L : Nat) {j : Nat} (v : Int64) (i : mMI) (l : mML) (h : j < 20) : qf_Two_storeL_30 L (nI j) v i l = some (i, mj_up l 30 j v) := by
  refine qe_Two_storeL_30 L (nI j) v i l _ ?_
  rw [if_neg (nI_pos (by omega)), if_neg (show ¬ Int32.ofNat 20 ≤ nI j from nI_ge h (by omega)), if_neg (nI_in h (by omega)), nI_clamp (by omega)]
theorem qs_Two_at_29 (L : Nat) {j : Nat} (i : mMI) (l : mML) (h : j < 20) : qf_Two_at_29 L (nI j) i l = some (i 29 j, i, l) := by
  refine qe_Two_at_29 L (nI j) i l _ ?_
  rw [if_neg (nI_pos (by omega)), if_neg (show ¬ Int32.ofNat 20 ≤ nI j from nI_ge h (by omega)), if_neg (nI_in h (by omega)), nI_clamp (by omega)]
theorem qs_Two_atL_30 (L : Nat) {j : Nat} (i : mMI) (l : mML) (h : j < 20) : qf_Two_atL_30 L (nI j) i l = some (l 30 j, i, l) := by
  refine qe_Two_atL_30 L (nI j) i l _ ?_
  rw [if_neg (nI_pos (by omega)), if_neg (show ¬ Int32.ofNat 20 ≤ nI j from nI_ge h (by omega)), if_neg (nI_in h (by omega)), nI_clamp (by omega)]
theorem qs_Two_store_39 (L : Nat) {j : Nat} (v : Int32) (i : mMI) (l : mML) (h : j < 8) : qf_Two_store_39 L (nI j) v i l = some (mj_up i 39 j v, l) := by
  refine qe_Two_store_39 L (nI j) v i l _ ?_
  rw [if_neg (nI_pos (by omega)), if_neg (show ¬ Int32.ofNat 8 ≤ nI j from nI_ge h (by omega)), if_neg (nI_in h (by omega)), nI_clamp (by omega)]
theorem qs_Two_store_38 (L : Nat) {j : Nat} (v : Int32) (i : mMI) (l : mML) (h : j < 8) : qf_Two_store_38 L (nI j) v i l = some (mj_up i 38 j v, l) := by
  refine qe_Two_store_38 L (nI j) v i l _ ?_
  rw [if_neg (nI_pos (by omega)), if_neg (show ¬ Int32.ofNat 8 ≤ nI j from nI_ge h (by omega)), if_neg (nI_in h (by omega)), nI_clamp (by omega)]
theorem qs_Two_at_38 (L : Nat) {j : Nat} (i : mMI) (l : mML) (h : j < 8) : qf_Two_at_38 L (nI j) i l = some (i 38 j, i, l) := by
  refine qe_Two_at_38 L (nI j) i l _ ?_
  rw [if_neg (nI_pos (by omega)), if_neg (show ¬ Int32.ofNat 8 ≤ nI j from nI_ge h (by omega)), if_neg (nI_in h (by omega)), nI_clamp (by omega)]
theorem qs_Two_store_36 (L : Nat) {j : Nat} (v : Int32) (i : mMI) (l : mML) (h : j < 28) : qf_Two_store_36 L (nI j) v i l = some (mj_up i 36 j v, l) := by
  refine qe_Two_store_36 L (nI j) v i l _ ?_
  rw [if_neg (nI_pos (by omega)), if_neg (show ¬ Int32.ofNat 28 ≤ nI j from nI_ge h (by omega)), if_neg (nI_in h (by omega)), nI_clamp (by omega)]
theorem qs_Two_store_37 (L : Nat) {j : Nat} (v : Int32) (i : mMI) (l : mML) (h : j < 28) : qf_Two_store_37 L (nI j) v i l = some (mj_up i 37 j v, l) := by
  refine qe_Two_store_37 L (nI j) v i l _ ?_
  rw [if_neg (nI_pos (by omega)), if_neg (show ¬ Int32.ofNat 28 ≤ nI j from nI_ge h (by omega)), if_neg (nI_in h (by omega)), nI_clamp (by omega)]
theorem qs_Two_store_41 (L : Nat) {j : Nat} (v : Int32) (i : mMI) (l : mML) (h : j < 8) : qf_Two_store_41 L (nI j) v i l = some (mj_up i 41 j v, l) := by
  refine qe_Two_store_41 L (nI j) v i l _ ?_
  rw [if_neg (nI_pos (by omega)), if_neg (show ¬ Int32.ofNat 8 ≤ nI j from nI_ge h (by omega)), if_neg (nI_in h (by omega)), nI_clamp (by omega)]
theorem qs_Two_at_36 (L : Nat) {j : Nat} (i : mMI) (l : mML) (h : j < 28) : qf_Two_at_36 L (nI j) i l = some (i 36 j, i, l) := by
  refine qe_Two_at_36 L (nI j) i l _ ?_
  rw [if_neg (nI_pos (by omega)), if_neg (show ¬ Int32.ofNat 28 ≤ nI j from nI_ge h (by omega)), if_neg (nI_in h (by omega)), nI_clamp (by omega)]
theorem qs_Two_at_39 (L : Nat) {j : Nat} (i : mMI) (l : mML) (h : j < 8) : qf_Two_at_39 L (nI j) i l = some (i 39 j, i, l) := by
  refine qe_Two_at_39 L (nI j) i l _ ?_
  rw [if_neg (nI_pos (by omega)), if_neg (show ¬ Int32.ofNat 8 ≤ nI j from nI_ge h (by omega)), if_neg (nI_in h (by omega)), nI_clamp (by omega)]
theorem qs_Two_at_37 (L : Nat) {j : Nat} (i : mMI) (l : mML) (h : j < 28) : qf_Two_at_37 L (nI j) i l = some (i 37 j, i, l) := by
  refine qe_Two_at_37 L (nI j) i l _ ?_
  rw [if_neg (nI_pos (by omega)), if_neg (show ¬ Int32.ofNat 28 ≤ nI j from nI_ge h (by omega)), if_neg (nI_in h (by omega)), nI_clamp (by omega)]
theorem qs_Two_at_41 (L : Nat) {j : Nat} (i : mMI) (l : mML) (h : j < 8) : qf_Two_at_41 L (nI j) i l = some (i 41 j, i, l) := by
  refine qe_Two_at_41 L (nI j) i l _ ?_
  rw [if_neg (nI_pos (by omega)), if_neg (show ¬ Int32.ofNat 8 ≤ nI j from nI_ge h (by omega)), if_neg (nI_in h (by omega)), nI_clamp (by omega)]
theorem qs_Two_store_40 (L : Nat) {j : Nat} (v : Int32) (i : mMI) (l : mML) (h : j < 8) : qf_Two_store_40 L (nI j) v i l = some (mj_up i 40 j v, l) := by
  refine qe_Two_store_40 L (nI j) v i l _ ?_
  rw [if_neg (nI_pos (by omega)), if_neg (show ¬ Int32.ofNat 8 ≤ nI j from nI_ge h (by omega)), if_neg (nI_in h (by omega)), nI_clamp (by omega)]
theorem qs_Two_at_40 (L : Nat) {j : Nat} (i : mMI) (l : mML) (h : j < 8) : qf_Two_at_40 L (nI j) i l = some (i 40 j, i, l) := by
  refine qe_Two_at_40 L (nI j) i l _ ?_
  rw [if_neg (nI_pos (by omega)), if_neg (show ¬ Int32.ofNat 8 ≤ nI j from nI_ge h (by omega)), if_neg (nI_in h (by omega)), nI_clamp (by omega)]
theorem qs_Two_store_22 (L : Nat) {j : Nat} (v : Int32) (i : mMI) (l : mML) (h : j < 10) : qf_Two_store_22 L (nI j) v i l = some (mj_up i 22 j v, l) := by
  refine qe_Two_store_22 L (nI j) v i l _ ?_
  rw [if_neg (nI_pos (by omega)), if_neg (show ¬ Int32.ofNat 10 ≤ nI j from nI_ge h (by omega)), if_neg (nI_in h (by omega)), nI_clamp (by omega)]
theorem qs_Two_at_22 (L : Nat) {j : Nat} (i : mMI) (l : mML) (h : j < 10) : qf_Two_at_22 L (nI j) i l = some (i 22 j, i, l) := by
  refine qe_Two_at_22 L (nI j) i l _ ?_
  rw [if_neg (nI_pos (by omega)), if_neg (show ¬ Int32.ofNat 10 ≤ nI j from nI_ge h (by omega)), if_neg (nI_in h (by omega)), nI_clamp (by omega)]
theorem qs_Two_store_9 (L : Nat) {j : Nat} (v : Int32) (i : mMI) (l : mML) (h : j < 8) : qf_Two_store_9 L (nI j) v i l = some (mj_up i 9 j v, l) := by
  refine qe_Two_store_9 L (nI j) v i l _ ?_
  rw [if_neg (nI_pos (by omega)), if_neg (show ¬ Int32.ofNat 8 ≤ nI j from nI_ge h (by omega)), if_neg (nI_in h (by omega)), nI_clamp (by omega)]
theorem qs_Two_store_10 (L : Nat) {j : Nat} (v : Int32) (i : mMI) (l : mML) (h : j < 8) : qf_Two_store_10 L (nI j) v i l = some (mj_up i 10 j v, l) := by
  refine qe_Two_store_10 L (nI j) v i l _ ?_
  rw [if_neg (nI_pos (by omega)), if_neg (show ¬ Int32.ofNat 8 ≤ nI j from nI_ge h (by omega)), if_neg (nI_in h (by omega)), nI_clamp (by omega)]
theorem qs_Two_store_11 (L : Nat) {j : Nat} (v : Int32) (i : mMI) (l : mML) (h : j < 8) : qf_Two_store_11 L (nI j) v i l = some (mj_up i 11 j v, l) := by
  refine qe_Two_store_11 L (nI j) v i l _ ?_
  rw [if_neg (nI_pos (by omega)), if_neg (show ¬ Int32.ofNat 8 ≤ nI j from nI_ge h (by omega)), if_neg (nI_in h (by omega)), nI_clamp (by omega)]
theorem qs_Two_store_12 (L : Nat) {j : Nat} (v : Int32) (i : mMI) (l : mML) (h : j < 10) : qf_Two_store_12 L (nI j) v i l = some (mj_up i 12 j v, l) := by
  refine qe_Two_store_12 L (nI j) v i l _ ?_
  rw [if_neg (nI_pos (by omega)), if_neg (show ¬ Int32.ofNat 10 ≤ nI j from nI_ge h (by omega)), if_neg (nI_in h (by omega)), nI_clamp (by omega)]
theorem qs_Two_store_13 (L : Nat) {j : Nat} (v : Int32) (i : mMI) (l : mML) (h : j < 10) : qf_Two_store_13 L (nI j) v i l = some (mj_up i 13 j v, l) := by
  refine qe_Two_store_13 L (nI j) v i l _ ?_
  rw [if_neg (nI_pos (by omega)), if_neg (show ¬ Int32.ofNat 10 ≤ nI j from nI_ge h (by omega)), if_neg (nI_in h (by omega)), nI_clamp (by omega)]
theorem qs_Two_at_9 (L : Nat) {j : Nat} (i : mMI) (l : mML) (h : j < 8) : qf_Two_at_9 L (nI j) i l = some (i 9 j, i, l) := by
  refine qe_Two_at_9 L (nI j) i l _ ?_
  rw [if_neg (nI_pos (by omega)), if_neg (show ¬ Int32.ofNat 8 ≤ nI j from nI_ge h (by omega)), if_neg (nI_in h (by omega)), nI_clamp (by omega)]
theorem qs_Two_at_10 (L : Nat) {j : Nat} (i : mMI) (l : mML) (h : j < 8) : qf_Two_at_10 L (nI j) i l = some (i 10 j, i, l) := by
  refine qe_Two_at_10 L (nI j) i l _ ?_
  rw [if_neg (nI_pos (by omega)), if_neg (show ¬ Int32.ofNat 8 ≤ nI j from nI_ge h (by omega)), if_neg (nI_in h (by omega)), nI_clamp (by omega)]
theorem qs_Two_at_11 (L : Nat) {j : Nat} (i : mMI) (l : mML) (h : j < 8) : qf_Two_at_11 L (nI j) i l = some (i 11 j, i, l) := by
  refine qe_Two_at_11 L (nI j) i l _ ?_
  rw [if_neg (nI_pos (by omega)), if_neg (show ¬ Int32.ofNat 8 ≤ nI j from nI_ge h (by omega)), if_neg (nI_in h (by omega)), nI_clamp (by omega)]
theorem qs_Two_at_12 (L : Nat) {j : Nat} (i : mMI) (l : mML) (h : j < 10) : qf_Two_at_12 L (nI j) i l = some (i 12 j, i, l) := by
  refine qe_Two_at_12 L (nI j) i l _ ?_
  rw [if_neg (nI_pos (by omega)), if_neg (show ¬ Int32.ofNat 10 ≤ nI j from nI_ge h (by omega)), if_neg (nI_in h (by omega)), nI_clamp (by omega)]
theorem qs_Two_at_13 (L : Nat) {j : Nat} (i : mMI) (l : mML) (h : j < 10) : qf_Two_at_13 L (nI j) i l = some (i 13 j, i, l) := by
  refine qe_Two_at_13 L (nI j) i l _ ?_
  rw [if_neg (nI_pos (by omega)), if_neg (show ¬ Int32.ofNat 10 ≤ nI j from nI_ge h (by omega)), if_neg (nI_in h (by omega)), nI_clamp (by omega)]
theorem qs_Two_copy_3_15 (L : Nat) (i : mMI) (l : mML) : qf_Two_copy_3_15 L i l = some (mq_cp i 3 15 8, l) := by
  have loop : ∀ (m k : Nat), m + k = 8 → qf_Two_copy_3_15_p2 L (nI m) (mq_cp i 3 15 m) l = some (mq_cp i 3 15 8, l) := by
    intro m k
    induction k generalizing m with
    | zero =>
      intro h
      have h : m = 8 := h
      subst h
      refine qe_Two_copy_3_15_p2 L _ _ l _ ?_
      rw [if_pos (show Int32.ofNat 8 ≤ nI 8 from nI_le (Nat.le_refl _) (by omega))]
    | succ k ih =>
      intro h
      refine qe_Two_copy_3_15_p2 L _ _ l _ ?_
      rw [if_neg (show ¬ Int32.ofNat 8 ≤ nI m from nI_ge (by omega) (by omega)), qs_Two_at_3 L _ _ (by omega), Option.bind_some, qs_Two_store_15 L _ _ _ (by omega), Option.bind_some]
      show qf_Two_copy_3_15_p2 L (nI m + 1) (mj_up (mq_cp i 3 15 m) 15 m (mq_cp i 3 15 m 3 m)) l = _
      rw [nI_1, mq_cp_s (by decide)]
      exact ih (m + 1) (by omega)
  refine qe_Two_copy_3_15 L i l _ ?_
  have h0 := loop 0 8 (by omega)
  rw [mq_cp_0] at h0
  exact h0
theorem qs_Two_copy_4_16 (L : Nat) (i : mMI) (l : mML) : qf_Two_copy_4_16 L i l = some (mq_cp i 4 16 8, l) := by
  have loop : ∀ (m k : Nat), m + k = 8 → qf_Two_copy_4_16_p2 L (nI m) (mq_cp i 4 16 m) l = some (mq_cp i 4 16 8, l) := by
    intro m k
    induction k generalizing m with
    | zero =>
      intro h
      have h : m = 8 := h
      subst h
      refine qe_Two_copy_4_16_p2 L _ _ l _ ?_
      rw [if_pos (show Int32.ofNat 8 ≤ nI 8 from nI_le (Nat.le_refl _) (by omega))]
    | succ k ih =>
      intro h
      refine qe_Two_copy_4_16_p2 L _ _ l _ ?_
      rw [if_neg (show ¬ Int32.ofNat 8 ≤ nI m from nI_ge (by omega) (by omega)), qs_Two_at_4 L _ _ (by omega), Option.bind_some, qs_Two_store_16 L _ _ _ (by omega), Option.bind_some]
      show qf_Two_copy_4_16_p2 L (nI m + 1) (mj_up (mq_cp i 4 16 m) 16 m (mq_cp i 4 16 m 4 m)) l = _
      rw [nI_1, mq_cp_s (by decide)]
      exact ih (m + 1) (by omega)
  refine qe_Two_copy_4_16 L i l _ ?_
  have h0 := loop 0 8 (by omega)
  rw [mq_cp_0] at h0
  exact h0
theorem qs_Two_copy_5_17 (L : Nat) (i : mMI) (l : mML) : qf_Two_copy_5_17 L i l = some (mq_cp i 5 17 8, l) := by
  have loop : ∀ (m k : Nat), m + k = 8 → qf_Two_copy_5_17_p2 L (nI m) (mq_cp i 5 17 m) l = some (mq_cp i 5 17 8, l) := by
    intro m k
    induction k generalizing m with
    | zero =>
      intro h
      have h : m = 8 := h
      subst h
      refine qe_Two_copy_5_17_p2 L _ _ l _ ?_
      rw [if_pos (show Int32.ofNat 8 ≤ nI 8 from nI_le (Nat.le_refl _) (by omega))]
    | succ k ih =>
      intro h
      refine qe_Two_copy_5_17_p2 L _ _ l _ ?_
      rw [if_neg (show ¬ Int32.ofNat 8 ≤ nI m from nI_ge (by omega) (by omega)), qs_Two_at_5 L _ _ (by omega), Option.bind_some, qs_Two_store_17 L _ _ _ (by omega), Option.bind_some]
      show qf_Two_copy_5_17_p2 L (nI m + 1) (mj_up (mq_cp i 5 17 m) 17 m (mq_cp i 5 17 m 5 m)) l = _
      rw [nI_1, mq_cp_s (by decide)]
      exact ih (m + 1) (by omega)
  refine qe_Two_copy_5_17 L i l _ ?_
  have h0 := loop 0 8 (by omega)
  rw [mq_cp_0] at h0
  exact h0
theorem qs_Two_copy_15_3 (L : Nat) (i : mMI) (l : mML) : qf_Two_copy_15_3 L i l = some (mq_cp i 15 3 8, l) := by
  have loop : ∀ (m k : Nat), m + k = 8 → qf_Two_copy_15_3_p2 L (nI m) (mq_cp i 15 3 m) l = some (mq_cp i 15 3 8, l) := by
    intro m k
    induction k generalizing m with
    | zero =>
      intro h
      have h : m = 8 := h
      subst h
      refine qe_Two_copy_15_3_p2 L _ _ l _ ?_
      rw [if_pos (show Int32.ofNat 8 ≤ nI 8 from nI_le (Nat.le_refl _) (by omega))]
    | succ k ih =>
      intro h
      refine qe_Two_copy_15_3_p2 L _ _ l _ ?_
      rw [if_neg (show ¬ Int32.ofNat 8 ≤ nI m from nI_ge (by omega) (by omega)), qs_Two_at_15 L _ _ (by omega), Option.bind_some, qs_Two_store_3 L _ _ _ (by omega), Option.bind_some]
      show qf_Two_copy_15_3_p2 L (nI m + 1) (mj_up (mq_cp i 15 3 m) 3 m (mq_cp i 15 3 m 15 m)) l = _
      rw [nI_1, mq_cp_s (by decide)]
      exact ih (m + 1) (by omega)
  refine qe_Two_copy_15_3 L i l _ ?_
  have h0 := loop 0 8 (by omega)
  rw [mq_cp_0] at h0
  exact h0
theorem qs_Two_copy_16_4 (L : Nat) (i : mMI) (l : mML) : qf_Two_copy_16_4 L i l = some (mq_cp i 16 4 8, l) := by
  have loop : ∀ (m k : Nat), m + k = 8 → qf_Two_copy_16_4_p2 L (nI m) (mq_cp i 16 4 m) l = some (mq_cp i 16 4 8, l) := by
    intro m k
    induction k generalizing m with
    | zero =>
      intro h
      have h : m = 8 := h
      subst h
      refine qe_Two_copy_16_4_p2 L _ _ l _ ?_
      rw [if_pos (show Int32.ofNat 8 ≤ nI 8 from nI_le (Nat.le_refl _) (by omega))]
    | succ k ih =>
      intro h
      refine qe_Two_copy_16_4_p2 L _ _ l _ ?_
      rw [if_neg (show ¬ Int32.ofNat 8 ≤ nI m from nI_ge (by omega) (by omega)), qs_Two_at_16 L _ _ (by omega), Option.bind_some, qs_Two_store_4 L _ _ _ (by omega), Option.bind_some]
      show qf_Two_copy_16_4_p2 L (nI m + 1) (mj_up (mq_cp i 16 4 m) 4 m (mq_cp i 16 4 m 16 m)) l = _
      rw [nI_1, mq_cp_s (by decide)]
      exact ih (m + 1) (by omega)
  refine qe_Two_copy_16_4 L i l _ ?_
  have h0 := loop 0 8 (by omega)
  rw [mq_cp_0] at h0
  exact h0
theorem qs_Two_copy_17_5 (L : Nat) (i : mMI) (l : mML) : qf_Two_copy_17_5 L i l = some (mq_cp i 17 5 8, l) := by
  have loop : ∀ (m k : Nat), m + k = 8 → qf_Two_copy_17_5_p2 L (nI m) (mq_cp i 17 5 m) l = some (mq_cp i 17 5 8, l) := by
    intro m k
    induction k generalizing m with
    | zero =>
      intro h
      have h : m = 8 := h
      subst h
      refine qe_Two_copy_17_5_p2 L _ _ l _ ?_
      rw [if_pos (show Int32.ofNat 8 ≤ nI 8 from nI_le (Nat.le_refl _) (by omega))]
    | succ k ih =>
      intro h
      refine qe_Two_copy_17_5_p2 L _ _ l _ ?_
      rw [if_neg (show ¬ Int32.ofNat 8 ≤ nI m from nI_ge (by omega) (by omega)), qs_Two_at_17 L _ _ (by omega), Option.bind_some, qs_Two_store_5 L _ _ _ (by omega), Option.bind_some]
      show qf_Two_copy_17_5_p2 L (nI m + 1) (mj_up (mq_cp i 17 5 m) 5 m (mq_cp i 17 5 m 17 m)) l = _
      rw [nI_1, mq_cp_s (by decide)]
      exact ih (m + 1) (by omega)
  refine qe_Two_copy_17_5 L i l _ ?_
  have h0 := loop 0 8 (by omega)
  rw [mq_cp_0] at h0
  exact h0
theorem qs_Two_copy_5_39 (L : Nat) (i : mMI) (l : mML) : qf_Two_copy_5_39 L i l = some (mq_cp i 5 39 8, l) := by
  have loop : ∀ (m k : Nat), m + k = 8 → qf_Two_copy_5_39_p2 L (nI m) (mq_cp i 5 39 m) l = some (mq_cp i 5 39 8, l) := by
    intro m k
    induction k generalizing m with
    | zero =>
      intro h
      have h : m = 8 := h
      subst h
      refine qe_Two_copy_5_39_p2 L _ _ l _ ?_
      rw [if_pos (show Int32.ofNat 8 ≤ nI 8 from nI_le (Nat.le_refl _) (by omega))]
    | succ k ih =>
      intro h
      refine qe_Two_copy_5_39_p2 L _ _ l _ ?_
      rw [if_neg (show ¬ Int32.ofNat 8 ≤ nI m from nI_ge (by omega) (by omega)), qs_Two_at_5 L _ _ (by omega), Option.bind_some, qs_Two_store_39 L _ _ _ (by omega), Option.bind_some]
      show qf_Two_copy_5_39_p2 L (nI m + 1) (mj_up (mq_cp i 5 39 m) 39 m (mq_cp i 5 39 m 5 m)) l = _
      rw [nI_1, mq_cp_s (by decide)]
      exact ih (m + 1) (by omega)
  refine qe_Two_copy_5_39 L i l _ ?_
  have h0 := loop 0 8 (by omega)
  rw [mq_cp_0] at h0
  exact h0
theorem qs_Two_copy_39_5 (L : Nat) (i : mMI) (l : mML) : qf_Two_copy_39_5 L i l = some (mq_cp i 39 5 8, l) := by
  have loop : ∀ (m k : Nat), m + k = 8 → qf_Two_copy_39_5_p2 L (nI m) (mq_cp i 39 5 m) l = some (mq_cp i 39 5 8, l) := by
    intro m k
    induction k generalizing m with
    | zero =>
      intro h
      have h : m = 8 := h
      subst h
      refine qe_Two_copy_39_5_p2 L _ _ l _ ?_
      rw [if_pos (show Int32.ofNat 8 ≤ nI 8 from nI_le (Nat.le_refl _) (by omega))]
    | succ k ih =>
      intro h
      refine qe_Two_copy_39_5_p2 L _ _ l _ ?_
      rw [if_neg (show ¬ Int32.ofNat 8 ≤ nI m from nI_ge (by omega) (by omega)), qs_Two_at_39 L _ _ (by omega), Option.bind_some, qs_Two_store_5 L _ _ _ (by omega), Option.bind_some]
      show qf_Two_copy_39_5_p2 L (nI m + 1) (mj_up (mq_cp i 39 5 m) 5 m (mq_cp i 39 5 m 39 m)) l = _
      rw [nI_1, mq_cp_s (by decide)]
      exact ih (m + 1) (by omega)
  refine qe_Two_copy_39_5 L i l _ ?_
  have h0 := loop 0 8 (by omega)
  rw [mq_cp_0] at h0
  exact h0
theorem qs_Two_copy_3_9 (L : Nat) (i : mMI) (l : mML) : qf_Two_copy_3_9 L i l = some (mq_cp i 3 9 8, l) := by
  have loop : ∀ (m k : Nat), m + k = 8 → qf_Two_copy_3_9_p2 L (nI m) (mq_cp i 3 9 m) l = some (mq_cp i 3 9 8, l) := by
    intro m k
    induction k generalizing m with
    | zero =>
      intro h
      have h : m = 8 := h
      subst h
      refine qe_Two_copy_3_9_p2 L _ _ l _ ?_
      rw [if_pos (show Int32.ofNat 8 ≤ nI 8 from nI_le (Nat.le_refl _) (by omega))]
    | succ k ih =>
      intro h
      refine qe_Two_copy_3_9_p2 L _ _ l _ ?_
      rw [if_neg (show ¬ Int32.ofNat 8 ≤ nI m from nI_ge (by omega) (by omega)), qs_Two_at_3 L _ _ (by omega), Option.bind_some, qs_Two_store_9 L _ _ _ (by omega), Option.bind_some]
      show qf_Two_copy_3_9_p2 L (nI m + 1) (mj_up (mq_cp i 3 9 m) 9 m (mq_cp i 3 9 m 3 m)) l = _
      rw [nI_1, mq_cp_s (by decide)]
      exact ih (m + 1) (by omega)
  refine qe_Two_copy_3_9 L i l _ ?_
  have h0 := loop 0 8 (by omega)
  rw [mq_cp_0] at h0
  exact h0
theorem qs_Two_copy_4_10 (L : Nat) (i : mMI) (l : mML) : qf_Two_copy_4_10 L i l = some (mq_cp i 4 10 8, l) := by
  have loop : ∀ (m k : Nat), m + k = 8 → qf_Two_copy_4_10_p2 L (nI m) (mq_cp i 4 10 m) l = some (mq_cp i 4 10 8, l) := by
    intro m k
    induction k generalizing m with
    | zero =>
      intro h
      have h : m = 8 := h
      subst h
      refine qe_Two_copy_4_10_p2 L _ _ l _ ?_
      rw [if_pos (show Int32.ofNat 8 ≤ nI 8 from nI_le (Nat.le_refl _) (by omega))]
    | succ k ih =>
      intro h
      refine qe_Two_copy_4_10_p2 L _ _ l _ ?_
      rw [if_neg (show ¬ Int32.ofNat 8 ≤ nI m from nI_ge (by omega) (by omega)), qs_Two_at_4 L _ _ (by omega), Option.bind_some, qs_Two_store_10 L _ _ _ (by omega), Option.bind_some]
      show qf_Two_copy_4_10_p2 L (nI m + 1) (mj_up (mq_cp i 4 10 m) 10 m (mq_cp i 4 10 m 4 m)) l = _
      rw [nI_1, mq_cp_s (by decide)]
      exact ih (m + 1) (by omega)
  refine qe_Two_copy_4_10 L i l _ ?_
  have h0 := loop 0 8 (by omega)
  rw [mq_cp_0] at h0
  exact h0
theorem qs_Two_copy_5_11 (L : Nat) (i : mMI) (l : mML) : qf_Two_copy_5_11 L i l = some (mq_cp i 5 11 8, l) := by
  have loop : ∀ (m k : Nat), m + k = 8 → qf_Two_copy_5_11_p2 L (nI m) (mq_cp i 5 11 m) l = some (mq_cp i 5 11 8, l) := by
    intro m k
    induction k generalizing m with
    | zero =>
      intro h
      have h : m = 8 := h
      subst h
      refine qe_Two_copy_5_11_p2 L _ _ l _ ?_
      rw [if_pos (show Int32.ofNat 8 ≤ nI 8 from nI_le (Nat.le_refl _) (by omega))]
    | succ k ih =>
      intro h
      refine qe_Two_copy_5_11_p2 L _ _ l _ ?_
      rw [if_neg (show ¬ Int32.ofNat 8 ≤ nI m from nI_ge (by omega) (by omega)), qs_Two_at_5 L _ _ (by omega), Option.bind_some, qs_Two_store_11 L _ _ _ (by omega), Option.bind_some]
      show qf_Two_copy_5_11_p2 L (nI m + 1) (mj_up (mq_cp i 5 11 m) 11 m (mq_cp i 5 11 m 5 m)) l = _
      rw [nI_1, mq_cp_s (by decide)]
      exact ih (m + 1) (by omega)
  refine qe_Two_copy_5_11 L i l _ ?_
  have h0 := loop 0 8 (by omega)
  rw [mq_cp_0] at h0
  exact h0
theorem qs_Two_copy_9_3 (L : Nat) (i : mMI) (l : mML) : qf_Two_copy_9_3 L i l = some (mq_cp i 9 3 8, l) := by
  have loop : ∀ (m k : Nat), m + k = 8 → qf_Two_copy_9_3_p2 L (nI m) (mq_cp i 9 3 m) l = some (mq_cp i 9 3 8, l) := by
    intro m k
    induction k generalizing m with
    | zero =>
      intro h
      have h : m = 8 := h
      subst h
      refine qe_Two_copy_9_3_p2 L _ _ l _ ?_
      rw [if_pos (show Int32.ofNat 8 ≤ nI 8 from nI_le (Nat.le_refl _) (by omega))]
    | succ k ih =>
      intro h
      refine qe_Two_copy_9_3_p2 L _ _ l _ ?_
      rw [if_neg (show ¬ Int32.ofNat 8 ≤ nI m from nI_ge (by omega) (by omega)), qs_Two_at_9 L _ _ (by omega), Option.bind_some, qs_Two_store_3 L _ _ _ (by omega), Option.bind_some]
      show qf_Two_copy_9_3_p2 L (nI m + 1) (mj_up (mq_cp i 9 3 m) 3 m (mq_cp i 9 3 m 9 m)) l = _
      rw [nI_1, mq_cp_s (by decide)]
      exact ih (m + 1) (by omega)
  refine qe_Two_copy_9_3 L i l _ ?_
  have h0 := loop 0 8 (by omega)
  rw [mq_cp_0] at h0
  exact h0
theorem qs_Two_copy_10_4 (L : Nat) (i : mMI) (l : mML) : qf_Two_copy_10_4 L i l = some (mq_cp i 10 4 8, l) := by
  have loop : ∀ (m k : Nat), m + k = 8 → qf_Two_copy_10_4_p2 L (nI m) (mq_cp i 10 4 m) l = some (mq_cp i 10 4 8, l) := by
    intro m k
    induction k generalizing m with
    | zero =>
      intro h
      have h : m = 8 := h
      subst h
      refine qe_Two_copy_10_4_p2 L _ _ l _ ?_
      rw [if_pos (show Int32.ofNat 8 ≤ nI 8 from nI_le (Nat.le_refl _) (by omega))]
    | succ k ih =>
      intro h
      refine qe_Two_copy_10_4_p2 L _ _ l _ ?_
      rw [if_neg (show ¬ Int32.ofNat 8 ≤ nI m from nI_ge (by omega) (by omega)), qs_Two_at_10 L _ _ (by omega), Option.bind_some, qs_Two_store_4 L _ _ _ (by omega), Option.bind_some]
      show qf_Two_copy_10_4_p2 L (nI m + 1) (mj_up (mq_cp i 10 4 m) 4 m (mq_cp i 10 4 m 10 m)) l = _
      rw [nI_1, mq_cp_s (by decide)]
      exact ih (m + 1) (by omega)
  refine qe_Two_copy_10_4 L i l _ ?_
  have h0 := loop 0 8 (by omega)
  rw [mq_cp_0] at h0
  exact h0
theorem qs_Two_copy_11_5 (L : Nat) (i : mMI) (l : mML) : qf_Two_copy_11_5 L i l = some (mq_cp i 11 5 8, l) := by
  have loop : ∀ (m k : Nat), m + k = 8 → qf_Two_copy_11_5_p2 L (nI m) (mq_cp i 11 5 m) l = some (mq_cp i 11 5 8, l) := by
    intro m k
    induction k generalizing m with
    | zero =>
      intro h
      have h : m = 8 := h
      subst h
      refine qe_Two_copy_11_5_p2 L _ _ l _ ?_
      rw [if_pos (show Int32.ofNat 8 ≤ nI 8 from nI_le (Nat.le_refl _) (by omega))]
    | succ k ih =>
      intro h
      refine qe_Two_copy_11_5_p2 L _ _ l _ ?_
      rw [if_neg (show ¬ Int32.ofNat 8 ≤ nI m from nI_ge (by omega) (by omega)), qs_Two_at_11 L _ _ (by omega), Option.bind_some, qs_Two_store_5 L _ _ _ (by omega), Option.bind_some]
      show qf_Two_copy_11_5_p2 L (nI m + 1) (mj_up (mq_cp i 11 5 m) 5 m (mq_cp i 11 5 m 11 m)) l = _
      rw [nI_1, mq_cp_s (by decide)]
      exact ih (m + 1) (by omega)
  refine qe_Two_copy_11_5 L i l _ ?_
  have h0 := loop 0 8 (by omega)
  rw [mq_cp_0] at h0
  exact h0
