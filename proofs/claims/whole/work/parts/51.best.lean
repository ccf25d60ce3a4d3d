/-! best. -/
section
variable {i : mMI} {l : mML} {D P M : mq_D} {R : Nat → Int32}
theorem mq_sw62 (hO : mq_Ok D) (s : Nat) : mq_sw (mq_Wm D) s 256 < 2 ^ 62 := by
  have := mq_sw_lt (mq_Wm D) s (mq_Wm_lt hO) 256
  omega
theorem qp_best (L : Nat) (x : Int32) (hC : mq_RC i D P M R) (hM : mq_RM i D P M R) (hO : mq_OkS D P M) : mq_P (fun i l => qf_Two_best L x i l) (fun i l => qf_Mod_best L x i l) i l := by
  have hp := mq_pow hO.1.1.2
  by_cases hx : x = 0 ∨ x = 1
  · obtain ⟨i1, l1, g, gC, gk, g7, g8, g9, gH, g27, -⟩ := mq_look L i l hC hO
    rcases hx with h | h
    · subst h
      obtain ⟨i1', e1, k1⟩ := qs_split L i1 l1 gC.1 hO.1 g8 g9 g27
      refine mq_P_scr (mq_o (mq_spl D (mq_worst D))) hM hO (qe_Two_best L _ i l (mq_o (mq_spl D (mq_worst D)), i1', l1) ?_) (gC.congr (fun k h => k1 k (by omega))) (fun k h => (k1 k (by omega)).trans (gk k h)) (fun i0 h0 => ?_)
      · rw [if_pos rfl]
        refine qe_Two_best_p16 L _ i l _ ?_
        simp only [g, Option.bind_some, ↓reduceIte, e1]
      · obtain ⟨i2, e, eM, ek, eG, -⟩ := mq_fm L i0 l1 h0 hO
        obtain ⟨i2', e2, k2⟩ := qs_splitNow L i2 l1 eM.1 hO.1 eG
        refine ⟨i2', l1, qe_Mod_best L _ i0 l1 _ ?_, eM.congr (fun j _ => by rw [k2 42 (by omega)]) (fun k h => k2 k (by omega)), fun k h => (k2 k (by omega)).trans (ek k h)⟩
        simp only [(qs_part01 L i0 l1).1 (Or.inl rfl), Option.bind_some, mq_10, ↓reduceIte, e, e2]
    · subst h
      have hl := mq_cnt_le (mq_Wm D) 256
      have ez : nI (mq_cnt (mq_Wm D) 256) = (0 : Int32) ↔ mq_cnt (mq_Wm D) 256 = 0 := nI_eq (b := 0) (by omega) (by omega)
      have e8 : i1 2 8 = nI (D 8 0) := gC.1.2.2.2.2.2.1
      by_cases h0 : mq_cnt (mq_Wm D) 256 = 0
      · refine mq_P_scr (-9) hM hO (qe_Two_best L _ i l (-9, i1, l1) ?_) gC gk (fun i0 h0' => ?_)
        · rw [if_neg (by decide), if_pos rfl]
          refine qe_Two_best_p16 L _ i l _ ?_
          simp only [g, Option.bind_some, mq_10, ↓reduceIte, g9, ez.mpr h0]
        · obtain ⟨i2, e, eM, ek, eG, -⟩ := mq_fm L i0 l1 h0' hO
          refine ⟨i2, l1, qe_Mod_best L _ i0 l1 _ ?_, eM, ek⟩
          simp only [(qs_part01 L i0 l1).1 (Or.inr rfl), Option.bind_some, mq_10, ↓reduceIte, e, qs_mayMany L i2 l1 (mq_Wm D) eG, ez.mpr h0]
      · refine mq_P_scr (mq_o (mq_luck D (fun s => mq_sw (mq_Wm D) s 256))) hM hO (qe_Two_best L _ i l (mq_o (mq_luck D (fun s => mq_sw (mq_Wm D) s 256)), i1, l1) ?_) gC gk (fun i0 h0' => ?_)
        · rw [if_neg (by decide), if_pos rfl]
          refine qe_Two_best_p16 L _ i l _ ?_
          simp only [g, Option.bind_some, mq_10, ↓reduceIte, g9, ez, h0, e8]
          rw [qs_lucky L i1 l1 hO.1 (fun s => mq_sw (mq_Wm D) s 256) g8 (fun s hs => ⟨mq_sw62 hO.1 s, gH s hs⟩), Option.bind_some]
        · obtain ⟨i2, e, eM, ek, eG, -⟩ := mq_fm L i0 l1 h0' hO
          refine ⟨i2, l1, qe_Mod_best L _ i0 l1 _ ?_, eM, ek⟩
          simp only [(qs_part01 L i0 l1).1 (Or.inr rfl), Option.bind_some, mq_10, ↓reduceIte, e, qs_mayMany L i2 l1 (mq_Wm D) eG, ez, h0]
          rw [qs_luckyNow L i2 l1 eM.1 hO.1 (mq_Wm D) eG (fun s _ => mq_sw62 hO.1 s), Option.bind_some]
  · refine mq_P_ref (r := -2) hC hM hO 2 (qe_Two_best L x i l _ ?_) (fun i0 h => qe_Mod_best L x i0 l _ ?_)
    · rw [if_neg (fun q => hx (Or.inl q)), if_neg (fun q => hx (Or.inr q))]
      simp only [qs_refuse L i l mq_r2 (show 2 < 7 by omega), Option.bind_some]
    · simp only [(qs_part01 L i0 l).2 hx, Option.bind_some, ↓reduceIte, qs_no L i0 l mq_r2 (show 2 < 7 by omega)]
end
