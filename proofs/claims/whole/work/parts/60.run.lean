/-! An evening as mathematics: its pairs laid, and how it goes. -/
def mq_sh (k F : Nat) : Nat := if k = 5 then F else 0
def mq_EV (i : mMI) (D : mq_D) (k F : Nat) : Prop :=
  i 35 2 = nI (mq_pl (D 0 0) (D 5 0) k).length ∧ mq_h2 (i 36) (i 37) (mq_pl (D 0 0) (D 5 0) k) ∧ i 35 7 = nI k ∧ i 35 8 = nI (D 0 0) ∧ i 35 9 = nI (D 0 0 - D 5 0) ∧ i 35 10 = nI F
theorem mq_pl_0 (n g : Nat) : mq_pl n g 0 = mq_pout n (fun _ _ => true) (mq_hh n false) n 0 := rfl
theorem mq_pl_1 (n g : Nat) : mq_pl n g 1 = mq_pout n (mq_same n g true) (fun x => x) n 0 ++ mq_pout n (mq_same n g false) (fun x => x) n 0 := rfl
theorem mq_pl_2 (n g : Nat) : mq_pl n g 2 = mq_nout n (n - 1) 1 := rfl
theorem mq_pl_3 (n g : Nat) : mq_pl n g 3 = mq_pout n (fun _ _ => true) (mq_hh n true) n 0 := rfl
theorem mq_pl_4 (n g : Nat) : mq_pl n g 4 = mq_pout n (mq_same n g true) (fun x => x) n 0 ++ mq_pout n (mq_same n g false) (fun x => x) n 0 := rfl
theorem mq_pl_5 (n g : Nat) : mq_pl n g 5 = mq_nout n (n - 1) 1 := rfl
theorem mq_k5 {k : Nat} (h : k ≤ 5) : k = 0 ∨ k = 1 ∨ k = 2 ∨ k = 3 ∨ k = 4 ∨ k = 5 := by omega
section
variable {D : mq_D}
theorem qs_pairHeaps (L : Nat) (i : mMI) (l : mML) {n g : Nat} (hn : 2 ≤ n ∧ n ≤ 8) (hg : g ≤ n) (h8 : i 35 8 = nI n) (h2 : i 35 2 = 0) : ∃ i', qf_Evening_pairHeaps L (nI (mq_hc g)) i l = some (i', l) ∧ i' 35 2 = nI (mq_pl n g 1).length ∧ mq_h2 (i' 36) (i' 37) (mq_pl n g 1) ∧ (∀ c, c ≠ 35 → c ≠ 36 → c ≠ 37 → c ≠ 38 → i' c = i c) ∧ ∀ j, j ≠ 2 → i' 35 j = i 35 j := by
  obtain ⟨hc1, hc2, hc3, hc4⟩ := mq_hc_in hn hg
  have hlen := mq_pl_len (k := 1) hn.2 hg (by omega)
  rw [mq_pl_1] at hlen ⊢
  obtain ⟨i1, e1, a1, a2⟩ := qs_fillHeaps L i l hn.2 ⟨hc1, hc2⟩ h8
  have b8 : i1 35 8 = nI n := by rw [a2 35 (by omega)]; exact h8
  have z : mq_Ec i1 i1 [] := ⟨by rw [a2 35 (by omega), h2]; rfl, fun t s w h => (by cases h), fun _ _ _ _ => rfl, fun _ _ => rfl⟩
  obtain ⟨i2, e2, z2⟩ := qs_pairWhere (g := g) L true i1 l hn b8 a1 _ [] (Nat.le_trans (mq_app_len rfl) hlen) z rfl
  obtain ⟨i3, e3, z3⟩ := qs_pairWhere (g := g) L false i2 l hn b8 a1 _ _ hlen z2 rfl
  have e2' : qf_Evening_pairWhere L (1 : Int32) i1 l = some (i2, l) := e2
  have e3' : qf_Evening_pairWhere L (0 : Int32) i2 l = some (i3, l) := e3
  refine ⟨i3, qe_Evening_pairHeaps L _ i l _ ?_, z3.1, z3.2.1, fun c c1 c2 c3 c4 => ?_, fun j hj => ?_⟩
  · rw [e1, Option.bind_some]
    dsimp only
    rw [e2', Option.bind_some]
    dsimp only
    rw [e3', Option.bind_some]
  · rw [z3.2.2.1 c c1 c2 c3, a2 c c4]
  · rw [z3.2.2.2 j hj, a2 35 (by omega)]
theorem qs_prepare (L : Nat) {k F : Nat} (i : mMI) (l : mML) (hC : mq_CD 2 3 4 5 6 7 i D) (hO : mq_Ok D) (hk : k ≤ 5) : ∃ i', qf_Evening_prepare_2 L (nI k) (nI F) i l = some (i', l) ∧ mq_EV i' D k F ∧ (∀ p, p < 8 → i' 39 p = nI (D 3 p)) ∧ ∀ c, c ≠ 35 → c ≠ 36 → c ≠ 37 → c ≠ 38 → c ≠ 39 → i' c = i c := by
  have hn := hO.1
  have hg := hO.2.2.2.2.2.1
  have hlen := mq_pl_len hn.2 hg hk
  let i1 : mMI := mj_up (mj_up (mj_up (mj_up i 35 7 (nI k)) 35 8 (nI (D 0 0))) 35 9 (nI (D 0 0 - D 5 0))) 35 10 (nI F)
  let i2 : mMI := mq_cp i1 5 39 8
  let i3 : mMI := mj_up i2 35 2 (0 : Int32)
  have el : qf_Evening_lieAs_5 L i1 l = some (i2, l) := by
    refine qe_Evening_lieAs_5 L i1 l _ ?_
    rw [qs_Two_copy_5_39 L i1 l, Option.bind_some]
  have f1 : ∀ c, c ≠ 35 → i1 c = i c := fun c hc => (mq_upn hc).trans ((mq_upn hc).trans ((mq_upn hc).trans (mq_upn hc)))
  have f2 : ∀ c, c ≠ 35 → c ≠ 39 → i2 c = i c := fun c h1 h2 => (mq_cp_ne h2).trans (f1 c h1)
  have f3 : ∀ c, c ≠ 35 → c ≠ 39 → i3 c = i c := fun c h1 h2 => (mq_upn h1).trans (f2 c h1 h2)
  have f39 : ∀ p, p < 8 → i3 39 p = nI (D 3 p) := by
    intro p hp
    show mj_up i2 35 2 0 39 p = _
    rw [mq_upn (by omega)]
    show mq_cp i1 5 39 8 39 p = _
    rw [mq_cp_at hp, f1 5 (by omega)]
    exact hC.2.2.2.2.2.2.2.2.2.1 p hp
  have f35 : ∀ j, j ≠ 2 → i3 35 j = i1 35 j := by
    intro j hj
    show mj_up i2 35 2 0 35 j = _
    rw [mq_upi_at, if_neg hj]
    show mq_cp i1 5 39 8 35 j = _
    rw [mq_cp_ne (by omega)]
  have z : mq_Ec i3 i3 [] := ⟨by show mj_up i2 35 2 0 35 2 = _; rw [mq_upi_at, if_pos rfl]; rfl, fun t s w h => (by cases h), fun _ _ _ _ => rfl, fun _ _ => rfl⟩
  have b8 : i3 35 8 = nI (D 0 0) := f35 8 (by omega)
  have e5 : i2 2 5 = nI (D 5 0) := by rw [f2 2 (by omega) (by omega)]; exact hC.2.2.1
  have fin : ∀ i' : mMI, i' 35 2 = nI (mq_pl (D 0 0) (D 5 0) k).length → mq_h2 (i' 36) (i' 37) (mq_pl (D 0 0) (D 5 0) k) → (∀ c, c ≠ 35 → c ≠ 36 → c ≠ 37 → c ≠ 38 → i' c = i3 c) → (∀ j, j ≠ 2 → i' 35 j = i3 35 j) → mq_EV i' D k F ∧ (∀ p, p < 8 → i' 39 p = nI (D 3 p)) ∧ ∀ c, c ≠ 35 → c ≠ 36 → c ≠ 37 → c ≠ 38 → c ≠ 39 → i' c = i c := by
    intro i' q1 q2 q3 q4
    refine ⟨⟨q1, q2, (q4 7 (by omega)).trans (f35 7 (by omega)), (q4 8 (by omega)).trans b8, (q4 9 (by omega)).trans (f35 9 (by omega)), (q4 10 (by omega)).trans (f35 10 (by omega))⟩, fun p hp => ?_, fun c c1 c2 c3 c4 c5 => (q3 c c1 c2 c3 c4).trans (f3 c c1 c5)⟩
    rw [q3 39 (by omega) (by omega) (by omega) (by omega)]
    exact f39 p hp
  have start : ∀ r, (if (nI k : Int32) = (1 : Int32) then ((qf_Evening_pairHeaps L (nI (mq_hc (D 5 0))) i3 l).bind fun q2 => (some (q2.1, q2.2))) else (if (nI k : Int32) = (2 : Int32) then ((qf_Evening_pairNeighbours L i3 l).bind fun q3 => (some (q3.1, q3.2))) else (if (nI k : Int32) = (3 : Int32) then (if (nI k : Int32) = (3 : Int32) then ((qf_Evening_pairAll L (1 : Int32) i3 l).bind fun q4 => (some (q4.1, q4.2))) else ((qf_Evening_pairAll L (0 : Int32) i3 l).bind fun q5 => (some (q5.1, q5.2)))) else (if (nI k : Int32) = (4 : Int32) then ((qf_Evening_pairHeaps L (nI (mq_hc (D 5 0))) i3 l).bind fun q6 => (some (q6.1, q6.2))) else (if (nI k : Int32) = (5 : Int32) then ((qf_Evening_pairNeighbours L i3 l).bind fun q7 => (some (q7.1, q7.2))) else (if (nI k : Int32) = (3 : Int32) then ((qf_Evening_pairAll L (1 : Int32) i3 l).bind fun q8 => (some (q8.1, q8.2))) else ((qf_Evening_pairAll L (0 : Int32) i3 l).bind fun q9 => (some (q9.1, q9.2))))))))) = some r → qf_Evening_prepare_2 L (nI k) (nI F) i l = some r := by
    intro r hr
    refine qe_Evening_prepare_2 L _ _ i l _ ?_
    rw [hC.1, hC.2.2.1, pk_sub hg]
    have el' : qf_Evening_lieAs_5 L (mj_up (mj_up (mj_up (mj_up i 35 7 (nI k)) 35 8 (nI (D 0 0))) 35 9 (nI (D 0 0 - D 5 0))) 35 10 (nI F)) l = some (i2, l) := el
    rw [el', Option.bind_some]
    dsimp only
    simp only [e5]
    rw [mq_hcI (D 5 0) (by omega)]
    exact hr
  rcases mq_k5 hk with rfl | rfl | rfl | rfl | rfl | rfl
  · obtain ⟨i', g1, g2⟩ := qs_pairAll L false i3 l hn b8 z (by rw [mq_pl_0] at hlen; exact hlen)
    rw [← mq_pl_0 (D 0 0) (D 5 0)] at g2
    have g1' : qf_Evening_pairAll L (0 : Int32) i3 l = some (i', l) := g1
    refine ⟨i', start _ ?_, fin i' g2.1 g2.2.1 (fun c c1 c2 c3 _ => g2.2.2.1 c c1 c2 c3) g2.2.2.2⟩
    rw [if_neg (by decide), if_neg (by decide), if_neg (by decide), if_neg (by decide), if_neg (by decide), if_neg (by decide), g1', Option.bind_some]
  · obtain ⟨i', g1, g2, g3, g4, g5⟩ := qs_pairHeaps L i3 l hn hg b8 z.1
    refine ⟨i', start _ ?_, fin i' g2 g3 g4 g5⟩
    rw [if_pos (by decide), g1, Option.bind_some]
  · obtain ⟨i', g1, g2⟩ := qs_pairNeighbours L i3 l hn b8 z (by rw [mq_pl_2] at hlen; exact hlen)
    rw [← mq_pl_2 (D 0 0) (D 5 0)] at g2
    refine ⟨i', start _ ?_, fin i' g2.1 g2.2.1 (fun c c1 c2 c3 _ => g2.2.2.1 c c1 c2 c3) g2.2.2.2⟩
    rw [if_neg (by decide), if_pos (by decide), g1, Option.bind_some]
  · obtain ⟨i', g1, g2⟩ := qs_pairAll L true i3 l hn b8 z (by rw [mq_pl_3] at hlen; exact hlen)
    rw [← mq_pl_3 (D 0 0) (D 5 0)] at g2
    have g1' : qf_Evening_pairAll L (1 : Int32) i3 l = some (i', l) := g1
    refine ⟨i', start _ ?_, fin i' g2.1 g2.2.1 (fun c c1 c2 c3 _ => g2.2.2.1 c c1 c2 c3) g2.2.2.2⟩
    rw [if_neg (by decide), if_neg (by decide), if_pos (by decide), if_pos (by decide), g1', Option.bind_some]
  · obtain ⟨i', g1, g2, g3, g4, g5⟩ := qs_pairHeaps L i3 l hn hg b8 z.1
    refine ⟨i', start _ ?_, fin i' g2 g3 g4 g5⟩
    rw [if_neg (by decide), if_neg (by decide), if_neg (by decide), if_pos (by decide), g1, Option.bind_some]
  · obtain ⟨i', g1, g2⟩ := qs_pairNeighbours L i3 l hn b8 z (by rw [mq_pl_5] at hlen; exact hlen)
    rw [← mq_pl_5 (D 0 0) (D 5 0)] at g2
    refine ⟨i', start _ ?_, fin i' g2.1 g2.2.1 (fun c c1 c2 c3 _ => g2.2.2.1 c c1 c2 c3) g2.2.2.2⟩
    rw [if_neg (by decide), if_neg (by decide), if_neg (by decide), if_neg (by decide), if_pos (by decide), g1, Option.bind_some]
theorem qs_lays15 (L : Nat) (i : mMI) (l : mML) {n g : Nat} (hn : 2 ≤ n ∧ n ≤ 8) (hg : g ≤ n) (h6 : i 42 6 = nI n) (h8 : i 42 8 = nI g) (h42 : i 42 42 = 0) : ∃ i', qf_Mod_laysPairs_p15 L i l = some (i', l) ∧ i' 42 42 = nI (mq_pl n g 1).length ∧ mq_h2 (i' 64) (i' 65) (mq_pl n g 1) ∧ (∀ c, c ≠ 42 → c ≠ 64 → c ≠ 65 → c ≠ 66 → i' c = i c) ∧ ∀ j, j ≠ 42 → i' 42 j = i 42 j := by
  have hlen := mq_pl_len (k := 1) hn.2 hg (by omega)
  rw [mq_pl_1] at hlen ⊢
  obtain ⟨i1, e1, a1, a2⟩ := qs_laysHeaps L i l hn hg h6 h8
  have b6 : i1 42 6 = nI n := by rw [a2 42 (by omega)]; exact h6
  have z : mq_Em i1 i1 [] := ⟨by rw [a2 42 (by omega), h42]; rfl, fun t s w h => (by cases h), fun _ _ _ _ => rfl, fun _ _ => rfl⟩
  obtain ⟨i2, e2, z2⟩ := qs_laysInHeaps (g := g) L true i1 l hn b6 a1 _ [] (Nat.le_trans (mq_app_len rfl) hlen) z rfl
  obtain ⟨i3, e3, z3⟩ := qs_laysInHeaps (g := g) L false i2 l hn b6 a1 _ _ hlen z2 rfl
  have e2' : qf_Mod_laysInHeaps L (1 : Int32) i1 l = some (i2, l) := e2
  have e3' : qf_Mod_laysInHeaps L (0 : Int32) i2 l = some (i3, l) := e3
  refine ⟨i3, qe_Mod_laysPairs_p15 L i l _ ?_, z3.1, z3.2.1, fun c c1 c2 c3 c4 => ?_, fun j hj => ?_⟩
  · rw [e1, Option.bind_some]
    dsimp only
    rw [e2', Option.bind_some]
    dsimp only
    rw [e3', Option.bind_some]
  · rw [z3.2.2.1 c c1 c2 c3, a2 c c4]
  · rw [z3.2.2.2 j hj, a2 42 (by omega)]
theorem qs_laysPairs (L : Nat) {k : Nat} (i : mMI) (l : mML) {n g : Nat} (hn : 2 ≤ n ∧ n ≤ 8) (hg : g ≤ n) (hk : k ≤ 5) (h6 : i 42 6 = nI n) (h8 : i 42 8 = nI g) : ∃ i', qf_Mod_laysPairs L (nI k) i l = some (i', l) ∧ i' 42 42 = nI (mq_pl n g k).length ∧ mq_h2 (i' 64) (i' 65) (mq_pl n g k) ∧ (∀ c, c ≠ 42 → c ≠ 64 → c ≠ 65 → c ≠ 66 → i' c = i c) ∧ ∀ j, j ≠ 42 → i' 42 j = i 42 j := by
  have hlen := mq_pl_len hn.2 hg hk
  have f42 : ∀ j, j ≠ 42 → mj_up i 42 42 (0 : Int32) 42 j = i 42 j := fun j hj => by rw [mq_upi_at, if_neg hj]
  have fc : ∀ c, c ≠ 42 → mj_up i 42 42 (0 : Int32) c = i c := fun c hc => mq_upn hc
  have z0 : mj_up i 42 42 (0 : Int32) 42 42 = 0 := by rw [mq_upi_at, if_pos rfl]
  have b6 : mj_up i 42 42 (0 : Int32) 42 6 = nI n := (f42 6 (by omega)).trans h6
  have b8 : mj_up i 42 42 (0 : Int32) 42 8 = nI g := (f42 8 (by omega)).trans h8
  have z : mq_Em (mj_up i 42 42 (0 : Int32)) (mj_up i 42 42 (0 : Int32)) [] := ⟨z0, fun t s w h => (by cases h), fun _ _ _ _ => rfl, fun _ _ => rfl⟩
  have fin : ∀ i' : mMI, i' 42 42 = nI (mq_pl n g k).length → mq_h2 (i' 64) (i' 65) (mq_pl n g k) → (∀ c, c ≠ 42 → c ≠ 64 → c ≠ 65 → c ≠ 66 → i' c = mj_up i 42 42 (0 : Int32) c) → (∀ j, j ≠ 42 → i' 42 j = mj_up i 42 42 (0 : Int32) 42 j) → i' 42 42 = nI (mq_pl n g k).length ∧ mq_h2 (i' 64) (i' 65) (mq_pl n g k) ∧ (∀ c, c ≠ 42 → c ≠ 64 → c ≠ 65 → c ≠ 66 → i' c = i c) ∧ ∀ j, j ≠ 42 → i' 42 j = i 42 j :=
    fun i' q1 q2 q3 q4 => ⟨q1, q2, fun c c1 c2 c3 c4 => (q3 c c1 c2 c3 c4).trans (fc c c1), fun j hj => (q4 j hj).trans (f42 j hj)⟩
  rcases mq_k5 hk with rfl | rfl | rfl | rfl | rfl | rfl
  · obtain ⟨i', g1, g2⟩ := qs_lays85 (k := 0) L (mj_up i 42 42 (0 : Int32)) l hn (by omega) b6 z (by rw [mq_pl_0] at hlen; exact hlen)
    refine ⟨i', qe_Mod_laysPairs L _ i l _ ?_, fin i' g2.1 g2.2.1 (fun c c1 c2 c3 _ => g2.2.2.1 c c1 c2 c3) g2.2.2.2⟩
    rw [if_neg (by decide), if_neg (by decide), if_neg (by decide), if_neg (by decide)]
    exact g1
  · obtain ⟨i', g1, g2, g3, g4, g5⟩ := qs_lays15 L _ l hn hg b6 b8 z0
    refine ⟨i', qe_Mod_laysPairs L _ i l _ ?_, fin i' g2 g3 g4 g5⟩
    rw [if_pos (by decide)]
    exact g1
  · obtain ⟨i', g1, g2⟩ := qs_lays42 L (mj_up i 42 42 (0 : Int32)) l hn b6 z (by rw [mq_pl_2] at hlen; exact hlen)
    refine ⟨i', qe_Mod_laysPairs L _ i l _ ?_, fin i' g2.1 g2.2.1 (fun c c1 c2 c3 _ => g2.2.2.1 c c1 c2 c3) g2.2.2.2⟩
    rw [if_neg (by decide), if_neg (by decide), if_pos (by decide)]
    exact g1
  · obtain ⟨i', g1, g2⟩ := qs_lays85 (k := 3) L (mj_up i 42 42 (0 : Int32)) l hn (by omega) b6 z (by rw [mq_pl_3] at hlen; exact hlen)
    refine ⟨i', qe_Mod_laysPairs L _ i l _ ?_, fin i' g2.1 g2.2.1 (fun c c1 c2 c3 _ => g2.2.2.1 c c1 c2 c3) g2.2.2.2⟩
    rw [if_neg (by decide), if_neg (by decide), if_neg (by decide), if_neg (by decide)]
    exact g1
  · obtain ⟨i', g1, g2, g3, g4, g5⟩ := qs_lays15 L _ l hn hg b6 b8 z0
    refine ⟨i', qe_Mod_laysPairs L _ i l _ ?_, fin i' g2 g3 g4 g5⟩
    rw [if_neg (by decide), if_pos (by decide)]
    exact g1
  · obtain ⟨i', g1, g2⟩ := qs_lays42 L (mj_up i 42 42 (0 : Int32)) l hn b6 z (by rw [mq_pl_5] at hlen; exact hlen)
    refine ⟨i', qe_Mod_laysPairs L _ i l _ ?_, fin i' g2.1 g2.2.1 (fun c c1 c2 c3 _ => g2.2.2.1 c c1 c2 c3) g2.2.2.2⟩
    rw [if_neg (by decide), if_neg (by decide), if_neg (by decide), if_pos (by decide)]
    exact g1
end
/-! How an evening goes. -/
def mq_lt (k n g F : Nat) (dk : Nat → Nat) (x : Nat) : Bool := if k = 4 then decide (n - g < mq_pop (dk x)) else if k = 5 then F.testBit x else false
def mq_dd (dk : Nat → Nat) (a b : Nat) : Nat → Nat := fun x => if x = a then dk a ||| 2 ^ b else if x = b then dk b ||| 2 ^ a else dk x
def mq_run (k n g F W : Nat) : List (Nat × Nat) → Nat → Nat → (Nat → Nat) → Nat × Nat × Option (Nat × Nat) × (Nat → Nat)
  | [], m, la, dk => (m, la, none, dk)
  | p :: t, m, la, dk => if (mq_lt k n g F dk p.1 || mq_lt k n g F dk p.2) = true then mq_run k n g F W t m la dk
    else if (W.testBit p.1 && W.testBit p.2) = true then (m + 1, 2 ^ p.1 ||| 2 ^ p.2, some p, dk)
    else mq_run k n g F W t (m + 1) (2 ^ p.1 ||| 2 ^ p.2) (mq_dd dk p.1 p.2)
def mq_fr (dk : Nat → Nat) (t : List (Nat × Nat)) : Prop := (∀ p ∈ t, p.1 < 8 ∧ p.2 < 8 ∧ p.1 ≠ p.2 ∧ (dk p.1).testBit p.2 = false ∧ (dk p.2).testBit p.1 = false) ∧ t.Pairwise (fun p q => q ≠ p ∧ q ≠ (p.2, p.1))
theorem mq_fr_tail {dk : Nat → Nat} {p : Nat × Nat} {t : List (Nat × Nat)} (h : mq_fr dk (p :: t)) : mq_fr dk t := ⟨fun q hq => h.1 q (List.mem_cons_of_mem _ hq), (List.pairwise_cons.mp h.2).2⟩
theorem mq_fr_dd {dk : Nat → Nat} {p : Nat × Nat} {t : List (Nat × Nat)} (h : mq_fr dk (p :: t)) : mq_fr (mq_dd dk p.1 p.2) t := by
  have hp := h.1 p (List.mem_cons_self ..)
  have hd := (List.pairwise_cons.mp h.2).1
  refine ⟨fun q hq => ?_, (List.pairwise_cons.mp h.2).2⟩
  obtain ⟨q1, q2, q3, q4, q5⟩ := h.1 q (List.mem_cons_of_mem _ hq)
  obtain ⟨d1, d2⟩ := hd q hq
  have key : ∀ x y, (dk x).testBit y = false → ¬ (x = p.1 ∧ y = p.2) → ¬ (x = p.2 ∧ y = p.1) → (mq_dd dk p.1 p.2 x).testBit y = false := by
    intro x y h0 n1 n2
    unfold mq_dd
    by_cases e1 : x = p.1
    · rw [if_pos e1, Nat.testBit_or, ← e1, h0, Nat.testBit_two_pow, decide_eq_false (fun q => n1 ⟨e1, q.symm⟩)]
      rfl
    · rw [if_neg e1]
      by_cases e2 : x = p.2
      · rw [if_pos e2, Nat.testBit_or, ← e2, h0, Nat.testBit_two_pow, decide_eq_false (fun q => n2 ⟨e2, q.symm⟩)]
        rfl
      · rw [if_neg e2]; exact h0
  refine ⟨q1, q2, q3, key _ _ q4 (fun z => d1 (Prod.ext z.1 z.2)) (fun z => d2 (Prod.ext z.1 z.2)), key _ _ q5 (fun z => d2 (Prod.ext z.2 z.1)) (fun z => d1 (Prod.ext z.2 z.1))⟩
theorem mq_dd_lt {dk : Nat → Nat} {a b : Nat} (h : ∀ x, dk x < 256) (ha : a < 8) (hb : b < 8) : ∀ x, mq_dd dk a b x < 256 := by
  intro x
  have p : ∀ c, c < 8 → 2 ^ c < 2 ^ 8 := fun c hc => mq_pow_lt hc
  unfold mq_dd
  split
  · exact Nat.or_lt_two_pow (n := 8) (h a) (p b hb)
  · split
    · exact Nat.or_lt_two_pow (n := 8) (h b) (p a ha)
    · exact h x
theorem mq_fr_new {n : Nat} {lie : Nat → Nat} (hn : n ≤ 8) (h1 : ∀ j, j < n → lie j < n) (h2 : ∀ a b, a < n → b < n → lie a = lie b → a = b) : ∀ t, mq_newb n t = true → mq_fr (fun _ => 0) (t.map (fun p => (lie p.1, lie p.2)))
  | [], _ => ⟨fun p hp => (by cases hp), List.Pairwise.nil⟩
  | p :: t, h => by
    simp only [mq_newb, Bool.and_eq_true, decide_eq_true_eq, List.all_eq_true] at h
    obtain ⟨⟨⟨⟨a1, a2⟩, a3⟩, a4⟩, a5⟩ := h
    have ih := mq_fr_new hn h1 h2 t a5
    have all : ∀ t, mq_newb n t = true → ∀ q ∈ t, q.1 < n ∧ q.2 < n := by
      intro t
      induction t with
      | nil => intro _ q hq; cases hq
      | cons p t ih =>
        intro h q hq
        simp only [mq_newb, Bool.and_eq_true, decide_eq_true_eq, List.all_eq_true] at h
        obtain ⟨⟨⟨⟨a1, a2⟩, a3⟩, a4⟩, a5⟩ := h
        cases hq with
        | head => exact ⟨a1, a2⟩
        | tail _ hq => exact ih a5 q hq
    rw [List.map_cons]
    refine ⟨fun q hq => ?_, List.pairwise_cons.mpr ⟨fun q hq => ?_, ih.2⟩⟩
    · cases hq with
      | head => exact ⟨by have := h1 _ a1; omega, by have := h1 _ a2; omega, fun e => a3 (h2 _ _ a1 a2 e), Nat.zero_testBit _, Nat.zero_testBit _⟩
      | tail _ hq => exact ih.1 q hq
    · obtain ⟨q0, hq0, rfl⟩ := List.mem_map.mp hq
      obtain ⟨b1, b2⟩ := a4 q0 hq0
      obtain ⟨c1, c2⟩ := all t a5 q0 hq0
      refine ⟨fun e => b1 ?_, fun e => b2 ?_⟩
      · injection e with x1 x2
        exact Prod.ext (h2 _ _ c1 a1 x1) (h2 _ _ c2 a2 x2)
      · injection e with x1 x2
        exact Prod.ext (h2 _ _ c1 a2 x1) (h2 _ _ c2 a1 x2)
theorem mq_run_le (k n g F W : Nat) : ∀ (t : List (Nat × Nat)) (m la : Nat) (dk : Nat → Nat), (mq_run k n g F W t m la dk).1 ≤ m + t.length
  | [], m, la, dk => Nat.le_refl _
  | p :: t, m, la, dk => by
    simp only [mq_run]
    rw [List.length_cons]
    split
    · have := mq_run_le k n g F W t m la dk
      omega
    · split
      · show m + 1 ≤ _
        omega
      · have := mq_run_le k n g F W t (m + 1) (2 ^ p.1 ||| 2 ^ p.2) (mq_dd dk p.1 p.2)
        omega
theorem mq_popor : ∀ s, s < 256 → ∀ b, b < 8 → s.testBit b = false → mq_pop (s ||| 2 ^ b) = mq_pop s + 1 := by decide +kernel
theorem mq_bothbits : ∀ w, w < 256 → ∀ a, a < 8 → ∀ b, b < 8 → (decide (w &&& (2 ^ a ||| 2 ^ b) = 2 ^ a ||| 2 ^ b)) = (w.testBit a && w.testBit b) := by decide +kernel
