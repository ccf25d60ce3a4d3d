/-! The law comes to its end, with true. -/
theorem mj_law_runs {L : Nat} (hL : L ≤ 2560) (xs : Nat → Int32) : ∃ n d w', d ≤ 100 ∧ mj_go n d 226 0 [some (.ref 0), none, none, none] [] (mj_world0 L xs) = some (some (.int 1), w') ∧ w'.1.length ≤ 600000 ∧ mj_tot w'.1 ≤ L + 7302250 := by
  obtain ⟨i, l, hb, W⟩ := mj_begin L xs
  obtain ⟨hC, hM, hO⟩ := mq_begin W
  obtain ⟨i', l', hr⟩ := mq_loop hL L 0 (by omega) (by omega) i l _ _ _ _ hC hM hO
  have h : mj_ev 33 226 (0, [some (.ref 0), none, none, none], [], mj_world0 L xs) = some (some (.int 1), mj_mk L i' l') := hb.trans hr
  obtain ⟨n, hn⟩ := mj_ev_iff.mp h
  have e : (mj_mk L i' l').1 = mj_SH L := rfl
  refine ⟨n, 33, mj_mk L i' l', by omega, hn, ?_, ?_⟩
  · rw [e, mj_SH_len]
    omega
  · rw [e]
    simp only [mj_SH, mj_tot]
    omega
