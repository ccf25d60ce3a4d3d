/-! the words -/
def mj_sub (k : Nat) : List Cond := bif Nat.beq k 0 then tables_1_1 else bif Nat.beq k 1 then tables_1_2 else bif Nat.beq k 2 then tables_1_3 else bif Nat.beq k 3 then tables_1_4 else bif Nat.beq k 4 then tables_1_5 else tables_1_6
theorem mj_sub_mem {k : Nat} {w : Cond} (h : w ∈ mj_sub k) : w ∈ tables_1 := by
  show w ∈ tables_1_1 ++ (tables_1_2 ++ (tables_1_3 ++ (tables_1_4 ++ (tables_1_5 ++ tables_1_6))))
  unfold mj_sub at h
  simp only [List.mem_append]
  cases h0 : Nat.beq k 0 <;> rw [h0] at h
  · cases h1 : Nat.beq k 1 <;> rw [h1] at h
    · cases h2 : Nat.beq k 2 <;> rw [h2] at h
      · cases h3 : Nat.beq k 3 <;> rw [h3] at h
        · cases h4 : Nat.beq k 4 <;> rw [h4] at h
          · exact Or.inr (Or.inr (Or.inr (Or.inr (Or.inr h))))
          · exact Or.inr (Or.inr (Or.inr (Or.inr (Or.inl h))))
        · exact Or.inr (Or.inr (Or.inr (Or.inl h)))
      · exact Or.inr (Or.inr (Or.inl h))
    · exact Or.inr (Or.inl h)
  · exact Or.inl h
def mj_is (i : Nat) (w : Cond) : Bool := bif Nat.ble i 72 then decide ((k2_sels lw_privs)[i]? = some w) else decide ((mj_sub ((i - 73) / 240))[(i - 73) % 240]? = some w)
theorem mj_is_mem {i : Nat} {w : Cond} (h : mj_is i w = true) : w ∈ lw_tbl := by
  unfold mj_is at h
  cases h0 : Nat.ble i 72 <;> rw [h0] at h
  · exact List.mem_append_right _ (mj_sub_mem (List.mem_of_getElem? (of_decide_eq_true h)))
  · exact List.mem_append_left _ (List.mem_of_getElem? (of_decide_eq_true h))
noncomputable def mj_T (c : Nat) : u_T := bif Nat.beq c 0 then mj_T0 else bif Nat.beq c 1 then mj_T1 else bif Nat.beq c 2 then mj_T2 else bif Nat.beq c 3 then mj_T3 else bif Nat.beq c 4 then mj_T4 else bif Nat.beq c 5 then mj_T5 else mj_T6
noncomputable def mj_ty (c : Nat) : Nat → FieldType := bif Nat.beq c 0 then mj_ty0 else bif Nat.beq c 1 then mj_ty1 else bif Nat.beq c 2 then mj_ty2 else bif Nat.beq c 3 then mj_ty3 else bif Nat.beq c 4 then mj_ty4 else bif Nat.beq c 5 then mj_ty5 else mj_ty6
noncomputable def mj_okF (q n : Nat) : Bool := Nat.ble (n / 64) 6 && Nat.ble (n % 64 + 1) (mj_N (n / 64)) && mj_is (mj_fp q) (.fieldLink (mj_cn (q / 1000)) (q % 1000) (mj_T (n / 64) (n % 64)).1 (mj_T (n / 64) (n % 64)).2.1 (mj_T (n / 64) (n % 64)).2.2.1)
set_option maxRecDepth 100000 in
theorem mj_fra : (List.range 11000).all (fun q => match mj_fr q with
  | none => true
  | some n => mj_okF q n) = true := by decide +kernel
noncomputable def mj_okM (q : Nat) (r : Nat × Nat) : Bool := bif Nat.beq r.1 0 then mj_is (mj_mp q) (.methodLink (mj_cn (q / 1000)) (q % 1000) (bif Nat.beq r.2 999 then Jvm.Lib.objectInit else bif Nat.beq r.2 1000 then Jvm.Lib.Math.max.name else bif Nat.beq r.2 1001 then Jvm.Lib.Math.min.name else mj_mn r.2)) else mj_is (mj_mp q) (.methodLinkNest (mj_cn (q / 1000)) (q % 1000) (mj_mn r.2) "TwoGoodOfEight")
set_option maxRecDepth 100000 in
theorem mj_mra : (List.range 11000).all (fun q => match mj_mr q with
  | none => true
  | some n => mj_okM q n) = true := by decide +kernel
set_option maxRecDepth 100000 in
theorem mj_cra : (List.range 11000).all (fun q => match mj_cr q with
  | none => true
  | some n => mj_is (mj_cp q) (.classLink (mj_cn (q / 1000)) (q % 1000) (mj_cn n))) = true := by decide +kernel
set_option maxRecDepth 100000 in
theorem mj_kra : (List.range 11000).all (fun q => match mj_kr q with
  | none => true
  | some n => mj_is (mj_kp q) (.constant (mj_cn (q / 1000)) (q % 1000) n)) = true := by decide +kernel
set_option maxRecDepth 100000 in
theorem mj_lra : (List.range 11000).all (fun q => match mj_lr q with
  | none => true
  | some n => mj_is (mj_lp q) (.constantLong (mj_cn (q / 1000)) (q % 1000) n)) = true := by decide +kernel
noncomputable def mj_okZ (z : Nat) : Bool := (bif mj_sk z then mj_is (mj_pS z) (.static (mj_mn z)) else mj_is (mj_pS z) (.instanceMethod (mj_mn z)) && (decide ((mj_mn z).name = "<init>") || mj_is (mj_pV z) (.selects (mj_mn z).cls (mj_mn z) (mj_mn z)))) &&
  mj_is (mj_pC z) (.code (mj_mn z) (mj_mb z) (mj_ml z) (mj_mt z)) && mj_is (mj_pI (mj_mc z)) (.initialized (mj_mn z).cls) && (Nat.beq (mj_mc z) 8 || _root_.Jvm.plainName (mj_mn z).cls) &&
  decide ((mj_mn z).cls ≠ "java/lang/invoke/MethodHandle") && decide ((mj_mn z).cls ≠ "java/lang/invoke/VarHandle") && decide ((parseMethodDescriptor (mj_mn z).desc).map (fun d => d.parameters.length) = some (mj_np z)) && decide ((mj_mn z).cls = mj_cn (mj_mc z)) && Nat.ble (mj_ml z) 45 && Nat.ble (mj_mc z) 10
set_option maxRecDepth 100000 in
theorem mj_z0 : (List.range' 0 15).all mj_okZ = true := by decide +kernel
set_option maxRecDepth 100000 in
theorem mj_z1 : (List.range' 15 15).all mj_okZ = true := by decide +kernel
set_option maxRecDepth 100000 in
theorem mj_z2 : (List.range' 30 15).all mj_okZ = true := by decide +kernel
set_option maxRecDepth 100000 in
theorem mj_z3 : (List.range' 45 15).all mj_okZ = true := by decide +kernel
set_option maxRecDepth 100000 in
theorem mj_z4 : (List.range' 60 15).all mj_okZ = true := by decide +kernel
set_option maxRecDepth 100000 in
theorem mj_z5 : (List.range' 75 15).all mj_okZ = true := by decide +kernel
set_option maxRecDepth 100000 in
theorem mj_z6 : (List.range' 90 15).all mj_okZ = true := by decide +kernel
set_option maxRecDepth 100000 in
theorem mj_z7 : (List.range' 105 15).all mj_okZ = true := by decide +kernel
set_option maxRecDepth 100000 in
theorem mj_z8 : (List.range' 120 15).all mj_okZ = true := by decide +kernel
set_option maxRecDepth 100000 in
theorem mj_z9 : (List.range' 135 15).all mj_okZ = true := by decide +kernel
set_option maxRecDepth 100000 in
theorem mj_z10 : (List.range' 150 15).all mj_okZ = true := by decide +kernel
set_option maxRecDepth 100000 in
theorem mj_z11 : (List.range' 165 15).all mj_okZ = true := by decide +kernel
set_option maxRecDepth 100000 in
theorem mj_z12 : (List.range' 180 15).all mj_okZ = true := by decide +kernel
set_option maxRecDepth 100000 in
theorem mj_z13 : (List.range' 195 15).all mj_okZ = true := by decide +kernel
set_option maxRecDepth 100000 in
theorem mj_z14 : (List.range' 210 15).all mj_okZ = true := by decide +kernel
set_option maxRecDepth 100000 in
theorem mj_z15 : (List.range' 225 1).all mj_okZ = true := by decide +kernel
noncomputable def mj_okC (c : Nat) : Bool := mj_is (mj_pN c) (.instantiable (mj_cn c) (mj_N c)) && mj_is (mj_pI c) (.initialized (mj_cn c)) && (List.range (mj_N c)).all (fun k => mj_is (mj_pF c k) (u_lay (mj_cn c) (mj_T c) k) &&
  (match mj_ty c k with
    | .int => Nat.beq (mj_tc c k) 0
    | .boolean => Nat.beq (mj_tc c k) 1
    | .array _ => Nat.beq (mj_tc c k) 2
    | .object _ => Nat.beq (mj_tc c k) 2
    | _ => false) && (mj_T c k).2.2.2 == mj_fi c k && decide ((mj_T c k).1 = mj_cn c))
set_option maxRecDepth 100000 in
theorem mj_ca7 : (List.range 7).all mj_okC = true := by decide +kernel
theorem mj_arri : mj_is 171 (.arrayClass .int) = true := by decide +kernel
theorem mj_arrl : mj_is 229 (.arrayClass .long) = true := by decide +kernel
theorem mj_za {z : Nat} (h : z < 226) : mj_okZ z = true := by
  have r : ∀ (a k : Nat), (List.range' a k).all mj_okZ = true → a ≤ z → z < a + k → mj_okZ z = true := fun a k h h1 h2 => List.all_eq_true.mp h z (List.mem_range'_1.mpr ⟨h1, h2⟩)
  by_cases h0 : z < 15
  · exact r 0 15 mj_z0 (by omega) (by omega)
  by_cases h1 : z < 30
  · exact r 15 15 mj_z1 (by omega) (by omega)
  by_cases h2 : z < 45
  · exact r 30 15 mj_z2 (by omega) (by omega)
  by_cases h3 : z < 60
  · exact r 45 15 mj_z3 (by omega) (by omega)
  by_cases h4 : z < 75
  · exact r 60 15 mj_z4 (by omega) (by omega)
  by_cases h5 : z < 90
  · exact r 75 15 mj_z5 (by omega) (by omega)
  by_cases h6 : z < 105
  · exact r 90 15 mj_z6 (by omega) (by omega)
  by_cases h7 : z < 120
  · exact r 105 15 mj_z7 (by omega) (by omega)
  by_cases h8 : z < 135
  · exact r 120 15 mj_z8 (by omega) (by omega)
  by_cases h9 : z < 150
  · exact r 135 15 mj_z9 (by omega) (by omega)
  by_cases h10 : z < 165
  · exact r 150 15 mj_z10 (by omega) (by omega)
  by_cases h11 : z < 180
  · exact r 165 15 mj_z11 (by omega) (by omega)
  by_cases h12 : z < 195
  · exact r 180 15 mj_z12 (by omega) (by omega)
  by_cases h13 : z < 210
  · exact r 195 15 mj_z13 (by omega) (by omega)
  by_cases h14 : z < 225
  · exact r 210 15 mj_z14 (by omega) (by omega)
  exact r 225 1 mj_z15 (by omega) (by omega)
theorem mj_lawY : mj_okY 226 = true := by
  refine List.all_eq_true.mpr fun p hp => ?_
  have hp : p < 1098 := Nat.lt_of_lt_of_le (List.mem_range.mp hp) (by decide +kernel)
  have r : ∀ (a k : Nat), (List.range' a k).all (mj_okP 226) = true → a ≤ p → p < a + k → mj_okP 226 p = true := fun a k h h1 h2 => List.all_eq_true.mp h p (List.mem_range'_1.mpr ⟨h1, h2⟩)
  by_cases h0 : p < 50
  · exact r 0 50 mj_w0 (by omega) (by omega)
  by_cases h1 : p < 100
  · exact r 50 50 mj_w1 (by omega) (by omega)
  by_cases h2 : p < 150
  · exact r 100 50 mj_w2 (by omega) (by omega)
  by_cases h3 : p < 200
  · exact r 150 50 mj_w3 (by omega) (by omega)
  by_cases h4 : p < 250
  · exact r 200 50 mj_w4 (by omega) (by omega)
  by_cases h5 : p < 300
  · exact r 250 50 mj_w5 (by omega) (by omega)
  by_cases h6 : p < 350
  · exact r 300 50 mj_w6 (by omega) (by omega)
  by_cases h7 : p < 400
  · exact r 350 50 mj_w7 (by omega) (by omega)
  by_cases h8 : p < 450
  · exact r 400 50 mj_w8 (by omega) (by omega)
  by_cases h9 : p < 500
  · exact r 450 50 mj_w9 (by omega) (by omega)
  by_cases h10 : p < 550
  · exact r 500 50 mj_w10 (by omega) (by omega)
  by_cases h11 : p < 600
  · exact r 550 50 mj_w11 (by omega) (by omega)
  by_cases h12 : p < 650
  · exact r 600 50 mj_w12 (by omega) (by omega)
  by_cases h13 : p < 700
  · exact r 650 50 mj_w13 (by omega) (by omega)
  by_cases h14 : p < 750
  · exact r 700 50 mj_w14 (by omega) (by omega)
  by_cases h15 : p < 800
  · exact r 750 50 mj_w15 (by omega) (by omega)
  by_cases h16 : p < 850
  · exact r 800 50 mj_w16 (by omega) (by omega)
  by_cases h17 : p < 900
  · exact r 850 50 mj_w17 (by omega) (by omega)
  by_cases h18 : p < 950
  · exact r 900 50 mj_w18 (by omega) (by omega)
  by_cases h19 : p < 1000
  · exact r 950 50 mj_w19 (by omega) (by omega)
  by_cases h20 : p < 1050
  · exact r 1000 50 mj_w20 (by omega) (by omega)
  exact r 1050 48 mj_w21 (by omega) (by omega)
theorem mj_ally {y : Nat} (h : y < 227) : mj_okY y = true := by
  have r : ∀ (a k : Nat), (List.range' a k).all mj_okY = true → a ≤ y → y < a + k → mj_okY y = true := fun a k h h1 h2 => List.all_eq_true.mp h y (List.mem_range'_1.mpr ⟨h1, h2⟩)
  by_cases h0 : y < 15
  · exact r 0 15 mj_y0 (by omega) (by omega)
  by_cases h1 : y < 30
  · exact r 15 15 mj_y1 (by omega) (by omega)
  by_cases h2 : y < 45
  · exact r 30 15 mj_y2 (by omega) (by omega)
  by_cases h3 : y < 60
  · exact r 45 15 mj_y3 (by omega) (by omega)
  by_cases h4 : y < 75
  · exact r 60 15 mj_y4 (by omega) (by omega)
  by_cases h5 : y < 90
  · exact r 75 15 mj_y5 (by omega) (by omega)
  by_cases h6 : y < 105
  · exact r 90 15 mj_y6 (by omega) (by omega)
  by_cases h7 : y < 120
  · exact r 105 15 mj_y7 (by omega) (by omega)
  by_cases h8 : y < 135
  · exact r 120 15 mj_y8 (by omega) (by omega)
  by_cases h9 : y < 150
  · exact r 135 15 mj_y9 (by omega) (by omega)
  by_cases h10 : y < 165
  · exact r 150 15 mj_y10 (by omega) (by omega)
  by_cases h11 : y < 180
  · exact r 165 15 mj_y11 (by omega) (by omega)
  by_cases h12 : y < 195
  · exact r 180 15 mj_y12 (by omega) (by omega)
  by_cases h13 : y < 210
  · exact r 195 15 mj_y13 (by omega) (by omega)
  by_cases h14 : y < 225
  · exact r 210 15 mj_y14 (by omega) (by omega)
  by_cases h15 : y < 226
  · exact r 225 1 mj_y15 (by omega) (by omega)
  have : y = 226 := by omega
  subst this
  exact mj_lawY
theorem mj_cob {y p : Nat} {e : mjE} (h : mj_co y p = some e) : y < 227 ∧ p < mj_sz y := by
  unfold mj_co at h
  cases h1 : Nat.ble 227 y with
  | true => rw [h1] at h; cases h
  | false =>
    rw [h1] at h
    cases h2 : Nat.ble (mj_sz y) p with
    | true => rw [h2] at h; cases h
    | false =>
      constructor
      · exact Nat.lt_of_not_le fun q => by rw [Nat.ble_eq_true_of_le q] at h1; cases h1
      · exact Nat.lt_of_not_le fun q => by rw [Nat.ble_eq_true_of_le q] at h2; cases h2
theorem mj_coE {y p : Nat} {e : mjE} (h : mj_co y p = some e) : mj_okE y p e = true := by
  obtain ⟨h1, h2⟩ := mj_cob h
  have := List.all_eq_true.mp (mj_ally h1) p (List.mem_range.mpr h2)
  unfold mj_okP at this
  rw [h] at this
  exact this
set_option maxRecDepth 100000 in
theorem mj_mxI : mj_is 76 (.initialized "java/lang/Math") = true := by decide +kernel
set_option maxRecDepth 100000 in
theorem mj_mxS : Cond.static Jvm.Lib.Math.max.name ∈ lw_tbl := by decide +kernel
set_option maxRecDepth 100000 in
theorem mj_mxC : Cond.code Jvm.Lib.Math.max.name Jvm.Lib.Math.max.code 2 (some .int) ∈ lw_tbl := by decide +kernel
set_option maxRecDepth 100000 in
theorem mj_mnS : Cond.static Jvm.Lib.Math.min.name ∈ lw_tbl := by decide +kernel
set_option maxRecDepth 100000 in
theorem mj_mnC : Cond.code Jvm.Lib.Math.min.name Jvm.Lib.Math.min.code 2 (some .int) ∈ lw_tbl := by decide +kernel
set_option maxRecDepth 100000 in
theorem mj_obI : Cond.instanceMethod Jvm.Lib.objectInit ∈ lw_tbl := by decide +kernel
set_option maxRecDepth 100000 in
theorem mj_obC : Cond.code Jvm.Lib.objectInit ⟨#[0xb1]⟩ 1 none ∈ lw_tbl := by decide +kernel
