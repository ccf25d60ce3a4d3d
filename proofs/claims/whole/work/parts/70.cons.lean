/-! The two constructors. -/
noncomputable def mj_run1 (L : Nat) (xs : Nat → Int32) : Option mjR := mj_go 3000 (mj_rk 78 [.ref 1]) 78 0 (mj_lo 78 [.ref 1]) [] (mj_grow (mj_world0 L xs) 7 11)
noncomputable def mj_run2 (w : mjW) : Option mjR := mj_go 3000 (mj_rk 133 [.ref 42]) 133 0 (mj_lo 133 [.ref 42]) [] (mj_grow w 8 54)
noncomputable def mj_both (L : Nat) (xs : Nat → Int32) : Option mjW := match mj_run1 L xs with
  | some (none, w) => bif Nat.beq w.1.length 42 then (match mj_run2 w with
    | some (none, w') => some w'
    | _ => none) else none
  | _ => none
def mj_want : List (Nat × Nat × Nat) := [(2, 0, 8), (2, 4, 85), (2, 5, 4), (2, 6, 0), (2, 7, 0), (2, 8, 2), (2, 9, 0), (3, 0, 0), (3, 1, 0), (3, 2, 0), (3, 3, 0), (3, 4, 0), (3, 5, 0), (3, 6, 0), (3, 7, 0), (4, 0, 0), (4, 1, 0), (4, 2, 0), (4, 3, 0), (4, 4, 0), (4, 5, 0), (4, 6, 0), (4, 7, 0), (5, 0, 0), (5, 1, 1), (5, 2, 2), (5, 3, 3), (5, 4, 4), (5, 5, 5), (5, 6, 6), (5, 7, 7), (1, 3, 0), (20, 1, 0), (1, 6, 0), (23, 0, 0), (23, 1, 0), (23, 2, 0), (23, 3, 0), (23, 4, 0), (23, 5, 0), (23, 6, 0), (42, 6, 8), (42, 7, 85), (42, 8, 4), (42, 9, 0), (42, 10, 0), (42, 11, 2), (42, 12, 0), (42, 25, 0), (42, 19, 0), (42, 53, 0), (44, 0, 0), (44, 1, 0), (44, 2, 0), (44, 3, 0), (44, 4, 0), (44, 5, 0), (44, 6, 0), (44, 7, 0), (45, 0, 0), (45, 1, 0), (45, 2, 0), (45, 3, 0), (45, 4, 0), (45, 5, 0), (45, 6, 0), (45, 7, 0), (46, 0, 0), (46, 1, 1), (46, 2, 2), (46, 3, 3), (46, 4, 4), (46, 5, 5), (46, 6, 6), (46, 7, 7), (43, 0, 0), (43, 1, 0), (43, 2, 0), (43, 3, 0), (43, 4, 0), (43, 5, 0), (43, 6, 0), (68, 1, 0), (69, 1, 0)]
noncomputable def mj_good (L : Nat) (xs : Nat → Int32) : Bool := match mj_both L xs with
  | some w => decide (w.1 = mj_SH L) && (List.range 73).all (fun a => (List.range 64).all (fun k => decide (w.2.1 a k = mj_MR a k))) && mj_want.all (fun q => decide (w.2.2.1 q.1 q.2.1 = Int32.ofNat q.2.2))
  | none => false
set_option maxRecDepth 1000000 in
theorem mj_good0 : mj_good 0 (fun _ => 0) = true := by decide +kernel
