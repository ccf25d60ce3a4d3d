/-! The small machine: what the methods do to a world of cells that are numbered in the order in which they are made (0: the script). -/
abbrev mjS : Type := Nat × List (Option Value) × List Value × mjW
abbrev mjR : Type := Option Value × mjW
def mj_at : List (Option Value) → Nat → Option Value
  | [], _ => none
  | v :: _, 0 => v
  | _ :: l, n + 1 => mj_at l n
def mj_set : List (Option Value) → Nat → Option Value → List (Option Value)
  | [], _, _ => []
  | _ :: l, 0, v => v :: l
  | u :: l, n + 1, v => u :: mj_set l n v
def mj_k2 (l : List (Option Value)) : Nat → List (Option Value)
  | 0 => l
  | n + 1 => match mj_at l n with
    | some w => bif Nat.beq w.category 2 then mj_set l n none else l
    | none => l
def mj_put (l : List (Option Value)) (i : Nat) (v : Value) : List (Option Value) := mj_set (mj_k2 l i) i (some v)
def mj_put2 (l : List (Option Value)) (i : Nat) (v : Value) : List (Option Value) := mj_set (mj_set (mj_k2 l i) i (some v)) (i + 1) none
def mj_nth : List (Nat × Nat) → Nat → Nat × Nat
  | [], _ => (9999, 0)
  | v :: _, 0 => v
  | _ :: l, n + 1 => mj_nth l n
def mj_cat : List Value → Nat
  | [] => 0
  | v :: l => v.category + mj_cat l
def mj_pop : Nat → List Value → List Value → Option (List Value × List Value)
  | 0, s, a => some (a, s)
  | _ + 1, [], _ => none
  | n + 1, v :: s, a => mj_pop n s (v :: a)
def mj_ex : List Value → List (Option Value)
  | [] => []
  | v :: r => bif Nat.beq v.category 2 then some v :: none :: mj_ex r else some v :: mj_ex r
def mj_pad : Nat → List (Option Value) → List (Option Value)
  | 0, _ => []
  | n + 1, [] => none :: mj_pad n []
  | n + 1, v :: l => v :: mj_pad n l
def mj_up {α : Type} (f : Nat → Nat → α) (a k : Nat) (v : α) : Nat → Nat → α := fun b j => if b = a ∧ j = k then v else f b j
def mj_new {α : Type} (f : Nat → Nat → α) (a : Nat) (v : α) : Nat → Nat → α := fun b j => if b = a then v else f b j
def mj_grow (w : mjW) (t n : Nat) : mjW := (w.1 ++ [(t, n)], mj_new w.2.1 w.1.length none, mj_new w.2.2.1 w.1.length 0, mj_new w.2.2.2 w.1.length 0)
def mj_rd (t : Nat) (w : mjW) (a k : Nat) : Value := bif Nat.beq t 2 then (match w.2.1 a k with | some r => .ref r | none => .null) else .int (w.2.2.1 a k)
def mj_sw : List (Int32 × Nat) → Nat → Int32 → Nat
  | [], d, _ => d
  | q :: ps, d, x => if x = q.1 then q.2 else mj_sw ps d x
def mj_i1 (s : List Value) (f : Int32 → List Value → Option mjS) : Option mjS := match s with
  | .int a :: r => f a r
  | _ => none
def mj_i2 (s : List Value) (f : Int32 → Int32 → List Value → Option mjS) : Option mjS := match s with
  | .int b :: .int a :: r => f a b r
  | _ => none
def mj_l1 (s : List Value) (f : Int64 → List Value → Option mjS) : Option mjS := match s with
  | .long a :: r => f a r
  | _ => none
def mj_l2 (s : List Value) (f : Int64 → Int64 → List Value → Option mjS) : Option mjS := match s with
  | .long b :: .long a :: r => f a b r
  | _ => none
def mj_li (s : List Value) (f : Int64 → Int32 → List Value → Option mjS) : Option mjS := match s with
  | .int b :: .long a :: r => f a b r
  | _ => none
def mj_a1 (s : List Value) (f : Nat → List Value → Option mjS) : Option mjS := match s with
  | .ref a :: r => f a r
  | _ => none
def mj_ai (s : List Value) (f : Nat → Int32 → List Value → Option mjS) : Option mjS := match s with
  | .int i :: .ref a :: r => f a i r
  | _ => none
def mj_aii (s : List Value) (f : Nat → Int32 → Int32 → List Value → Option mjS) : Option mjS := match s with
  | .int x :: .int i :: .ref a :: r => f a i x r
  | _ => none
def mj_ail (s : List Value) (f : Nat → Int32 → Int64 → List Value → Option mjS) : Option mjS := match s with
  | .long x :: .int i :: .ref a :: r => f a i x r
  | _ => none
def mj_av (s : List Value) (f : Nat → Value → List Value → Option mjS) : Option mjS := match s with
  | v :: .ref a :: r => f a v r
  | _ => none
def mj_ldi (l : List (Option Value)) (i : Nat) (f : Int32 → Option mjS) : Option mjS := match mj_at l i with
  | some (.int x) => f x
  | _ => none
def mj_ldl (l : List (Option Value)) (i : Nat) (f : Int64 → Option mjS) : Option mjS := match mj_at l i with
  | some (.long x) => f x
  | _ => none
def mj_lda (l : List (Option Value)) (i : Nat) (f : Nat → Option mjS) : Option mjS := match mj_at l i with
  | some (.ref x) => f x
  | _ => none
def mj_d1 (s : List Value) (f : Value → List Value → Option mjS) : Option mjS := match s with
  | v :: r => bif Nat.beq v.category 1 then f v r else none
  | _ => none
def mj_pf (t : Nat) (p : Nat) (l : List (Option Value)) (w : mjW) (a k : Nat) (v : Value) (r : List Value) : Option mjS :=
  bif Nat.beq t 0 then (match v with
    | .int x => some (p, l, r, w.1, w.2.1, mj_up w.2.2.1 a k x, w.2.2.2)
    | _ => none)
  else bif Nat.beq t 1 then (match v with
    | .int x => if x = 0 ∨ x = 1 then some (p, l, r, w.1, w.2.1, mj_up w.2.2.1 a k x, w.2.2.2) else none
    | _ => none)
  else (match v with
    | .ref x => some (p, l, r, w.1, mj_up w.2.1 a k (some x), w.2.2.1, w.2.2.2)
    | _ => none)
def mj_ic (c : ClassFile.Cond) (a b : Int32) (t f : Option mjS) : Option mjS := match c with
  | .eq => if a = b then t else f
  | .ne => if a = b then f else t
  | .lt => if a < b then t else f
  | .ge => if b ≤ a then t else f
  | .gt => if b < a then t else f
  | .le => if a ≤ b then t else f
noncomputable def mj_sf (y : Nat) (e : mjE) (p : Nat) (l : List (Option Value)) (s : List Value) (w : mjW) : Option mjS := match e.1 with
  | .iconst _ => some (p + 1, l, .int e.2.2.1 :: s, w)
  | .bipush _ => some (p + 2, l, .int e.2.2.1 :: s, w)
  | .sipush _ => some (p + 3, l, .int e.2.2.1 :: s, w)
  | .ldc _ => some (p + 2, l, .int e.2.2.1 :: s, w)
  | .ldc_w _ => some (p + 3, l, .int e.2.2.1 :: s, w)
  | .lconst _ => some (p + 1, l, .long (Int64.ofNat e.2.2.2) :: s, w)
  | .ldc2_w ix => match mj_lr (1000 * mj_mc y + ix) with
    | some v => some (p + 3, l, .long v :: s, w)
    | none => none
  | .iload_n _ => mj_ldi l e.2.2.2 fun x => some (p + 1, l, .int x :: s, w)
  | .iload _ => mj_ldi l e.2.2.2 fun x => some (p + 2, l, .int x :: s, w)
  | .lload_n _ => mj_ldl l e.2.2.2 fun x => some (p + 1, l, .long x :: s, w)
  | .lload _ => mj_ldl l e.2.2.2 fun x => some (p + 2, l, .long x :: s, w)
  | .aload_n _ => mj_lda l e.2.2.2 fun x => some (p + 1, l, .ref x :: s, w)
  | .istore_n _ => mj_i1 s fun a r => some (p + 1, mj_put l e.2.2.2 (.int a), r, w)
  | .istore _ => mj_i1 s fun a r => some (p + 2, mj_put l e.2.2.2 (.int a), r, w)
  | .lstore_n _ => mj_l1 s fun a r => some (p + 1, mj_put2 l e.2.2.2 (.long a), r, w)
  | .lstore _ => mj_l1 s fun a r => some (p + 2, mj_put2 l e.2.2.2 (.long a), r, w)
  | .astore_n _ => mj_a1 s fun a r => some (p + 1, mj_put l e.2.2.2 (.ref a), r, w)
  | .iinc _ _ => mj_ldi l e.2.2.2 fun x => some (p + 3, mj_put l e.2.2.2 (.int (x + e.2.2.1)), s, w)
  | .dup => mj_d1 s fun v r => some (p + 1, l, v :: v :: r, w)
  | .dup2 => mj_d1 s fun v r => mj_d1 r fun u r => some (p + 1, l, v :: u :: v :: u :: r, w)
  | .pop => mj_d1 s fun _ r => some (p + 1, l, r, w)
  | .iadd => mj_i2 s fun a b r => some (p + 1, l, .int (a + b) :: r, w)
  | .isub => mj_i2 s fun a b r => some (p + 1, l, .int (a - b) :: r, w)
  | .imul => mj_i2 s fun a b r => some (p + 1, l, .int (a * b) :: r, w)
  | .iand => mj_i2 s fun a b r => some (p + 1, l, .int (a &&& b) :: r, w)
  | .ior => mj_i2 s fun a b r => some (p + 1, l, .int (a ||| b) :: r, w)
  | .ixor => mj_i2 s fun a b r => some (p + 1, l, .int (a ^^^ b) :: r, w)
  | .idiv => mj_i2 s fun a b r => if b = 0 then none else some (p + 1, l, .int (a / b) :: r, w)
  | .irem => mj_i2 s fun a b r => if b = 0 then none else some (p + 1, l, .int (a - a / b * b) :: r, w)
  | .ineg => mj_i1 s fun a r => some (p + 1, l, .int (-a) :: r, w)
  | .ishl => mj_i2 s fun a b r => some (p + 1, l, .int (a <<< (b &&& 31)) :: r, w)
  | .ishr => mj_i2 s fun a b r => some (p + 1, l, .int (a >>> (b &&& 31)) :: r, w)
  | .iushr => mj_i2 s fun a b r => some (p + 1, l, .int ((a.toUInt32 >>> (b.toUInt32 &&& Int32.toUInt32 31)).toInt32) :: r, w)
  | .ladd => mj_l2 s fun a b r => some (p + 1, l, .long (a + b) :: r, w)
  | .lsub => mj_l2 s fun a b r => some (p + 1, l, .long (a - b) :: r, w)
  | .lmul => mj_l2 s fun a b r => some (p + 1, l, .long (a * b) :: r, w)
  | .land => mj_l2 s fun a b r => some (p + 1, l, .long (a &&& b) :: r, w)
  | .lor => mj_l2 s fun a b r => some (p + 1, l, .long (a ||| b) :: r, w)
  | .lxor => mj_l2 s fun a b r => some (p + 1, l, .long (a ^^^ b) :: r, w)
  | .ldiv => mj_l2 s fun a b r => if b = 0 then none else some (p + 1, l, .long (a / b) :: r, w)
  | .lrem => mj_l2 s fun a b r => if b = 0 then none else some (p + 1, l, .long (a - a / b * b) :: r, w)
  | .lshl => mj_li s fun a b r => some (p + 1, l, .long (a <<< (b.toInt64 &&& 63)) :: r, w)
  | .lushr => mj_li s fun a b r => some (p + 1, l, .long ((a.toUInt64 >>> (b.toInt64.toUInt64 &&& Int64.toUInt64 63)).toInt64) :: r, w)
  | .i2l => mj_i1 s fun a r => some (p + 1, l, .long a.toInt64 :: r, w)
  | .l2i => mj_l1 s fun a r => some (p + 1, l, .int a.toInt32 :: r, w)
  | .lcmp => mj_l2 s fun a b r => some (p + 1, l, .int (lg_cmp a b) :: r, w)
  | .goto _ => some (e.2.2.2, l, s, w)
  | .ifCond c _ => mj_i1 s fun a r => mj_ic c a 0 (some (e.2.2.2, l, r, w)) (some (p + 3, l, r, w))
  | .if_icmp c _ => mj_i2 s fun a b r => mj_ic c a b (some (e.2.2.2, l, r, w)) (some (p + 3, l, r, w))
  | .tableswitch _ _ _ _ => match mj_sr (2000 * y + p) with
    | some q => mj_i1 s fun a r => some (mj_sw q.1 q.2 a, l, r, w)
    | none => none
  | .lookupswitch _ _ => match mj_sr (2000 * y + p) with
    | some q => mj_i1 s fun a r => some (mj_sw q.1 q.2 a, l, r, w)
    | none => none
  | .getfield _ => mj_a1 s fun a r => bif Nat.beq (mj_nth w.1 a).1 (e.2.2.2 / 64 + 2) then some (p + 3, l, mj_rd (mj_tc (e.2.2.2 / 64) (e.2.2.2 % 64)) w a (e.2.2.2 % 64) :: r, w) else none
  | .putfield _ => mj_av s fun a v r => bif Nat.beq (mj_nth w.1 a).1 (e.2.2.2 / 64 + 2) then mj_pf (mj_tc (e.2.2.2 / 64) (e.2.2.2 % 64)) (p + 3) l w a (e.2.2.2 % 64) v r else none
  | .arraylength => mj_a1 s fun a r => bif Nat.ble (mj_nth w.1 a).1 1 then some (p + 1, l, .int (Int32.ofNat (mj_nth w.1 a).2) :: r, w) else none
  | .iaload => mj_ai s fun a i r => bif Nat.beq (mj_nth w.1 a).1 0 then (if i < 0 ∨ (mj_nth w.1 a).2 ≤ i.toNatClampNeg then none else some (p + 1, l, .int (w.2.2.1 a i.toNatClampNeg) :: r, w)) else none
  | .laload => mj_ai s fun a i r => bif Nat.beq (mj_nth w.1 a).1 1 then (if i < 0 ∨ (mj_nth w.1 a).2 ≤ i.toNatClampNeg then none else some (p + 1, l, .long (w.2.2.2 a i.toNatClampNeg) :: r, w)) else none
  | .iastore => mj_aii s fun a i x r => bif Nat.beq (mj_nth w.1 a).1 0 && !(Nat.beq a 0) then (if i < 0 ∨ (mj_nth w.1 a).2 ≤ i.toNatClampNeg then none else some (p + 1, l, r, w.1, w.2.1, mj_up w.2.2.1 a i.toNatClampNeg x, w.2.2.2)) else none
  | .lastore => mj_ail s fun a i x r => bif Nat.beq (mj_nth w.1 a).1 1 then (if i < 0 ∨ (mj_nth w.1 a).2 ≤ i.toNatClampNeg then none else some (p + 1, l, r, w.1, w.2.1, w.2.2.1, mj_up w.2.2.2 a i.toNatClampNeg x)) else none
  | .newarray t => mj_i1 s fun n r => if n < 0 ∨ 60000 < n.toNatClampNeg then none else (match t with
    | .int => some (p + 2, l, .ref w.1.length :: r, mj_grow w 0 n.toNatClampNeg)
    | .long => some (p + 2, l, .ref w.1.length :: r, mj_grow w 1 n.toNatClampNeg)
    | _ => none)
  | .new _ => some (p + 3, l, .ref w.1.length :: s, mj_grow w (e.2.2.2 + 2) (mj_N e.2.2.2))
  | .invokestatic _ => mj_i2 s fun a b r => bif Nat.ble (mj_cat r) 8 then (bif Nat.beq e.2.2.2 1000 then some (p + 3, l, .int (if a < b then b else a) :: r, w) else some (p + 3, l, .int (if b < a then b else a) :: r, w)) else none
  | .invokespecial _ => mj_a1 s fun _ r => bif Nat.ble (mj_cat r) 8 then some (p + 3, l, r, w) else none
  | _ => none
def mj_isr : Instr → Bool
  | .ireturn => true
  | .lreturn => true
  | .return_ => true
  | _ => false
def mj_isc (e : mjE) : Bool := match e.1 with
  | .invokevirtual _ => true
  | .invokestatic _ => !(Nat.ble 999 e.2.2.2)
  | .invokespecial _ => !(Nat.ble 999 e.2.2.2)
  | _ => false
noncomputable def mj_rt (y : Nat) (i : Instr) (s : List Value) (w : mjW) : Option mjR := match i with
  | .ireturn => match s with
    | [.int x] => match mj_mt y with
      | some .boolean => if x = 0 ∨ x = 1 then some (some (.int x), w) else none
      | _ => some (some (.int x), w)
    | _ => none
  | .lreturn => match s with
    | [.long x] => some (some (.long x), w)
    | _ => none
  | .return_ => match s with
    | [] => some (none, w)
    | _ => none
  | _ => none
/-- what a call takes off the stack: its arguments (the receiver first), and what stays; all that must hold of them -/
noncomputable def mj_ca (d z : Nat) (s : List Value) (w : mjW) : Option (List Value × List Value) := match mj_pop (mj_np z) s [] with
  | none => none
  | some (a, r) => bif mj_sk z then (bif Nat.ble (mj_cat r) 8 && Nat.ble (mj_rk z a + 1) d && Nat.ble (mj_ex a).length (mj_ml z) then some (a, r) else none)
    else match r with
      | .ref o :: r => bif Nat.beq (mj_nth w.1 o).1 (mj_mc z + 2) && Nat.ble (mj_cat r) 8 && Nat.ble (mj_rk z (.ref o :: a) + 1) d && Nat.ble (mj_ex (.ref o :: a)).length (mj_ml z) then some (.ref o :: a, r) else none
      | _ => none
noncomputable def mj_lo (z : Nat) (a : List Value) : List (Option Value) := mj_pad (mj_ml z) (mj_ex a)
noncomputable def mj_go : Nat → Nat → Nat → Nat → List (Option Value) → List Value → mjW → Option mjR
  | 0, _, _, _, _, _, _ => none
  | n + 1, d, y, p, l, s, w => match mj_co y p with
    | none => none
    | some e => bif mj_isr e.1 then mj_rt y e.1 s w
      else bif mj_isc e then (match mj_ca d e.2.2.2 s w with
        | none => none
        | some q => match mj_go n (mj_rk e.2.2.2 q.1) e.2.2.2 0 (mj_lo e.2.2.2 q.1) [] w with
          | none => none
          | some t => mj_go n d y (p + 3) l (t.1.toList ++ q.2) t.2)
      else match mj_sf y e p l s w with
        | none => none
        | some t => mj_go n d y t.1 t.2.1 t.2.2.1 t.2.2.2
