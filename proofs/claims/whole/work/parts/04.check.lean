/-! What the tables of part 02 say is what the claim's own tables say: decided by the kernel. -/
def mj_len : Instr → Nat
  | .bipush _ => 2
  | .ldc _ => 2
  | .iload _ => 2
  | .lload _ => 2
  | .istore _ => 2
  | .lstore _ => 2
  | .newarray _ => 2
  | .sipush _ => 3
  | .ldc_w _ => 3
  | .ldc2_w _ => 3
  | .iinc _ _ => 3
  | .goto _ => 3
  | .ifCond _ _ => 3
  | .if_icmp _ _ => 3
  | .getfield _ => 3
  | .putfield _ => 3
  | .invokevirtual _ => 3
  | .invokestatic _ => 3
  | .invokespecial _ => 3
  | .new _ => 3
  | _ => 1
def mj_okl (p : Nat) (lo : Int) (offs : List Int) (ps : List (Int32 × Nat)) : Bool := match offs, ps with
  | [], [] => true
  | o :: os, q :: qs => decide (q.1.toInt = lo) && decide ((p : Int) + o = (q.2 : Int)) && mj_okl p (lo + 1) os qs
  | _, _ => false
def mj_okp (p : Nat) (a : List (Int × Int)) (ps : List (Int32 × Nat)) : Bool := match a, ps with
  | [], [] => true
  | o :: os, q :: qs => decide (q.1.toInt = o.1) && decide ((p : Int) + o.2 = (q.2 : Int)) && mj_okp p os qs
  | _, _ => false
noncomputable def mj_okE (y p : Nat) (e : mjE) : Bool := decide (decode (mj_mb y) p = .ok (e.1, e.2.1)) && match e.1 with
  | .tableswitch d lo hi offs => (match mj_sr (2000 * y + p) with
    | some q => mj_okl p lo offs.toList q.1 && decide ((p : Int) + d = (q.2 : Int)) && decide (hi - lo + 1 = offs.toList.length)
    | none => false)
  | .lookupswitch d a => (match mj_sr (2000 * y + p) with
    | some q => mj_okp p a.toList q.1 && decide ((p : Int) + d = (q.2 : Int)) && (a.toList.zip (a.toList.drop 1)).all (fun (a, next) => a.1 < next.1)
    | none => false)
  | i => Nat.beq e.2.1 (mj_len i) && match i with
    | .iconst n => decide (Int32.ofInt n = e.2.2.1)
    | .bipush n => decide ((Int8.ofInt n).toInt32 = e.2.2.1)
    | .sipush n => decide ((Int16.ofInt n).toInt32 = e.2.2.1)
    | .ldc ix => Nat.ble ix 999 && decide (mj_kr (1000 * mj_mc y + ix) = some e.2.2.1)
    | .ldc_w ix => Nat.ble ix 999 && decide (mj_kr (1000 * mj_mc y + ix) = some e.2.2.1)
    | .ldc2_w ix => Nat.ble ix 999
    | .lconst n => Nat.beq n.val e.2.2.2
    | .iload_n k => Nat.beq k.val e.2.2.2
    | .lload_n k => Nat.beq k.val e.2.2.2
    | .aload_n k => Nat.beq k.val e.2.2.2
    | .iload k => Nat.beq k e.2.2.2
    | .lload k => Nat.beq k e.2.2.2
    | .istore_n k => Nat.beq k.val e.2.2.2 && Nat.ble (k.val + 1) (mj_ml y)
    | .astore_n k => Nat.beq k.val e.2.2.2 && Nat.ble (k.val + 1) (mj_ml y)
    | .istore k => Nat.beq k e.2.2.2 && Nat.ble (k + 1) (mj_ml y)
    | .lstore_n k => Nat.beq k.val e.2.2.2 && Nat.ble (k.val + 2) (mj_ml y)
    | .lstore k => Nat.beq k e.2.2.2 && Nat.ble (k + 2) (mj_ml y)
    | .iinc k c => Nat.beq k e.2.2.2 && Nat.ble (k + 1) (mj_ml y) && decide (Int32.ofInt c = e.2.2.1)
    | .goto o => decide ((p : Int) + o = (e.2.2.2 : Int))
    | .ifCond _ o => decide ((p : Int) + o = (e.2.2.2 : Int))
    | .if_icmp _ o => decide ((p : Int) + o = (e.2.2.2 : Int))
    | .getfield ix => Nat.ble ix 999 && decide (mj_fr (1000 * mj_mc y + ix) = some e.2.2.2)
    | .putfield ix => Nat.ble ix 999 && decide (mj_fr (1000 * mj_mc y + ix) = some e.2.2.2) && (!(mj_fi (e.2.2.2 / 64) (e.2.2.2 % 64)) || (decide ((mj_mn y).name = "<init>") && Nat.beq (e.2.2.2 / 64) (mj_mc y)))
    | .invokevirtual ix => Nat.ble ix 999 && !(mj_sk e.2.2.2) && (match mj_mr (1000 * mj_mc y + ix) with
      | some q => Nat.beq q.2 e.2.2.2 && Nat.ble e.2.2.2 225 && decide ((mj_mn e.2.2.2).name ≠ "<init>")
      | none => false)
    | .invokestatic ix => Nat.ble ix 999 && (match mj_mr (1000 * mj_mc y + ix) with
      | some q => Nat.beq q.2 e.2.2.2 && ((Nat.ble e.2.2.2 225 && mj_sk e.2.2.2 && !(Nat.beq (mj_mc e.2.2.2) 8)) || ((Nat.beq e.2.2.2 1000 || Nat.beq e.2.2.2 1001) && Nat.beq q.1 0))
      | none => false)
    | .invokespecial ix => Nat.ble ix 999 && (match mj_mr (1000 * mj_mc y + ix) with
      | some q => Nat.beq q.2 e.2.2.2 && ((Nat.beq e.2.2.2 999 && Nat.beq q.1 0) || (Nat.ble e.2.2.2 225 && decide ((mj_mn e.2.2.2).name = "<init>") && decide (mj_mt e.2.2.2 = none) && !(mj_sk e.2.2.2)))
      | none => false)
    | .new ix => Nat.ble ix 999 && decide (mj_cr (1000 * mj_mc y + ix) = some e.2.2.2) && Nat.ble e.2.2.2 6
    | .ireturn => decide (mj_mt y = some .int) || decide (mj_mt y = some .boolean)
    | .lreturn => decide (mj_mt y = some .long)
    | .return_ => decide (mj_mt y = none)
    | _ => true
noncomputable def mj_okP (y p : Nat) : Bool := match mj_co y p with
  | none => true
  | some e => mj_okE y p e
noncomputable def mj_okY (y : Nat) : Bool := (List.range (mj_sz y)).all (mj_okP y)
set_option maxRecDepth 100000 in
theorem mj_y0 : (List.range' 0 15).all mj_okY = true := by decide +kernel
set_option maxRecDepth 100000 in
theorem mj_y1 : (List.range' 15 15).all mj_okY = true := by decide +kernel
set_option maxRecDepth 100000 in
theorem mj_y2 : (List.range' 30 15).all mj_okY = true := by decide +kernel
set_option maxRecDepth 100000 in
theorem mj_y3 : (List.range' 45 15).all mj_okY = true := by decide +kernel
set_option maxRecDepth 100000 in
theorem mj_y4 : (List.range' 60 15).all mj_okY = true := by decide +kernel
set_option maxRecDepth 100000 in
theorem mj_y5 : (List.range' 75 15).all mj_okY = true := by decide +kernel
set_option maxRecDepth 100000 in
theorem mj_y6 : (List.range' 90 15).all mj_okY = true := by decide +kernel
set_option maxRecDepth 100000 in
theorem mj_y7 : (List.range' 105 15).all mj_okY = true := by decide +kernel
set_option maxRecDepth 100000 in
theorem mj_y8 : (List.range' 120 15).all mj_okY = true := by decide +kernel
set_option maxRecDepth 100000 in
theorem mj_y9 : (List.range' 135 15).all mj_okY = true := by decide +kernel
set_option maxRecDepth 100000 in
theorem mj_y10 : (List.range' 150 15).all mj_okY = true := by decide +kernel
set_option maxRecDepth 100000 in
theorem mj_y11 : (List.range' 165 15).all mj_okY = true := by decide +kernel
set_option maxRecDepth 100000 in
theorem mj_y12 : (List.range' 180 15).all mj_okY = true := by decide +kernel
set_option maxRecDepth 100000 in
theorem mj_y13 : (List.range' 195 15).all mj_okY = true := by decide +kernel
set_option maxRecDepth 100000 in
theorem mj_y14 : (List.range' 210 15).all mj_okY = true := by decide +kernel
set_option maxRecDepth 100000 in
theorem mj_y15 : (List.range' 225 1).all mj_okY = true := by decide +kernel
