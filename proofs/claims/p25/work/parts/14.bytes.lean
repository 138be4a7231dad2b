/-! THE TABLES AGREE WITH THE WORDS AND THE BYTES: each by one run of a check in the kernel -/
def iv_n (op : Jvm.ClassFile.Instr) : Nat := match op with
  | .aload _ => 2
  | .anewarray _ => 3
  | .astore _ => 2
  | .bipush _ => 2
  | .getfield _ => 3
  | .getstatic _ => 3
  | .goto _ => 3
  | .if_icmp _ _ => 3
  | .ifCond _ _ => 3
  | .iinc _ _ => 3
  | .iload _ => 2
  | .invokespecial _ => 3
  | .invokestatic _ => 3
  | .invokevirtual _ => 3
  | .istore _ => 2
  | .ldc _ => 2
  | .ldc_w _ => 3
  | .ldc2_w _ => 3
  | .lload _ => 2
  | .lstore _ => 2
  | .dload _ => 2
  | .dstore _ => 2
  | .new _ => 3
  | .newarray _ => 2
  | .putfield _ => 3
  | .sipush _ => 3
  | .lookupswitch _ _ => 0
  | .tableswitch _ _ _ _ => 0
  | _ => 1

theorem iv_bif {α : Type} {b : Bool} {x : Option α} {y : α} (h : (bif b then none else x) = some y) : b = false ∧ x = some y := by
  cases b with
  | true => cases h
  | false => exact ⟨rfl, h⟩
theorem iv_blt {a b : Nat} (h : Nat.ble a b = false) : b < a := Nat.lt_of_not_le fun q => by
  rw [Nat.ble_eq_true_of_le q] at h
  cases h
def iv_ckp (i p : Nat) : Bool := match iv_cd i p with
  | none => true
  | some op => match decode (iv_by i) p with
    | .ok q => decide (q.1 = op) && (Nat.beq (iv_n op) 0 || Nat.beq q.2 (iv_n op))
    | _ => false
def iv_ck1 (i : Nat) : Bool := (List.range (iv_ln i)).all (iv_ckp i)
set_option maxRecDepth 1000000 in
theorem iv_ckA_0 : (List.range 236).all (fun i => !(Nat.beq (i / 10) 0) || iv_ck1 i) = true := by decide +kernel
set_option maxRecDepth 1000000 in
theorem iv_ckA_1 : (List.range 236).all (fun i => !(Nat.beq (i / 10) 1) || iv_ck1 i) = true := by decide +kernel
set_option maxRecDepth 1000000 in
theorem iv_ckA_2 : (List.range 236).all (fun i => !(Nat.beq (i / 10) 2) || iv_ck1 i) = true := by decide +kernel
set_option maxRecDepth 1000000 in
theorem iv_ckA_3 : (List.range 236).all (fun i => !(Nat.beq (i / 10) 3) || iv_ck1 i) = true := by decide +kernel
set_option maxRecDepth 1000000 in
theorem iv_ckA_4 : (List.range 236).all (fun i => !(Nat.beq (i / 10) 4) || iv_ck1 i) = true := by decide +kernel
set_option maxRecDepth 1000000 in
theorem iv_ckA_5 : (List.range 236).all (fun i => !(Nat.beq (i / 10) 5) || iv_ck1 i) = true := by decide +kernel
set_option maxRecDepth 1000000 in
theorem iv_ckA_6 : (List.range 236).all (fun i => !(Nat.beq (i / 10) 6) || iv_ck1 i) = true := by decide +kernel
set_option maxRecDepth 1000000 in
theorem iv_ckA_7 : (List.range 236).all (fun i => !(Nat.beq (i / 10) 7) || iv_ck1 i) = true := by decide +kernel
set_option maxRecDepth 1000000 in
theorem iv_ckA_8 : (List.range 236).all (fun i => !(Nat.beq (i / 10) 8) || iv_ck1 i) = true := by decide +kernel
set_option maxRecDepth 1000000 in
theorem iv_ckA_9 : (List.range 236).all (fun i => !(Nat.beq (i / 10) 9) || iv_ck1 i) = true := by decide +kernel
set_option maxRecDepth 1000000 in
theorem iv_ckA_10 : (List.range 236).all (fun i => !(Nat.beq (i / 10) 10) || iv_ck1 i) = true := by decide +kernel
set_option maxRecDepth 1000000 in
theorem iv_ckA_11 : (List.range 236).all (fun i => !(Nat.beq (i / 10) 11) || iv_ck1 i) = true := by decide +kernel
set_option maxRecDepth 1000000 in
theorem iv_ckA_12 : (List.range 236).all (fun i => !(Nat.beq (i / 10) 12) || iv_ck1 i) = true := by decide +kernel
set_option maxRecDepth 1000000 in
theorem iv_ckA_13 : (List.range 236).all (fun i => !(Nat.beq (i / 10) 13) || iv_ck1 i) = true := by decide +kernel
set_option maxRecDepth 1000000 in
theorem iv_ckA_14 : (List.range 236).all (fun i => !(Nat.beq (i / 10) 14) || iv_ck1 i) = true := by decide +kernel
set_option maxRecDepth 1000000 in
theorem iv_ckA_15 : (List.range 236).all (fun i => !(Nat.beq (i / 10) 15) || iv_ck1 i) = true := by decide +kernel
set_option maxRecDepth 1000000 in
theorem iv_ckA_16 : (List.range 236).all (fun i => !(Nat.beq (i / 10) 16) || iv_ck1 i) = true := by decide +kernel
set_option maxRecDepth 1000000 in
theorem iv_ckA_17 : (List.range 236).all (fun i => !(Nat.beq (i / 10) 17) || iv_ck1 i) = true := by decide +kernel
set_option maxRecDepth 1000000 in
theorem iv_ckA_18 : (List.range 236).all (fun i => !(Nat.beq (i / 10) 18) || iv_ck1 i) = true := by decide +kernel
set_option maxRecDepth 1000000 in
theorem iv_ckA_19 : (List.range 236).all (fun i => !(Nat.beq (i / 10) 19) || iv_ck1 i) = true := by decide +kernel
set_option maxRecDepth 1000000 in
theorem iv_ckA_20 : (List.range 236).all (fun i => !(Nat.beq (i / 10) 20) || iv_ck1 i) = true := by decide +kernel
set_option maxRecDepth 1000000 in
theorem iv_ckA_21 : (List.range 236).all (fun i => !(Nat.beq (i / 10) 21) || iv_ck1 i) = true := by decide +kernel
set_option maxRecDepth 1000000 in
theorem iv_ckA_22 : (List.range 236).all (fun i => !(Nat.beq (i / 10) 22) || iv_ck1 i) = true := by decide +kernel
set_option maxRecDepth 1000000 in
theorem iv_ckA_23 : (List.range 236).all (fun i => !(Nat.beq (i / 10) 23) || iv_ck1 i) = true := by decide +kernel
