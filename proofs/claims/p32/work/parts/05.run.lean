/-! RUNS: calls and returns -/
def iv_cc (op : Jvm.ClassFile.Instr) : Option (Nat × Nat) := match op with
  | .invokevirtual idx => some (0, idx)
  | .invokespecial idx => some (1, idx)
  | .invokestatic idx => some (2, idx)
  | _ => none
def iv_isr (op : Jvm.ClassFile.Instr) : Bool := match op with
  | .return_ => true
  | .ireturn => true
  | .lreturn => true
  | .areturn => true
  | _ => false
def iv_rq (ty : Option FieldType) : Bool := match ty with
  | some (.object _) => true
  | some (.array _) => true
  | _ => false
def iv_ro (ty : Option FieldType) (v : Value) : Bool := match ty with
  | some t => iv_ok t v
  | none => false
def iv_re (mi : Nat) (op : Jvm.ClassFile.Instr) (st : List Value) : Option (Option Value) := match op with
  | .return_ => match st with
    | [] => if iv_rt mi = none then some none else none
    | _ => none
  | .ireturn => match st with
    | [.int x] => if iv_ro (iv_rt mi) (.int x) = true then some (some (.int x)) else none
    | _ => none
  | .lreturn => match st with
    | [.long x] => if iv_ro (iv_rt mi) (.long x) = true then some (some (.long x)) else none
    | _ => none
  | .areturn => match st with
    | [.ref x] => if iv_rq (iv_rt mi) = true then some (some (.ref x)) else none
    | _ => none
  | _ => none
def iv_ex : List Value → iv_L
  | [] => []
  | v :: r => if v.category = 2 then some v :: none :: iv_ex r else some v :: iv_ex r
def iv_en (mj : Nat) (vs : List Value) : iv_L := iv_ex vs ++ List.replicate (iv_mx mj - (iv_ex vs).length) none
def iv_rx (mj : Nat) : Nat := match iv_rc mj with
  | none => 1
  | some _ => 0
theorem iv_rx_n {mj : Nat} (h : iv_rc mj = none) : iv_rx mj = 1 := by unfold iv_rx; rw [h]
theorem iv_rx_s {mj ci : Nat} (h : iv_rc mj = some ci) : iv_rx mj = 0 := by unfold iv_rx; rw [h]
/-- what a receiver must be: 0 a plain call, 1 of an inherited method, 2 of an overridden one, 3 of a super's -/
def iv_kk_ (mi idx mj q1 : Nat) : Bool := bif Nat.beq q1 1 then (bif iv_ini mj then Option.isNone (iv_kd (iv_kf mi) idx) else decide (iv_kd (iv_kf mi) idx = some 3)) else (!iv_ini mj && Option.isNone (iv_nn (iv_kf mi) idx) && !decide (iv_kd (iv_kf mi) idx = some 3))
/-- a call: the callee, its arguments, the stack below -/
def iv_ca (z : iv_Z) (mi : Nat) (op : Jvm.ClassFile.Instr) (st : List Value) (h : iv_H) : Option (Nat × List Value × List Value) := match iv_cc op with
  | none => none
  | some q => match iv_mt (iv_kf mi) q.2 with
    | none => none
    | some mj => if ((st.take (iv_na mj)).length = iv_na mj ∧ (iv_ex (st.take (iv_na mj)).reverse).length + 1 ≤ iv_mx mj + iv_rx mj) then
        (if q.1 = 2 then (if iv_rc mj = none ∧ iv_ini mj = false ∧ iv_kd (iv_kf mi) q.2 = none ∧ ((st.drop (iv_na mj)).map fun v => v.category).sum ≤ 8 then some (mj, (st.take (iv_na mj)).reverse, st.drop (iv_na mj)) else none)
        else match iv_rc mj with
          | none => none
          | some ci => match st.drop (iv_na mj) with
            | .ref b :: rest => if iv_oc h b ci = true ∧ (rest.map fun v => v.category).sum ≤ 8 ∧ iv_kk_ mi q.2 mj q.1 = true then some (mj, .ref b :: (st.take (iv_na mj)).reverse, rest) else none
            | .retAddr b :: rest => if iv_zo z b ci = true ∧ (rest.map fun v => v.category).sum ≤ 8 ∧ iv_kk_ mi q.2 mj q.1 = true then some (mj, .retAddr b :: (st.take (iv_na mj)).reverse, rest) else none
            | _ => none)
      else none
/-- new int[n][k] -/
def iv_muo (n L : Nat) (i : Nat) : Option Nat := if i < n then some (L + 1 + i) else none
def iv_muh (h : iv_H) (n k : Nat) : iv_H := h ++ (.inr (6, n, .inr (.inr (.inr (.inr (iv_muo n h.length))))) :: List.replicate n (.inr (0, k, .inl (fun _ => 0))))
def iv_mu (mi : Nat) (op : Jvm.ClassFile.Instr) (st : List Value) (h : iv_H) : Option (List Value × iv_H) := match op with
  | .multianewarray idx 2 => if (iv_mn (iv_kf mi) idx).isSome = true then match st with
      | .int k :: .int n :: r => if 0 ≤ n ∧ 0 ≤ k ∧ n.toNatClampNeg ≤ 1000 ∧ k.toNatClampNeg ≤ 1000 then
          some (.ref h.length :: r, iv_muh h n.toNatClampNeg k.toNatClampNeg) else none
      | _ => none
    else none
  | _ => none
/-- n: fuel; d: depth of calls -/
def iv_run (z : iv_Z) : Nat → Nat → Nat → iv_S → Option (Option Value × iv_H)
  | 0, _, _, _ => none
  | n + 1, d, mi, S => match iv_cd mi S.1 with
    | none => none
    | some op => if iv_isr op = true then (iv_re mi op S.2.2.1).map fun v => (v, S.2.2.2)
      else match iv_ca z mi op S.2.2.1 S.2.2.2 with
        | some c => match d with
          | 0 => none
          | d' + 1 => match iv_run z n d' c.1 (0, iv_en c.1 c.2.1, [], S.2.2.2) with
            | none => none
            | some q => iv_run z n (d' + 1) mi (S.1 + 3, S.2.1, q.1.toList ++ c.2.2, q.2)
        | none => match iv_mu mi op S.2.2.1 S.2.2.2 with
          | some c => iv_run z n d mi (S.1 + 4, S.2.1, c.1, c.2)
          | none => match iv_op z mi S.1 op S.2.1 S.2.2.1 S.2.2.2 with
            | none => none
            | some o => match iv_ef S.2.2.2 o.2.2.2 with
              | none => none
              | some h' => iv_run z n d mi (o.1, o.2.1, o.2.2.1, h')
