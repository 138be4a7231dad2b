/-! THE SAME RUNS, FASTER: the heap as a binary tree over the bits of a cell's number; what the instructions ask of the heap is a function of a number -/
def iv_gfG (mi idx : Nat) (g : Nat → Option iv_C) (k : Nat) : Option Value := match iv_fd (iv_kf mi) idx with
  | some q => match g k with
    | some (.inl o) => if o.1 = q.1 then o.2[q.2]? else none
    | _ => none
  | none => none
def iv_pfG (mi idx : Nat) (g : Nat → Option iv_C) (k : Nat) (v : Value) : Option (Option Nat × iv_C) := match iv_fd (iv_kf mi) idx with
  | some q => match g k with
    | some (.inl o) => if o.1 = q.1 ∧ q.2 < o.2.length ∧ iv_ok (iv_ft q.1 q.2) v = true ∧ (iv_fi q.1 q.2 = false ∨ (iv_ini mi = true ∧ iv_ow q.1 = iv_kf mi)) then some (some k, .inl (o.1, o.2.set q.2 v)) else none
    | _ => none
  | none => none
/-- an array of ints (or small types) at k: type, length, contents -/
def iv_aiG (g : Nat → Option iv_C) (k : Nat) : Option (Nat × Nat × (Nat → Int32)) := match g k with
  | some (.inr (t, n, .inl f)) => some (t, n, f)
  | _ => none
def iv_ajG (g : Nat → Option iv_C) (k : Nat) : Option (Nat × Nat × (Nat → Int64)) := match g k with
  | some (.inr (t, n, .inr (.inl f))) => some (t, n, f)
  | _ => none
def iv_aqG (g : Nat → Option iv_C) (k : Nat) : Option (Nat × Nat × (Nat → Option Nat)) := match g k with
  | some (.inr (t, n, .inr (.inr (.inr (.inr f))))) => some (t, n, f)
  | _ => none
def iv_aldG (ty : FieldType) (pc : Nat) (al : iv_L) (st : List Value) (g : Nat → Option iv_C) : Option iv_O := iv_i st fun i r1 => iv_r r1 fun k r => (iv_aiG g k).bind fun q => if iv_in i q.2.1 = true ∧ iv_is q.1 ty = true then iv_pi (pc + 1) al (q.2.2 i.toNatClampNeg) r else none
def iv_astG (ty : FieldType) (pc : Nat) (al : iv_L) (st : List Value) (g : Nat → Option iv_C) : Option iv_O := iv_i st fun x r2 => iv_i r2 fun i r1 => iv_r r1 fun k r => (iv_aiG g k).bind fun q => if iv_in i q.2.1 = true ∧ iv_is q.1 ty = true then some (pc + 1, al, r, some (some k, .inr (q.1, q.2.1, .inl (upd q.2.2 i.toNatClampNeg (vp_nar ty x))))) else none
def iv_qcG (g : Nat → Option iv_C) (t b : Nat) : Bool := match g b with
  | some (.inl o) => match iv_cl[o.1]? with
    | some r => iv_is t (.object r.1)
    | none => false
  | _ => false
/-- Math.min of two ints -/
def iv_cpyG (pc : Nat) (al : iv_L) (st : List Value) (g : Nat → Option iv_C) : Option iv_O := iv_i st fun n r4 => iv_i r4 fun dp r3 => iv_r r3 fun b r2 => iv_i r2 fun sp r1 => iv_r r1 fun a r => (iv_aiG g a).bind fun q => (iv_aiG g b).bind fun u =>
  if 0 ≤ sp ∧ 0 ≤ dp ∧ 0 ≤ n ∧ sp.toNatClampNeg + n.toNatClampNeg ≤ q.2.1 ∧ dp.toNatClampNeg + n.toNatClampNeg ≤ u.2.1 ∧ iv_is q.1 .int = true ∧ iv_is u.1 .int = true ∧ (r.map fun v => v.category).sum ≤ 8 then
    some (pc + 3, al, r, some (some b, .inr (u.1, u.2.1, .inl (va_cpy q.2.2 u.2.2 sp.toNatClampNeg dp.toNatClampNeg n.toNatClampNeg)))) else none
def iv_ocG (g : Nat → Option iv_C) (b ci : Nat) : Bool := match g b with
  | some (.inl o) => decide (o.1 = ci)
  | _ => false
def iv_akG (g : Nat → Option iv_C) (k : Nat) : Option (Nat × Nat) := match g k with
  | some (.inr (t, n, .inl _)) => some (t, n)
  | some (.inr (t, n, .inr (.inr (.inl _)))) => some (t, n)
  | _ => none
def iv_xasG (V : iv_V) (ty : FieldType) (pc : Nat) (al : iv_L) (st : List Value) (g : Nat → Option iv_C) : Option (List (iv_V × iv_O)) := match st with
  | v :: i :: .ref k :: r => if iv_isn v = true ∧ (iv_sy v || (iv_sy i || (iv_aiG g k).isNone)) = true then match iv_akG g k with
    | some q => if iv_ix V i q.2 = true ∧ iv_is q.1 ty = true then some [(V, (pc + 1, al, r, some (some k, .inr (q.1, q.2, .inr (.inr (.inl (fun _ => 0)))))))] else none
    | none => none
    else none
  | _ => none
/-- an int out of a row of equal ones -/
def iv_xalG (V : iv_V) (pc : Nat) (al : iv_L) (st : List Value) (g : Nat → Option iv_C) : Option (List (iv_V × iv_O)) := match st with
  | .float b :: .ref k :: r => match iv_aiG g k with
    | some q => if b.toNat < 6 ∧ 0 ≤ (iv_iv V b.toNat).1 ∧ (iv_iv V b.toNat).2 < (q.2.1 : Int) ∧ iv_is q.1 .int = true ∧ ((List.range ((iv_iv V b.toNat).2 - (iv_iv V b.toNat).1 + 1).toNat).all fun j => decide (q.2.2 ((iv_iv V b.toNat).1.toNat + j) = q.2.2 (iv_iv V b.toNat).1.toNat)) = true then some [(V, (pc + 1, al, .int (q.2.2 (iv_iv V b.toNat).1.toNat) :: r, none))] else none
    | none => none
  | _ => none
/-- an object out of a row -/
def iv_xaqG (V : iv_V) (pc : Nat) (al : iv_L) (st : List Value) (g : Nat → Option iv_C) : Option (List (iv_V × iv_O)) := match st with
  | .float b :: .ref k :: r => match iv_aqG g k with
    | some q => if b.toNat < 6 ∧ 0 ≤ (iv_iv V b.toNat).1 ∧ (iv_iv V b.toNat).2 < (q.2.1 : Int) ∧ (iv_iv V b.toNat).2 - (iv_iv V b.toNat).1 ≤ 15 ∧ iv_iq q.1 = true ∧ ((iv_wy V b.toNat (iv_vals (iv_iv V b.toNat).1 16)).all fun w => (q.2.2 w.2.toNat).isSome) = true then
        some ((iv_wy V b.toNat (iv_vals (iv_iv V b.toNat).1 16)).map fun w => (w.1, (pc + 1, al, (va_rf (q.2.2 w.2.toNat)) :: r, none))) else none
    | none => none
  | _ => none
def iv_semG (op : Jvm.ClassFile.Instr) : Option (iv_Z → Nat → Nat → iv_L → List Value → (Nat → Option iv_C) → Nat → Option iv_O) := match op with
  | .iconst n => some fun z mi pc al st g len => iv_pi (pc + 1) al (Int32.ofInt n) st
  | .bipush n => some fun z mi pc al st g len => iv_pi (pc + 2) al (Int8.ofInt n).toInt32 st
  | .sipush n => some fun z mi pc al st g len => iv_pi (pc + 3) al (Int16.ofInt n).toInt32 st
  | .lconst n => some fun z mi pc al st g len => iv_pj (pc + 1) al (Int64.ofNat (n : Nat)) st
  | .ldc idx => some fun z mi pc al st g len => (iv_lc (iv_kf mi) idx).bind fun x => iv_pi (pc + 2) al x st
  | .ldc2_w idx => some fun z mi pc al st g len => (iv_l2 (iv_kf mi) idx).bind fun x => iv_pj (pc + 3) al x st
  | .iload_n k => some fun z mi pc al st g len => iv_li al (k : Nat) fun x => iv_pi (pc + 1) al x st
  | .iload i => some fun z mi pc al st g len => iv_li al i fun x => iv_pi (pc + 2) al x st
  | .lload_n k => some fun z mi pc al st g len => iv_lj al (k : Nat) fun x => iv_pj (pc + 1) al x st
  | .lload i => some fun z mi pc al st g len => iv_lj al i fun x => iv_pj (pc + 2) al x st
  | .aload_n k => some fun z mi pc al st g len => iv_la al (k : Nat) fun x => some (pc + 1, al, x :: st, none)
  | .aload i => some fun z mi pc al st g len => iv_la al i fun x => some (pc + 2, al, x :: st, none)
  | .istore_n k => some fun z mi pc al st g len => iv_sti mi (pc + 1) (k : Nat) al st
  | .istore i => some fun z mi pc al st g len => iv_sti mi (pc + 2) i al st
  | .lstore_n k => some fun z mi pc al st g len => iv_stj mi (pc + 1) (k : Nat) al st
  | .lstore i => some fun z mi pc al st g len => iv_stj mi (pc + 2) i al st
  | .astore_n k => some fun z mi pc al st g len => iv_sta mi (pc + 1) (k : Nat) al st
  | .astore i => some fun z mi pc al st g len => iv_sta mi (pc + 2) i al st
  | .iinc i n => some fun z mi pc al st g len => iv_li al i fun x => iv_sl mi i 0 (pc + 3, iv_s1 al i (.int (x + Int32.ofInt n)), st, none)
  | .iadd => some fun z mi pc al st g len => iv_ii pc al st (fun x y => x + y)
  | .isub => some fun z mi pc al st g len => iv_ii pc al st (fun x y => x - y)
  | .imul => some fun z mi pc al st g len => iv_ii pc al st (fun x y => x * y)
  | .iand => some fun z mi pc al st g len => iv_ii pc al st (fun x y => x &&& y)
  | .ior => some fun z mi pc al st g len => iv_ii pc al st (fun x y => x ||| y)
  | .ixor => some fun z mi pc al st g len => iv_ii pc al st (fun x y => x ^^^ y)
  | .ishl => some fun z mi pc al st g len => iv_ii pc al st (fun x y => x <<< (y &&& 31))
  | .ishr => some fun z mi pc al st g len => iv_ii pc al st (fun x y => x >>> (y &&& 31))
  | .iushr => some fun z mi pc al st g len => iv_ii pc al st (fun x y => (x.toUInt32 >>> (y.toUInt32 &&& Int32.toUInt32 31)).toInt32)
  | .idiv => some fun z mi pc al st g len => iv_i st fun y r1 => iv_i r1 fun x r => if y = 0 then none else iv_pi (pc + 1) al (x / y) r
  | .irem => some fun z mi pc al st g len => iv_i st fun y r1 => iv_i r1 fun x r => if y = 0 then none else iv_pi (pc + 1) al (x - x / y * y) r
  | .ineg => some fun z mi pc al st g len => iv_i st fun x r => iv_pi (pc + 1) al (-x) r
  | .ladd => some fun z mi pc al st g len => iv_jj pc al st (fun x y => x + y)
  | .lsub => some fun z mi pc al st g len => iv_jj pc al st (fun x y => x - y)
  | .lmul => some fun z mi pc al st g len => iv_jj pc al st (fun x y => x * y)
  | .ldiv => some fun z mi pc al st g len => iv_j st fun y r1 => iv_j r1 fun x r => if y = 0 then none else iv_pj (pc + 1) al (x / y) r
  | .lrem => some fun z mi pc al st g len => iv_j st fun y r1 => iv_j r1 fun x r => if y = 0 then none else iv_pj (pc + 1) al (x - x / y * y) r
  | .lneg => some fun z mi pc al st g len => iv_j st fun x r => iv_pj (pc + 1) al (-x) r
  | .lcmp => some fun z mi pc al st g len => iv_j st fun y r1 => iv_j r1 fun x r => iv_pi (pc + 1) al (lg_cmp x y) r
  | .i2l => some fun z mi pc al st g len => iv_i st fun x r => iv_pj (pc + 1) al x.toInt64 r
  | .l2i => some fun z mi pc al st g len => iv_j st fun x r => iv_pi (pc + 1) al x.toInt32 r
  | .i2b => some fun z mi pc al st g len => iv_i st fun x r => iv_pi (pc + 1) al x.toInt8.toInt32 r
  | .dup => some fun z mi pc al st g len => iv_1 st fun v r => some (pc + 1, al, v :: v :: r, none)
  | .pop => some fun z mi pc al st g len => iv_1 st fun _ r => some (pc + 1, al, r, none)
  | .dup_x1 => some fun z mi pc al st g len => iv_1 st fun v r1 => iv_1 r1 fun w r => some (pc + 1, al, v :: w :: v :: r, none)
  | .dup_x2 => some fun z mi pc al st g len => iv_1 st fun v r1 => iv_1 r1 fun w r2 => iv_1 r2 fun x r => some (pc + 1, al, v :: w :: x :: v :: r, none)
  | .dup2 => some fun z mi pc al st g len => iv_1 st fun v r1 => iv_1 r1 fun w r => some (pc + 1, al, v :: w :: v :: w :: r, none)
  | .goto off => some fun z mi pc al st g len => iv_jp pc off al st
  | .ifCond .eq off => some fun z mi pc al st g len => iv_c1 pc off al st (fun x => decide (x = 0))
  | .ifCond .ne off => some fun z mi pc al st g len => iv_c1 pc off al st (fun x => decide (¬ x = 0))
  | .ifCond .lt off => some fun z mi pc al st g len => iv_c1 pc off al st (fun x => decide (x < 0))
  | .ifCond .ge off => some fun z mi pc al st g len => iv_c1 pc off al st (fun x => decide (0 ≤ x))
  | .ifCond .gt off => some fun z mi pc al st g len => iv_c1 pc off al st (fun x => decide (0 < x))
  | .ifCond .le off => some fun z mi pc al st g len => iv_c1 pc off al st (fun x => decide (x ≤ 0))
  | .if_icmp .eq off => some fun z mi pc al st g len => iv_c2 pc off al st (fun x y => decide (x = y))
  | .if_icmp .ne off => some fun z mi pc al st g len => iv_c2 pc off al st (fun x y => decide (¬ x = y))
  | .if_icmp .lt off => some fun z mi pc al st g len => iv_c2 pc off al st (fun x y => decide (x < y))
  | .if_icmp .ge off => some fun z mi pc al st g len => iv_c2 pc off al st (fun x y => decide (y ≤ x))
  | .if_icmp .gt off => some fun z mi pc al st g len => iv_c2 pc off al st (fun x y => decide (y < x))
  | .if_icmp .le off => some fun z mi pc al st g len => iv_c2 pc off al st (fun x y => decide (x ≤ y))
  | .tableswitch dflt lo hi offs => some fun z mi pc al st g len => iv_i st fun x r => if x.toInt < lo ∨ hi < x.toInt then iv_jp pc dflt al r else (offs[(x.toInt - lo).toNat]?).bind fun off => iv_jp pc off al r
  | .lookupswitch dflt ps => some fun z mi pc al st g len => iv_i st fun x r => if (ps.toList.zip (ps.toList.drop 1)).all (fun (a, next) => a.1 < next.1) = true then iv_jp pc (Op.lookupswitch.offset ps.toList dflt x.toInt) al r else none
  | .getfield idx => some fun z mi pc al st g len => iv_r st fun k r => (iv_gfG mi idx g k).bind fun v => some (pc + 3, al, v :: r, none)
  | .putfield idx => some fun z mi pc al st g len => iv_1or2 st fun v r1 => iv_r r1 fun k r => (iv_pfG mi idx g k v).bind fun q => some (pc + 3, al, r, some q)
  | .new idx => some fun z mi pc al st g len => (iv_nc (iv_kf mi) idx).bind fun ci => some (pc + 3, al, .ref len :: st, some (none, .inl (ci, iv_df ci)))
  | .newarray a => some fun z mi pc al st g len => iv_i st fun n r => if 0 ≤ n ∧ n.toNatClampNeg ≤ 60000000 ∧ iv_tn a < 4 then some (pc + 2, al, .ref len :: r, some (none, .inr (iv_tn a, iv_a0 (iv_tn a) n.toNatClampNeg))) else none
  | .anewarray idx => some fun z mi pc al st g len => iv_i st fun n r => (iv_ac (iv_kf mi) idx).bind fun t => if 0 ≤ n ∧ n.toNatClampNeg ≤ 60000000 then some (pc + 3, al, .ref len :: r, some (none, .inr (t, n.toNatClampNeg, .inr (.inr (.inr (.inr (fun _ => none))))))) else none
  | .arraylength => some fun z mi pc al st g len => match st with
    | .ref k :: r => match g k with
      | some (.inr a) => if (iv_ty[a.1]?).isSome = true then iv_pi (pc + 1) al (Int32.ofNat a.2.1) r else none
      | _ => none
    | .retAddr _ :: r => match z with
      | some q => iv_pi (pc + 1) al (Int32.ofNat q.1) r
      | none => none
    | _ => none
  | .iaload => some fun z mi pc al st g len => match st with
    | .int i :: .retAddr _ :: r => match z with
      | some q => if iv_in i q.1 = true then iv_pi (pc + 1) al (q.2 i.toNatClampNeg) r else none
      | none => none
    | st => iv_aldG .int pc al st g
  | .baload => some fun z mi pc al st g len => match iv_aldG .byte pc al st g with
    | some S => some S
    | none => iv_aldG .boolean pc al st g
  | .iastore => some fun z mi pc al st g len => iv_astG .int pc al st g
  | .bastore => some fun z mi pc al st g len => match iv_astG .byte pc al st g with
    | some S => some S
    | none => iv_astG .boolean pc al st g
  | .laload => some fun z mi pc al st g len => iv_i st fun i r1 => iv_r r1 fun k r => (iv_ajG g k).bind fun q => if iv_in i q.2.1 = true ∧ iv_is q.1 .long = true then iv_pj (pc + 1) al (q.2.2 i.toNatClampNeg) r else none
  | .lastore => some fun z mi pc al st g len => iv_j st fun x r2 => iv_i r2 fun i r1 => iv_r r1 fun k r => (iv_ajG g k).bind fun q => if iv_in i q.2.1 = true ∧ iv_is q.1 .long = true then some (pc + 1, al, r, some (some k, .inr (q.1, q.2.1, .inr (.inl (vp_updL q.2.2 i.toNatClampNeg x))))) else none
  | .aaload => some fun z mi pc al st g len => iv_i st fun i r1 => iv_r r1 fun k r => (iv_aqG g k).bind fun q => if iv_in i q.2.1 = true ∧ iv_iq q.1 = true then match q.2.2 i.toNatClampNeg with
      | some b => some (pc + 1, al, .ref b :: r, none)
      | none => none
    else none
  | .aastore => some fun z mi pc al st g len => iv_r st fun b r2 => iv_i r2 fun i r1 => iv_r r1 fun k r => (iv_aqG g k).bind fun q => if iv_in i q.2.1 = true ∧ iv_qcG g q.1 b = true then some (pc + 1, al, r, some (some k, .inr (q.1, q.2.1, .inr (.inr (.inr (.inr (va_up q.2.2 i.toNatClampNeg (some b)))))))) else none
  | .invokespecial idx => some fun z mi pc al st g len => if iv_oi (iv_kf mi) idx = true then iv_r st fun _ r => if (r.map fun v => v.category).sum ≤ 8 then some (pc + 3, al, r, none) else none else none
  | .invokestatic idx => some fun z mi pc al st g len => if iv_cp (iv_kf mi) idx = true then iv_cpyG pc al st g else if iv_mm (iv_kf mi) idx = true then iv_min pc al st else if iv_ma (iv_kf mi) idx = true then iv_max pc al st else none
  | _ => none
def iv_opG (z : iv_Z) (mi pc : Nat) (op : Jvm.ClassFile.Instr) (al : iv_L) (st : List Value) (g : Nat → Option iv_C) (len : Nat) : Option iv_O := match iv_semG op with
  | some f => f z mi pc al st g len
  | none => none
theorem iv_opG_eq (z : iv_Z) (mi pc : Nat) (op : Jvm.ClassFile.Instr) (al : iv_L) (st : List Value) (h : iv_H) : iv_opG z mi pc op al st (fun k => h[k]?) h.length = iv_op z mi pc op al st h := by
  cases op with
  | ifCond cc off => cases cc <;> rfl
  | if_icmp cc off => cases cc <;> rfl
  | _ => rfl
def iv_xsemG (op : Jvm.ClassFile.Instr) : Option (Option (Nat × Int32) → iv_V → Nat → Nat → iv_L → List Value → (Nat → Option iv_C) → Option (List (iv_V × iv_O))) := match op with
  | .iload_n k => some fun scr V mi pc al st g => iv_xl V al (k : Nat) (pc + 1) st
  | .iload k => some fun scr V mi pc al st g => iv_xl V al k (pc + 2) st
  | .lload_n k => some fun scr V mi pc al st g => iv_xll V al (k : Nat) (pc + 1) st
  | .lload k => some fun scr V mi pc al st g => iv_xll V al k (pc + 2) st
  | .istore_n k => some fun scr V mi pc al st g => iv_xst V mi al (k : Nat) (pc + 1) st
  | .istore k => some fun scr V mi pc al st g => iv_xst V mi al k (pc + 2) st
  | .iinc i n => some fun scr V mi pc al st g => iv_xin V mi al i n pc st
  | .i2l => some fun scr V mi pc al st g => match st with
    | .float b :: r => if b.toNat < 6 then some [(V, (pc + 1, al, .double (UInt64.ofNat b.toNat) :: r, none))] else none
    | _ => none
  | .lcmp => some fun scr V mi pc al st g => match st with
    | .long c :: .double b :: r => some (iv_wy V b.toNat [(-9999999999, c.toInt - 1, (pc + 1, al, .int (-1) :: r, none)), (c.toInt, c.toInt, (pc + 1, al, .int 0 :: r, none)), (c.toInt + 1, 9999999999, (pc + 1, al, .int 1 :: r, none))])
    | _ => none
  | .if_icmp cc off => some fun scr V mi pc al st g => iv_xc2 V cc pc off al st
  | .ifCond cc off => some fun scr V mi pc al st g => iv_xc1 V cc pc off al st
  | .iadd => some fun scr V mi pc al st g => iv_a2 V pc al st (fun x y => x + y)
  | .isub => some fun scr V mi pc al st g => iv_a2 V pc al st (fun x y => x - y)
  | .imul => some fun scr V mi pc al st g => iv_a2 V pc al st (fun x y => x * y)
  | .iand => some fun scr V mi pc al st g => match scr with
    | none => iv_u2 V pc al st
    | some c => match st with
      | .int m :: .float b :: r => if m = 31 ∧ b.toNat = 0 ∧ c.1 = 6 then some [(V, (pc + 1, al, .int c.2 :: r, none))] else iv_u2 V pc al st
      | st => iv_u2 V pc al st
  | .ior => some fun scr V mi pc al st g => iv_u2 V pc al st
  | .ishl => some fun scr V mi pc al st g => iv_u2 V pc al st
  | .ishr => some fun scr V mi pc al st g => iv_u2 V pc al st
  | .iushr => some fun scr V mi pc al st g => iv_u2 V pc al st
  | .i2b => some fun scr V mi pc al st g => match st with
    | .float _ :: r => some [(V, (pc + 1, al, iv_U :: r, none))]
    | _ => none
  | .tableswitch d lo hi offs => some fun scr V mi pc al st g => iv_xsw V pc d lo hi offs.toList al st
  | .iaload => some fun scr V mi pc al st g => match st with
    | .int i :: .retAddr _ :: r => match scr with
      | some c => if iv_in i c.1 = true ∧ i.toNatClampNeg < 6 then some [(V, (pc + 1, al, .float (UInt32.ofNat i.toNatClampNeg) :: r, none))] else none
      | none => none
    | st => iv_xalG V pc al st g
  | .aaload => some fun scr V mi pc al st g => iv_xaqG V pc al st g
  | .arraylength => some fun scr V mi pc al st g => match st with
    | .retAddr _ :: r => match scr with
      | some c => some [(V, (pc + 1, al, .int (Int32.ofNat c.1) :: r, none))]
      | none => none
    | _ => none
  | .iastore => some fun scr V mi pc al st g => iv_xasG V .int pc al st g
  | .bastore => some fun scr V mi pc al st g => iv_xasG V .byte pc al st g
  | _ => none
def iv_xsG (scr : Option (Nat × Int32)) (V : iv_V) (mi pc : Nat) (op : Jvm.ClassFile.Instr) (al : iv_L) (st : List Value) (g : Nat → Option iv_C) : Option (List (iv_V × iv_O)) := match iv_xsemG op with
  | some f => f scr V mi pc al st g
  | none => none
theorem iv_xsG_eq (scr : Option (Nat × Int32)) (V : iv_V) (mi pc : Nat) (op : Jvm.ClassFile.Instr) (al : iv_L) (st : List Value) (h : iv_H) : iv_xsG scr V mi pc op al st (fun k => h[k]?) = iv_xs scr V mi pc op al st h := by
  cases op <;> rfl
def iv_xG (scr : Option (Nat × Int32)) (V : iv_V) (mi pc : Nat) (op : Jvm.ClassFile.Instr) (al : iv_L) (st : List Value) (g : Nat → Option iv_C) (len : Nat) : Option (List (iv_V × iv_O)) := match iv_xsG scr V mi pc op al st g with
  | some l => some l
  | none => (iv_opG none mi pc op al st g len).bind fun o => if iv_feb o.2.2.2 = true then some [(V, o)] else none
theorem iv_xG_eq (scr : Option (Nat × Int32)) (V : iv_V) (mi pc : Nat) (op : Jvm.ClassFile.Instr) (al : iv_L) (st : List Value) (h : iv_H) : iv_xG scr V mi pc op al st (fun k => h[k]?) h.length = iv_x scr V mi pc op al st h := by
  unfold iv_xG iv_x
  rw [iv_xsG_eq, iv_opG_eq]
  cases iv_xs scr V mi pc op al st h <;> rfl
def iv_caG (mi : Nat) (op : Jvm.ClassFile.Instr) (st : List Value) (g : Nat → Option iv_C) : Option (Nat × List Value × List Value) := match iv_cc op with
  | none => none
  | some q => match iv_mt (iv_kf mi) q.2 with
    | none => none
    | some mj => if ((st.take (iv_na mj)).length = iv_na mj ∧ iv_nr (st.take (iv_na mj)) = true ∧ (iv_ex (st.take (iv_na mj)).reverse).length + 1 ≤ iv_mx mj + iv_rx mj) then
        (if q.1 = 2 then (if iv_rc mj = none ∧ iv_ini mj = false ∧ ((st.drop (iv_na mj)).map fun v => v.category).sum ≤ 8 then some (mj, (st.take (iv_na mj)).reverse, st.drop (iv_na mj)) else none)
        else iv_r (st.drop (iv_na mj)) fun b rest => match iv_rc mj with
          | none => none
          | some ci => if iv_ocG g b ci = true ∧ (rest.map fun v => v.category).sum ≤ 8 ∧ iv_ini mj = decide (q.1 = 1) ∧ (q.1 = 1 ∨ iv_nn (iv_kf mi) q.2 = none) then some (mj, .ref b :: (st.take (iv_na mj)).reverse, rest) else none)
      else none
/-- n: fuel; d: depth of calls -/
theorem iv_caG_eq (mi : Nat) (op : Jvm.ClassFile.Instr) (st : List Value) (h : iv_H) : iv_caG mi op st (fun k => h[k]?) = iv_ca mi op st h := rfl
/-- the heap as a tree, and how many cells it has -/
abbrev iv_T : Type := Nat × iv_Tr iv_C 9
def iv_tq (t : iv_T) (k : Nat) : Option iv_C := bif Nat.ble 512 k then none else iv_tl 9 t.2 k
def iv_ts {α : Type} : (n : Nat) → iv_Tr α n → Nat → α → iv_Tr α n
  | 0, _, _, c => some c
  | n + 1, t, k, c => bif Nat.ble (2 ^ n) k then iv_nd (Prod.fst t) (iv_ts n (Prod.snd t) (k - 2 ^ n) c) else iv_nd (iv_ts n (Prod.fst t) k c) (Prod.snd t)
theorem iv_ts_get {α : Type} : ∀ (n : Nat) (t : iv_Tr α n) (k j : Nat) (c : α), k < 2 ^ n → j < 2 ^ n → iv_tl n (iv_ts n t k c) j = if j = k then some c else iv_tl n t j
  | 0, t, k, j, c, hk, hj => by
    have e : j = k := by omega
    rw [if_pos e]
    rfl
  | n + 1, t, k, j, c, hk, hj => by
    rw [Nat.pow_succ] at hk hj
    by_cases a : 2 ^ n ≤ k
    · have a' : Nat.ble (2 ^ n) k = true := Nat.ble_eq_true_of_le a
      have e1 : iv_ts (n + 1) t k c = iv_nd (Prod.fst t) (iv_ts n (Prod.snd t) (k - 2 ^ n) c) := by
        show (bif Nat.ble (2 ^ n) k then _ else _) = _
        rw [a']; rfl
      rw [e1]
      show (bif Nat.ble (2 ^ n) j then iv_tl n (iv_ts n (Prod.snd t) (k - 2 ^ n) c) (j - 2 ^ n) else iv_tl n (Prod.fst t) j) = if j = k then some c else (bif Nat.ble (2 ^ n) j then iv_tl n (Prod.snd t) (j - 2 ^ n) else iv_tl n (Prod.fst t) j)
      by_cases b : 2 ^ n ≤ j
      · rw [Nat.ble_eq_true_of_le b]
        show iv_tl n _ _ = if j = k then some c else iv_tl n _ _
        rw [iv_ts_get n (Prod.snd t) (k - 2 ^ n) (j - 2 ^ n) c (by omega) (by omega)]
        by_cases e : j = k
        · rw [if_pos e, if_pos (by omega)]
        · rw [if_neg e, if_neg (by omega)]
      · have b' : Nat.ble (2 ^ n) j = false := by
          cases q : Nat.ble (2 ^ n) j with
          | false => rfl
          | true => exact absurd (Nat.le_of_ble_eq_true q) b
        rw [b', if_neg (by omega)]
        rfl
    · have a' : Nat.ble (2 ^ n) k = false := by
        cases q : Nat.ble (2 ^ n) k with
        | false => rfl
        | true => exact absurd (Nat.le_of_ble_eq_true q) a
      have e1 : iv_ts (n + 1) t k c = iv_nd (iv_ts n (Prod.fst t) k c) (Prod.snd t) := by
        show (bif Nat.ble (2 ^ n) k then _ else _) = _
        rw [a']; rfl
      rw [e1]
      show (bif Nat.ble (2 ^ n) j then iv_tl n (Prod.snd t) (j - 2 ^ n) else iv_tl n (iv_ts n (Prod.fst t) k c) j) = if j = k then some c else (bif Nat.ble (2 ^ n) j then iv_tl n (Prod.snd t) (j - 2 ^ n) else iv_tl n (Prod.fst t) j)
      by_cases b : 2 ^ n ≤ j
      · rw [Nat.ble_eq_true_of_le b, if_neg (by omega)]
        rfl
      · have b' : Nat.ble (2 ^ n) j = false := by
          cases q : Nat.ble (2 ^ n) j with
          | false => rfl
          | true => exact absurd (Nat.le_of_ble_eq_true q) b
        rw [b']
        show iv_tl n _ _ = if j = k then some c else iv_tl n _ _
        exact iv_ts_get n (Prod.fst t) k j c (by omega) (by omega)
theorem iv_em_get {α : Type} : ∀ (n j : Nat), iv_tl n (iv_em n : iv_Tr α n) j = none
  | 0, _ => rfl
  | n + 1, j => by
    show (bif Nat.ble (2 ^ n) j then iv_tl n (iv_em n : iv_Tr α n) (j - 2 ^ n) else iv_tl n (iv_em n : iv_Tr α n) j) = none
    rw [iv_em_get n, iv_em_get n]
    cases Nat.ble (2 ^ n) j <;> rfl
/-- the tree holds the list -/
def iv_τ (t : iv_T) (h : iv_H) : Prop := t.1 = h.length ∧ iv_tq t = fun k => h[k]?
def iv_tset (t : iv_T) (k : Nat) (c : iv_C) : Option iv_T := bif Nat.ble t.1 k then none else bif Nat.ble 512 k then none else some (t.1, iv_ts 9 t.2 k c)
def iv_tpush (t : iv_T) (c : iv_C) : Option iv_T := bif Nat.ble 512 t.1 then none else some (t.1 + 1, iv_ts 9 t.2 t.1 c)
theorem iv_bif' {α : Type} {b : Bool} {x : Option α} {y : α} (h : (bif b then none else x) = some y) : b = false ∧ x = some y := iv_bif h
theorem iv_tq_lt {t : iv_T} {k : Nat} (hk : k < 512) : iv_tq t k = iv_tl 9 t.2 k := by
  unfold iv_tq
  cases q : Nat.ble 512 k with
  | false => rfl
  | true => exact absurd (Nat.le_of_ble_eq_true q) (by omega)
theorem iv_tq_ge {t : iv_T} {k : Nat} (hk : 512 ≤ k) : iv_tq t k = none := by
  unfold iv_tq
  rw [Nat.ble_eq_true_of_le hk]
  rfl
theorem iv_tset_s {t t' : iv_T} {h : iv_H} {k : Nat} {c : iv_C} (e : iv_tset t k c = some t') (r : iv_τ t h) : iv_τ t' (h.set k c) := by
  obtain ⟨a1, e1⟩ := iv_bif' e
  obtain ⟨a2, e2⟩ := iv_bif' e1
  have b1 := iv_blt a1
  have b2 := iv_blt a2
  cases e2
  refine ⟨by rw [List.length_set]; exact r.1, funext fun j => ?_⟩
  rw [List.getElem?_set]
  by_cases hj : j < 512
  · rw [iv_tq_lt hj, iv_ts_get 9 t.2 k j c b2 hj]
    by_cases e : j = k
    · rw [if_pos e, if_pos e.symm, if_pos (by rw [← r.1]; exact b1)]
    · rw [if_neg e, if_neg (fun z => e z.symm), ← iv_tq_lt hj, r.2]
  · rw [iv_tq_ge (by omega), if_neg (by omega)]
    have q := congrFun r.2 j
    rw [iv_tq_ge (by omega)] at q
    exact q
theorem iv_tpush_s {t t' : iv_T} {h : iv_H} {c : iv_C} (e : iv_tpush t c = some t') (r : iv_τ t h) : iv_τ t' (h ++ [c]) := by
  obtain ⟨a1, e1⟩ := iv_bif' e
  have b1 := iv_blt a1
  cases e1
  refine ⟨by rw [List.length_append, ← r.1]; rfl, funext fun j => ?_⟩
  have q := congrFun r.2 j
  by_cases hj : j < 512
  · rw [iv_tq_lt hj, iv_ts_get 9 t.2 t.1 j c b1 hj, ← iv_tq_lt hj, q]
    by_cases e : j = t.1
    · rw [if_pos e, e, r.1, List.getElem?_append_right (Nat.le_refl _), Nat.sub_self]
      rfl
    · rw [if_neg e]
      by_cases hl : j < h.length
      · rw [List.getElem?_append_left hl]
      · have g1 : h[j]? = none := List.getElem?_eq_none_iff.mpr (by omega)
        have g2 : (h ++ [c])[j]? = none := List.getElem?_eq_none_iff.mpr (by rw [List.length_append]; show h.length + 1 ≤ j; have := r.1; omega)
        rw [g1, g2]
  · rw [iv_tq_ge (by omega)]
    have g2 : (h ++ [c])[j]? = none := List.getElem?_eq_none_iff.mpr (by rw [List.length_append]; show h.length + 1 ≤ j; have := r.1; omega)
    rw [g2]
def iv_tef (t : iv_T) (f : iv_F) : Option iv_T := match f with
  | none => some t
  | some (none, c) => iv_tpush t c
  | some (some k, c) => if (iv_tq t k).map iv_cz = some (iv_cz c) then iv_tset t k c else none
theorem iv_tef_s {t t' : iv_T} {h : iv_H} {f : iv_F} (e : iv_tef t f = some t') (r : iv_τ t h) : ∃ h', iv_ef h f = some h' ∧ iv_τ t' h' := by
  unfold iv_tef at e
  split at e
  · cases e; exact ⟨h, rfl, r⟩
  · exact ⟨_, rfl, iv_tpush_s e r⟩
  · rename_i k c
    split at e
    · rename_i hz
      refine ⟨_, ?_, iv_tset_s e r⟩
      rw [congrFun r.2 k] at hz
      show (if _ then _ else _) = _
      rw [if_pos hz]
    · cases e
def iv_tsum2 (t : iv_T) (k : Nat) (fs : List Value) (a b : Nat) : Option iv_T := match iv_akG (iv_tq t) a with
  | none => none
  | some q => match iv_akG (iv_tq t) b with
    | none => none
    | some u => if q.2 = 340 ∧ u.2 = 2720 ∧ iv_is q.1 .int = true ∧ iv_is u.1 .int = true then (iv_tset t b (.inr (u.1, 2720, .inr (.inr (.inl (fun _ => 0)))))).bind fun t1 => iv_tset t1 k (.inl (10, fs.set 2 (.int 1))) else none
def iv_tsum1 (t : iv_T) (k : Nat) (fs : List Value) : Option iv_T := match fs[0]? with
  | some (Value.ref a) => match fs[1]? with
    | some (Value.ref b) => match fs[2]? with
      | some (Value.int x) => if x = 0 then iv_tsum2 t k fs a b else none
      | _ => none
    | _ => none
  | _ => none
/-- a call that is told: whether it is one, and what it leaves -/
def iv_tsum (vs : List Value) (t : iv_T) : Option iv_T := match vs with
  | [Value.ref k] => match iv_tq t k with
    | some (.inl o) => if o.1 = 10 then iv_tsum1 t k o.2 else none
    | _ => none
  | _ => none
theorem iv_tsum_s {vs : List Value} {t t' : iv_T} {h : iv_H} (e : iv_tsum vs t = some t') (r : iv_τ t h) : ∃ h', iv_sum 132 vs h = some h' ∧ iv_τ t' h' := by
  unfold iv_tsum at e
  split at e
  · rename_i k
    split at e
    · rename_i o ho
      split at e
      · rename_i h10
        rw [congrFun r.2 k] at ho
        unfold iv_tsum1 at e
        split at e
        · rename_i a ha
          split at e
          · rename_i b hb
            split at e
            · rename_i x hx
              split at e
              · rename_i hx0
                unfold iv_tsum2 at e
                rw [r.2] at e
                split at e
                · cases e
                · rename_i q hq
                  split at e
                  · cases e
                  · rename_i u hu
                    split at e
                    · rename_i hc
                      obtain ⟨t1, e1, e2⟩ := Option.bind_eq_some_iff.mp e
                      refine ⟨_, ?_, iv_tset_s e2 (iv_tset_s e1 r)⟩
                      have hq' : iv_ak h a = some q := hq
                      have hu' : iv_ak h b = some u := hu
                      unfold iv_sum
                      rw [if_pos rfl]
                      dsimp only
                      rw [ho]
                      dsimp only
                      rw [if_pos h10]
                      unfold iv_sum1
                      rw [ha]
                      dsimp only
                      rw [hb]
                      dsimp only
                      rw [hx]
                      dsimp only
                      rw [if_pos hx0]
                      unfold iv_sum2
                      rw [hq']
                      dsimp only
                      rw [hu']
                      dsimp only
                      rw [if_pos hc]
                    · cases e
              · cases e
            · cases e
          · cases e
        · cases e
      · cases e
    · cases e
  · cases e
abbrev iv_ST : Type := Nat × iv_L × List Value × iv_T
def iv_yr : Nat → Option (Nat × Int32) → Nat → Nat → iv_V → iv_ST → Option (List (iv_V × Option Value × iv_T))
  | 0, _, _, _, _, _ => none
  | n + 1, scr, d, mi, V, S => match iv_cd mi S.1 with
    | none => none
    | some op => if iv_isr op = true then (iv_re mi op S.2.2.1).map fun v => [(V, v, S.2.2.2)]
      else match iv_caG mi op S.2.2.1 (iv_tq S.2.2.2) with
        | some c => match d with
          | 0 => none
          | d' + 1 => if c.1 = 132 then match iv_tsum c.2.1 S.2.2.2 with
            | some t1 => iv_yr n scr (d' + 1) mi V (S.1 + 3, S.2.1, c.2.2, t1)
            | none => none
            else match iv_yr n none d' c.1 V (0, iv_en c.1 c.2.1, [], S.2.2.2) with
              | none => none
              | some l => iv_bd (fun q => iv_yr n scr (d' + 1) mi q.1 (S.1 + 3, S.2.1, q.2.1.toList ++ c.2.2, q.2.2)) l
        | none => if iv_cm0 mi op = false then none else match iv_xG scr V mi S.1 op S.2.1 S.2.2.1 (iv_tq S.2.2.2) S.2.2.2.1 with
          | none => none
          | some l => iv_bd (fun o => match iv_tef S.2.2.2 o.2.2.2.2 with
            | none => none
            | some t' => iv_yr n scr d mi o.1 (o.2.1, o.2.2.1, o.2.2.2.1, t')) l
/-- the same outcomes, heap for heap -/
def iv_τl : List (iv_V × Option Value × iv_T) → List (iv_V × Option Value × iv_H) → Prop
  | [], [] => True
  | a :: as, b :: bs => (a.1 = b.1 ∧ a.2.1 = b.2.1 ∧ iv_τ a.2.2 b.2.2) ∧ iv_τl as bs
  | _, _ => False
theorem iv_τl_app : ∀ {a c : List (iv_V × Option Value × iv_T)} {b d : List (iv_V × Option Value × iv_H)}, iv_τl a b → iv_τl c d → iv_τl (a ++ c) (b ++ d)
  | [], _, [], _, _, h => h
  | _ :: _, _, _ :: _, _, h, g => ⟨h.1, iv_τl_app h.2 g⟩
  | [], _, _ :: _, _, h, _ => absurd h (fun q => q)
  | _ :: _, _, [], _, h, _ => absurd h (fun q => q)
theorem iv_sum_ne {mj : Nat} {vs : List Value} {h : iv_H} (e : ¬ mj = 132) : iv_sum mj vs h = none := by
  unfold iv_sum
  rw [if_neg e]
theorem iv_bd_τ {α β : Type} (R : α → β → Prop) (f : α → Option (List (iv_V × Option Value × iv_T))) (g : β → Option (List (iv_V × Option Value × iv_H))) (hfg : ∀ a b x, R a b → f a = some x → ∃ y, g b = some y ∧ iv_τl x y) : ∀ (l : List α) (m : List β) (x : List (iv_V × Option Value × iv_T)), l.length = m.length → (∀ (i : Nat) (a : α) (b : β), l[i]? = some a → m[i]? = some b → R a b) → iv_bd f l = some x → ∃ y, iv_bd g m = some y ∧ iv_τl x y := by
  intro l
  induction l with
  | nil =>
    intro m x hl hR e
    cases m with
    | nil => cases e; exact ⟨[], rfl, trivial⟩
    | cons b m => cases hl
  | cons a l ih =>
    intro m x hl hR e
    cases m with
    | nil => cases hl
    | cons b m =>
      unfold iv_bd at e
      split at e
      · cases e
      · rename_i x1 h1
        split at e
        · cases e
        · rename_i x2 h2
          cases e
          obtain ⟨y1, g1, t1⟩ := hfg a b x1 (hR 0 a b rfl rfl) h1
          obtain ⟨y2, g2, t2⟩ := ih m x2 (by simpa using hl) (fun i a b ha hb => hR (i + 1) a b (by simpa using ha) (by simpa using hb)) h2
          refine ⟨y1 ++ y2, ?_, iv_τl_app t1 t2⟩
          unfold iv_bd
          rw [g1]
          dsimp only
          rw [g2]
theorem iv_τl_ix : ∀ {a : List (iv_V × Option Value × iv_T)} {b : List (iv_V × Option Value × iv_H)}, iv_τl a b → a.length = b.length ∧ ∀ (i : Nat) (x : iv_V × Option Value × iv_T) (y : iv_V × Option Value × iv_H), a[i]? = some x → b[i]? = some y → x.1 = y.1 ∧ x.2.1 = y.2.1 ∧ iv_τ x.2.2 y.2.2
  | [], [], _ => ⟨rfl, fun i x y hx => by simp at hx⟩
  | a :: as, b :: bs, h => by
    have g := iv_τl_ix h.2
    refine ⟨by rw [List.length_cons, List.length_cons, g.1], fun i x y hx hy => ?_⟩
    cases i with
    | zero => cases hx; cases hy; exact h.1
    | succ i => exact g.2 i x y (by simpa using hx) (by simpa using hy)
  | [], _ :: _, h => absurd h (fun q => q)
  | _ :: _, [], h => absurd h (fun q => q)
theorem iv_yr_s : ∀ (n : Nat) (scr : Option (Nat × Int32)) (d mi : Nat) (V : iv_V) (pc : Nat) (al : iv_L) (st : List Value) (t : iv_T) (h : iv_H) (l : List (iv_V × Option Value × iv_T)), iv_yr n scr d mi V (pc, al, st, t) = some l → iv_τ t h → ∃ l', iv_xr n scr d mi V (pc, al, st, h) = some l' ∧ iv_τl l l' := by
  intro n
  induction n with
  | zero => intro scr d mi V pc al st t h l e; cases e
  | succ n ih =>
    intro scr d mi V pc al st t h l e r
    unfold iv_yr at e
    unfold iv_xr
    dsimp only at e ⊢
    cases hcd : iv_cd mi pc with
    | none => rw [hcd] at e; cases e
    | some op =>
      rw [hcd] at e
      dsimp only at e ⊢
      by_cases hr : iv_isr op = true
      · rw [if_pos hr] at e ⊢
        obtain ⟨v, h1, h2⟩ := Option.map_eq_some_iff.mp e
        cases h2
        rw [h1]
        exact ⟨_, rfl, ⟨rfl, rfl, r⟩, trivial⟩
      · rw [if_neg hr] at e ⊢
        rw [r.2, iv_caG_eq] at e
        cases hca : iv_ca mi op st h with
        | some c =>
          rw [hca] at e
          dsimp only at e ⊢
          cases d with
          | zero => cases e
          | succ d' =>
            dsimp only at e ⊢
            by_cases h132 : c.1 = 132
            · rw [if_pos h132] at e
              cases hs : iv_tsum c.2.1 t with
              | none => rw [hs] at e; cases e
              | some t1 =>
                rw [hs] at e
                dsimp only at e
                obtain ⟨h', k1, k2⟩ := iv_tsum_s hs r
                rw [h132, k1]
                exact ih scr (d' + 1) mi V (pc + 3) al c.2.2 t1 h' l e k2
            · rw [if_neg h132] at e
              rw [iv_sum_ne h132]
              dsimp only
              cases hq : iv_yr n none d' c.1 V (0, iv_en c.1 c.2.1, [], t) with
              | none => rw [hq] at e; cases e
              | some l1 =>
                rw [hq] at e
                dsimp only at e
                obtain ⟨l2, k1, k2⟩ := ih none d' c.1 V 0 (iv_en c.1 c.2.1) [] t h l1 hq r
                rw [k1]
                dsimp only
                obtain ⟨g1, g2⟩ := iv_τl_ix k2
                refine iv_bd_τ (fun a b => a.1 = b.1 ∧ a.2.1 = b.2.1 ∧ iv_τ a.2.2 b.2.2) _ _ (fun a b x hab hx => ?_) l1 l2 l g1 g2 e
                obtain ⟨q1, q2, q3⟩ := hab
                rw [← q1, ← q2]
                exact ih scr (d' + 1) mi a.1 (pc + 3) al (a.2.1.toList ++ c.2.2) a.2.2 b.2.2 x hx q3
        | none =>
          rw [hca] at e
          dsimp only at e ⊢
          by_cases hc0 : iv_cm0 mi op = false
          · rw [if_pos hc0] at e; cases e
          · rw [if_neg hc0] at e ⊢
            rw [r.1, iv_xG_eq] at e
            cases hx : iv_x scr V mi pc op al st h with
            | none => rw [hx] at e; cases e
            | some l1 =>
              rw [hx] at e
              dsimp only at e ⊢
              refine iv_bd_τ (fun a b => a = b) _ _ (fun a b x hab hx2 => ?_) l1 l1 l rfl (fun i a b ha hb => by rw [ha] at hb; exact Option.some.inj hb) e
              subst hab
              split at hx2
              · cases hx2
              · rename_i t' ht'
                obtain ⟨h', k1, k2⟩ := iv_tef_s ht' r
                rw [k1]
                exact ih scr d mi a.1 a.2.1 a.2.2.1 a.2.2.2.1 t' h' x hx2 k2
