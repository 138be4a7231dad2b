/-! THE TABLES AGREE WITH THE WORDS AND THE BYTES: each by one run of a check in the kernel -/
def iv_n (op : Jvm.ClassFile.Instr) : Nat := match op with
  | .aload _ => 2
  | .anewarray _ => 3
  | .astore _ => 2
  | .bipush _ => 2
  | .getfield _ => 3
  | .getstatic _ => 3
  | .goto _ => 3
  | .if_icmp _ _ => 3
  | .ifCond _ _ => 3
  | .iinc _ _ => 3
  | .iload _ => 2
  | .invokespecial _ => 3
  | .invokestatic _ => 3
  | .invokevirtual _ => 3
  | .istore _ => 2
  | .ldc _ => 2
  | .ldc_w _ => 3
  | .ldc2_w _ => 3
  | .lload _ => 2
  | .lstore _ => 2
  | .dload _ => 2
  | .dstore _ => 2
  | .new _ => 3
  | .newarray _ => 2
  | .putfield _ => 3
  | .sipush _ => 3
  | .lookupswitch _ _ => 0
  | .tableswitch _ _ _ _ => 0
  | _ => 1

theorem iv_bif {α : Type} {b : Bool} {x : Option α} {y : α} (h : (bif b then none else x) = some y) : b = false ∧ x = some y := by
  cases b with
  | true => cases h
  | false => exact ⟨rfl, h⟩
theorem iv_blt {a b : Nat} (h : Nat.ble a b = false) : b < a := Nat.lt_of_not_le fun q => by
  rw [Nat.ble_eq_true_of_le q] at h
  cases h
/-! INSTRUCTIONS READ OFF LISTS OF BYTES: each row of the decoder by itself -/
theorem bd_u1' {code : ByteArray} {p : Nat} (h : p < code.size) : (Jvm.ClassFile.Reader.u1 : Jvm.ClassFile.Reader Jvm.ClassFile.DecodeError Nat) code p = .ok (code[p].toNat, p + 1) := by
  unfold Jvm.ClassFile.Reader.u1
  show (if h : p < code.size then (do set (p + 1); pure code[p].toNat : Jvm.ClassFile.Reader Jvm.ClassFile.DecodeError Nat) else throw (Jvm.ClassFile.HasTruncated.truncated p)) code p = _
  rw [dif_pos h]
  rfl
theorem bd_u1 {α : Type} {f : Nat → Jvm.ClassFile.Reader Jvm.ClassFile.DecodeError α} {code : ByteArray} {p n : Nat} (h : p < code.size) (e : code[p].toNat = n) : (Jvm.ClassFile.Reader.u1 >>= f) code p = f n code (p + 1) := by
  show Except.bind ((Jvm.ClassFile.Reader.u1 : Jvm.ClassFile.Reader Jvm.ClassFile.DecodeError Nat) code p) (fun q => f q.1 code q.2) = _
  rw [bd_u1' h, e]
  rfl
theorem bd_u2 {α : Type} {f : Nat → Jvm.ClassFile.Reader Jvm.ClassFile.DecodeError α} {code : ByteArray} {p n : Nat} (h : p < code.size) (h1 : p + 1 < code.size) (e : code[p].toNat * 256 + code[p + 1].toNat = n) : (Jvm.ClassFile.Reader.u2 >>= f) code p = f n code (p + 2) := by
  have a : (Jvm.ClassFile.Reader.u2 : Jvm.ClassFile.Reader Jvm.ClassFile.DecodeError Nat) code p = .ok (code[p].toNat * 256 + code[p + 1].toNat, p + 2) := (bd_u1 h rfl).trans ((bd_u1 h1 rfl).trans rfl)
  show Except.bind ((Jvm.ClassFile.Reader.u2 : Jvm.ClassFile.Reader Jvm.ClassFile.DecodeError Nat) code p) (fun q => f q.1 code q.2) = _
  rw [a, e]
  rfl
theorem bd_s1 {α : Type} {f : Int → Jvm.ClassFile.Reader Jvm.ClassFile.DecodeError α} {code : ByteArray} {p : Nat} {n : Int} (h : p < code.size) (e : Jvm.ClassFile.Reader.signed 8 code[p].toNat = n) : (Jvm.ClassFile.Reader.s1 >>= f) code p = f n code (p + 1) := by
  have a : (Jvm.ClassFile.Reader.s1 : Jvm.ClassFile.Reader Jvm.ClassFile.DecodeError Int) code p = .ok (Jvm.ClassFile.Reader.signed 8 code[p].toNat, p + 1) := by
    show Except.map (fun q => (Jvm.ClassFile.Reader.signed 8 q.1, q.2)) ((Jvm.ClassFile.Reader.u1 : Jvm.ClassFile.Reader Jvm.ClassFile.DecodeError Nat) code p) = _
    rw [bd_u1' h]
    rfl
  show Except.bind ((Jvm.ClassFile.Reader.s1 : Jvm.ClassFile.Reader Jvm.ClassFile.DecodeError Int) code p) (fun q => f q.1 code q.2) = _
  rw [a, e]
  rfl
theorem bd_s2 {α : Type} {f : Int → Jvm.ClassFile.Reader Jvm.ClassFile.DecodeError α} {code : ByteArray} {p : Nat} {n : Int} (h : p < code.size) (h1 : p + 1 < code.size) (e : Jvm.ClassFile.Reader.signed 16 (code[p].toNat * 256 + code[p + 1].toNat) = n) : (Jvm.ClassFile.Reader.s2 >>= f) code p = f n code (p + 2) := by
  have a : (Jvm.ClassFile.Reader.u2 : Jvm.ClassFile.Reader Jvm.ClassFile.DecodeError Nat) code p = .ok (code[p].toNat * 256 + code[p + 1].toNat, p + 2) := (bd_u1 h rfl).trans ((bd_u1 h1 rfl).trans rfl)
  have a : (Jvm.ClassFile.Reader.s2 : Jvm.ClassFile.Reader Jvm.ClassFile.DecodeError Int) code p = .ok (Jvm.ClassFile.Reader.signed 16 (code[p].toNat * 256 + code[p + 1].toNat), p + 2) := by
    show Except.map (fun q => (Jvm.ClassFile.Reader.signed 16 q.1, q.2)) ((Jvm.ClassFile.Reader.u2 : Jvm.ClassFile.Reader Jvm.ClassFile.DecodeError Nat) code p) = _
    rw [a]
    rfl
  show Except.bind ((Jvm.ClassFile.Reader.s2 : Jvm.ClassFile.Reader Jvm.ClassFile.DecodeError Int) code p) (fun q => f q.1 code q.2) = _
  rw [a, e]
  rfl
theorem bd_fin {code : ByteArray} {p n : Nat} {op : Jvm.ClassFile.Instr} (h : Jvm.ClassFile.Decoder.instr p code p = .ok (op, p + n)) : decode code p = .ok (op, n) := by
  unfold decode
  show Except.bind (Jvm.ClassFile.Decoder.instr p code p) (fun q => Except.ok (q.1, q.2 - p)) = _
  rw [h]
  show Except.ok (op, p + n - p) = _
  rw [Nat.add_sub_cancel_left]
theorem bd_b {code : ByteArray} {p : Nat} {b : UInt8} {l : List UInt8} (hl : code.data.toList.drop p = b :: l) : (∃ h : p < code.size, code[p] = b) ∧ code.data.toList.drop (p + 1) = l := by
  have h1 : p < code.data.toList.length := by
    apply Classical.byContradiction
    intro q
    rw [List.drop_eq_nil_of_le (Nat.le_of_not_lt q)] at hl
    cases hl
  rw [List.drop_eq_getElem_cons h1] at hl
  injection hl with e1 e2
  exact ⟨⟨h1, e1⟩, e2⟩
def bd_r0 (o : Nat) (l : List UInt8) : Bool := match l with
  | b :: _ => Nat.beq b.toNat o
  | [] => false
def bd_r1 (o k : Nat) (l : List UInt8) : Bool := match l with
  | b :: c :: _ => Nat.beq b.toNat o && Nat.beq c.toNat k
  | _ => false
def bd_r2 (o k : Nat) (l : List UInt8) : Bool := match l with
  | b :: c :: d :: _ => Nat.beq b.toNat o && Nat.beq (c.toNat * 256 + d.toNat) k
  | _ => false
def bd_z1 (o : Nat) (k : Int) (l : List UInt8) : Bool := match l with
  | b :: c :: _ => Nat.beq b.toNat o && decide (Jvm.ClassFile.Reader.signed 8 c.toNat = k)
  | _ => false
def bd_z2 (o : Nat) (k : Int) (l : List UInt8) : Bool := match l with
  | b :: c :: d :: _ => Nat.beq b.toNat o && decide (Jvm.ClassFile.Reader.signed 16 (c.toNat * 256 + d.toNat) = k)
  | _ => false
def bd_ii (o k : Nat) (v : Int) (l : List UInt8) : Bool := match l with
  | b :: c :: d :: _ => Nat.beq b.toNat o && (Nat.beq c.toNat k && decide (Jvm.ClassFile.Reader.signed 8 d.toNat = v))
  | _ => false
section
variable {code : ByteArray} {p o k : Nat} {v : Int} {l : List UInt8}
theorem bd_r0_s (hl : code.data.toList.drop p = l) (h : bd_r0 o l = true) : ∃ h : p < code.size, code[p].toNat = o := by
  unfold bd_r0 at h
  split at h
  · obtain ⟨⟨h1, e1⟩, -⟩ := bd_b hl
    exact ⟨h1, by rw [e1]; exact Nat.eq_of_beq_eq_true h⟩
  · cases h
theorem bd_r1_s (hl : code.data.toList.drop p = l) (h : bd_r1 o k l = true) : ∃ (h : p < code.size) (h1 : p + 1 < code.size), code[p].toNat = o ∧ code[p + 1].toNat = k := by
  unfold bd_r1 at h
  split at h
  · obtain ⟨⟨h1, e1⟩, n1⟩ := bd_b hl
    obtain ⟨⟨h2, e2⟩, -⟩ := bd_b n1
    obtain ⟨a, b⟩ := Bool.and_eq_true_iff.mp h
    exact ⟨h1, h2, by rw [e1]; exact Nat.eq_of_beq_eq_true a, by rw [e2]; exact Nat.eq_of_beq_eq_true b⟩
  · cases h
theorem bd_r2_s (hl : code.data.toList.drop p = l) (h : bd_r2 o k l = true) : ∃ (h : p < code.size) (h1 : p + 1 < code.size) (h2 : p + 1 + 1 < code.size), code[p].toNat = o ∧ code[p + 1].toNat * 256 + code[p + 1 + 1].toNat = k := by
  unfold bd_r2 at h
  split at h
  · obtain ⟨⟨h1, e1⟩, n1⟩ := bd_b hl
    obtain ⟨⟨h2, e2⟩, n2⟩ := bd_b n1
    obtain ⟨⟨h3, e3⟩, -⟩ := bd_b n2
    obtain ⟨a, b⟩ := Bool.and_eq_true_iff.mp h
    exact ⟨h1, h2, h3, by rw [e1]; exact Nat.eq_of_beq_eq_true a, by rw [e2, e3]; exact Nat.eq_of_beq_eq_true b⟩
  · cases h
theorem bd_z1_s (hl : code.data.toList.drop p = l) (h : bd_z1 o v l = true) : ∃ (h : p < code.size) (h1 : p + 1 < code.size), code[p].toNat = o ∧ Jvm.ClassFile.Reader.signed 8 code[p + 1].toNat = v := by
  unfold bd_z1 at h
  split at h
  · obtain ⟨⟨h1, e1⟩, n1⟩ := bd_b hl
    obtain ⟨⟨h2, e2⟩, -⟩ := bd_b n1
    obtain ⟨a, b⟩ := Bool.and_eq_true_iff.mp h
    exact ⟨h1, h2, by rw [e1]; exact Nat.eq_of_beq_eq_true a, by rw [e2]; exact of_decide_eq_true b⟩
  · cases h
theorem bd_z2_s (hl : code.data.toList.drop p = l) (h : bd_z2 o v l = true) : ∃ (h : p < code.size) (h1 : p + 1 < code.size) (h2 : p + 1 + 1 < code.size), code[p].toNat = o ∧ Jvm.ClassFile.Reader.signed 16 (code[p + 1].toNat * 256 + code[p + 1 + 1].toNat) = v := by
  unfold bd_z2 at h
  split at h
  · obtain ⟨⟨h1, e1⟩, n1⟩ := bd_b hl
    obtain ⟨⟨h2, e2⟩, n2⟩ := bd_b n1
    obtain ⟨⟨h3, e3⟩, -⟩ := bd_b n2
    obtain ⟨a, b⟩ := Bool.and_eq_true_iff.mp h
    exact ⟨h1, h2, h3, by rw [e1]; exact Nat.eq_of_beq_eq_true a, by rw [e2, e3]; exact of_decide_eq_true b⟩
  · cases h
theorem bd_ii_s (hl : code.data.toList.drop p = l) (h : bd_ii o k v l = true) : ∃ (h : p < code.size) (h1 : p + 1 < code.size) (h2 : p + 1 + 1 < code.size), code[p].toNat = o ∧ code[p + 1].toNat = k ∧ Jvm.ClassFile.Reader.signed 8 code[p + 1 + 1].toNat = v := by
  unfold bd_ii at h
  split at h
  · obtain ⟨⟨h1, e1⟩, n1⟩ := bd_b hl
    obtain ⟨⟨h2, e2⟩, n2⟩ := bd_b n1
    obtain ⟨⟨h3, e3⟩, -⟩ := bd_b n2
    obtain ⟨a, b⟩ := Bool.and_eq_true_iff.mp h
    obtain ⟨b, c⟩ := Bool.and_eq_true_iff.mp b
    exact ⟨h1, h2, h3, by rw [e1]; exact Nat.eq_of_beq_eq_true a, by rw [e2]; exact Nat.eq_of_beq_eq_true b, by rw [e3]; exact of_decide_eq_true c⟩
  · cases h
end
theorem bd_x0 {code : ByteArray} {p : Nat} {l : List UInt8} {op : Jvm.ClassFile.Instr} (o : Nat) (hl : code.data.toList.drop p = l) (h : bd_r0 o l = true) (k : ∀ h0 : p < code.size, code[p].toNat = o → Jvm.ClassFile.Decoder.instr p code p = .ok (op, p + 1)) : decode code p = .ok (op, 1) := by
  obtain ⟨h0, e0⟩ := bd_r0_s hl h
  exact bd_fin (k h0 e0)
/-- the bytes begin with that instruction -/
def bd_rl (op : Jvm.ClassFile.Instr) (l : List UInt8) : Bool := match op with
  | .aaload => bd_r0 50 l
  | .aastore => bd_r0 83 l
  | .aconst_null => bd_r0 1 l
  | .aload k => bd_r1 25 k l
  | .aload_n k => bd_r0 (42 + k.val) l
  | .anewarray k => bd_r2 189 k l
  | .areturn => bd_r0 176 l
  | .arraylength => bd_r0 190 l
  | .astore k => bd_r1 58 k l
  | .astore_n k => bd_r0 (75 + k.val) l
  | .athrow => bd_r0 191 l
  | .baload => bd_r0 51 l
  | .bastore => bd_r0 84 l
  | .bipush k => bd_z1 16 k l
  | .caload => bd_r0 52 l
  | .castore => bd_r0 85 l
  | .d2f => bd_r0 144 l
  | .d2i => bd_r0 142 l
  | .d2l => bd_r0 143 l
  | .dadd => bd_r0 99 l
  | .daload => bd_r0 49 l
  | .dastore => bd_r0 82 l
  | .dcmp c => match c with
    | .l => bd_r0 151 l
    | .g => bd_r0 152 l
  | .dconst k => bd_r0 (14 + k.val) l
  | .ddiv => bd_r0 111 l
  | .dload k => bd_r1 24 k l
  | .dload_n k => bd_r0 (38 + k.val) l
  | .dmul => bd_r0 107 l
  | .dneg => bd_r0 119 l
  | .drem => bd_r0 115 l
  | .dreturn => bd_r0 175 l
  | .dstore k => bd_r1 57 k l
  | .dstore_n k => bd_r0 (71 + k.val) l
  | .dsub => bd_r0 103 l
  | .dup => bd_r0 89 l
  | .dup2 => bd_r0 92 l
  | .dup2_x1 => bd_r0 93 l
  | .dup2_x2 => bd_r0 94 l
  | .dup_x1 => bd_r0 90 l
  | .dup_x2 => bd_r0 91 l
  | .f2d => bd_r0 141 l
  | .f2i => bd_r0 139 l
  | .f2l => bd_r0 140 l
  | .fadd => bd_r0 98 l
  | .faload => bd_r0 48 l
  | .fastore => bd_r0 81 l
  | .fcmp c => match c with
    | .l => bd_r0 149 l
    | .g => bd_r0 150 l
  | .fconst k => bd_r0 (11 + k.val) l
  | .fdiv => bd_r0 110 l
  | .fload_n k => bd_r0 (34 + k.val) l
  | .fmul => bd_r0 106 l
  | .fneg => bd_r0 118 l
  | .frem => bd_r0 114 l
  | .freturn => bd_r0 174 l
  | .fstore_n k => bd_r0 (67 + k.val) l
  | .fsub => bd_r0 102 l
  | .getfield k => bd_r2 180 k l
  | .getstatic k => bd_r2 178 k l
  | .goto k => bd_z2 167 k l
  | .i2b => bd_r0 145 l
  | .i2c => bd_r0 146 l
  | .i2d => bd_r0 135 l
  | .i2f => bd_r0 134 l
  | .i2l => bd_r0 133 l
  | .i2s => bd_r0 147 l
  | .iadd => bd_r0 96 l
  | .iaload => bd_r0 46 l
  | .iand => bd_r0 126 l
  | .iastore => bd_r0 79 l
  | .iconst k => decide (-1 ≤ k) && (decide (k ≤ 5) && bd_r0 (k + 3).toNat l)
  | .idiv => bd_r0 108 l
  | .ifCond c k => match c with
    | .eq => bd_z2 153 k l
    | .ne => bd_z2 154 k l
    | .lt => bd_z2 155 k l
    | .ge => bd_z2 156 k l
    | .gt => bd_z2 157 k l
    | .le => bd_z2 158 k l
  | .if_icmp c k => match c with
    | .eq => bd_z2 159 k l
    | .ne => bd_z2 160 k l
    | .lt => bd_z2 161 k l
    | .ge => bd_z2 162 k l
    | .gt => bd_z2 163 k l
    | .le => bd_z2 164 k l
  | .iinc k v => bd_ii 132 k v l
  | .iload k => bd_r1 21 k l
  | .iload_n k => bd_r0 (26 + k.val) l
  | .imul => bd_r0 104 l
  | .ineg => bd_r0 116 l
  | .invokespecial k => bd_r2 183 k l
  | .invokestatic k => bd_r2 184 k l
  | .invokevirtual k => bd_r2 182 k l
  | .ior => bd_r0 128 l
  | .irem => bd_r0 112 l
  | .ireturn => bd_r0 172 l
  | .ishl => bd_r0 120 l
  | .ishr => bd_r0 122 l
  | .istore k => bd_r1 54 k l
  | .istore_n k => bd_r0 (59 + k.val) l
  | .isub => bd_r0 100 l
  | .iushr => bd_r0 124 l
  | .ixor => bd_r0 130 l
  | .l2d => bd_r0 138 l
  | .l2f => bd_r0 137 l
  | .l2i => bd_r0 136 l
  | .ladd => bd_r0 97 l
  | .laload => bd_r0 47 l
  | .land => bd_r0 127 l
  | .lastore => bd_r0 80 l
  | .lcmp => bd_r0 148 l
  | .lconst k => bd_r0 (9 + k.val) l
  | .ldc k => bd_r1 18 k l
  | .ldc2_w k => bd_r2 20 k l
  | .ldc_w k => bd_r2 19 k l
  | .ldiv => bd_r0 109 l
  | .lload k => bd_r1 22 k l
  | .lload_n k => bd_r0 (30 + k.val) l
  | .lmul => bd_r0 105 l
  | .lneg => bd_r0 117 l
  | .lor => bd_r0 129 l
  | .lrem => bd_r0 113 l
  | .lreturn => bd_r0 173 l
  | .lshl => bd_r0 121 l
  | .lshr => bd_r0 123 l
  | .lstore k => bd_r1 55 k l
  | .lstore_n k => bd_r0 (63 + k.val) l
  | .lsub => bd_r0 101 l
  | .lushr => bd_r0 125 l
  | .lxor => bd_r0 131 l
  | .monitorenter => bd_r0 194 l
  | .monitorexit => bd_r0 195 l
  | .new k => bd_r2 187 k l
  | .newarray t => match t with
    | .boolean => bd_r1 188 4 l
    | .char => bd_r1 188 5 l
    | .float => bd_r1 188 6 l
    | .double => bd_r1 188 7 l
    | .byte => bd_r1 188 8 l
    | .short => bd_r1 188 9 l
    | .int => bd_r1 188 10 l
    | .long => bd_r1 188 11 l
  | .nop => bd_r0 0 l
  | .pop => bd_r0 87 l
  | .pop2 => bd_r0 88 l
  | .putfield k => bd_r2 181 k l
  | .return_ => bd_r0 177 l
  | .saload => bd_r0 53 l
  | .sastore => bd_r0 86 l
  | .sipush k => bd_z2 17 k l
  | .swap => bd_r0 95 l
  | _ => false
theorem bd_ok {code : ByteArray} {p : Nat} {l : List UInt8} {op : Jvm.ClassFile.Instr} (hl : code.data.toList.drop p = l) (h : bd_rl op l = true) : decode code p = .ok (op, iv_n op) := by
  cases op with
  | aaload => exact bd_x0 50 hl h fun h0 e0 => (bd_u1 h0 e0).trans rfl
  | aastore => exact bd_x0 83 hl h fun h0 e0 => (bd_u1 h0 e0).trans rfl
  | aconst_null => exact bd_x0 1 hl h fun h0 e0 => (bd_u1 h0 e0).trans rfl
  | aload k =>
    obtain ⟨h0, h1, e0, e1⟩ := bd_r1_s hl h
    exact bd_fin (n := 2) ((bd_u1 h0 e0).trans ((bd_u1 h1 e1).trans rfl))
  | aload_n k =>
    match k, h with
    | ⟨0, _⟩, h => exact bd_x0 42 hl h fun h0 e0 => (bd_u1 h0 e0).trans rfl
    | ⟨1, _⟩, h => exact bd_x0 43 hl h fun h0 e0 => (bd_u1 h0 e0).trans rfl
    | ⟨2, _⟩, h => exact bd_x0 44 hl h fun h0 e0 => (bd_u1 h0 e0).trans rfl
    | ⟨3, _⟩, h => exact bd_x0 45 hl h fun h0 e0 => (bd_u1 h0 e0).trans rfl
    | ⟨n + 4, hn⟩, _ => exact absurd hn (by omega)
  | anewarray k =>
    obtain ⟨h0, h1, h2, e0, e1⟩ := bd_r2_s hl h
    exact bd_fin (n := 3) ((bd_u1 h0 e0).trans ((bd_u2 h1 h2 e1).trans rfl))
  | areturn => exact bd_x0 176 hl h fun h0 e0 => (bd_u1 h0 e0).trans rfl
  | arraylength => exact bd_x0 190 hl h fun h0 e0 => (bd_u1 h0 e0).trans rfl
  | astore k =>
    obtain ⟨h0, h1, e0, e1⟩ := bd_r1_s hl h
    exact bd_fin (n := 2) ((bd_u1 h0 e0).trans ((bd_u1 h1 e1).trans rfl))
  | astore_n k =>
    match k, h with
    | ⟨0, _⟩, h => exact bd_x0 75 hl h fun h0 e0 => (bd_u1 h0 e0).trans rfl
    | ⟨1, _⟩, h => exact bd_x0 76 hl h fun h0 e0 => (bd_u1 h0 e0).trans rfl
    | ⟨2, _⟩, h => exact bd_x0 77 hl h fun h0 e0 => (bd_u1 h0 e0).trans rfl
    | ⟨3, _⟩, h => exact bd_x0 78 hl h fun h0 e0 => (bd_u1 h0 e0).trans rfl
    | ⟨n + 4, hn⟩, _ => exact absurd hn (by omega)
  | athrow => exact bd_x0 191 hl h fun h0 e0 => (bd_u1 h0 e0).trans rfl
  | baload => exact bd_x0 51 hl h fun h0 e0 => (bd_u1 h0 e0).trans rfl
  | bastore => exact bd_x0 84 hl h fun h0 e0 => (bd_u1 h0 e0).trans rfl
  | bipush k =>
    obtain ⟨h0, h1, e0, e1⟩ := bd_z1_s hl h
    exact bd_fin (n := 2) ((bd_u1 h0 e0).trans ((bd_s1 h1 e1).trans rfl))
  | caload => exact bd_x0 52 hl h fun h0 e0 => (bd_u1 h0 e0).trans rfl
  | castore => exact bd_x0 85 hl h fun h0 e0 => (bd_u1 h0 e0).trans rfl
  | d2f => exact bd_x0 144 hl h fun h0 e0 => (bd_u1 h0 e0).trans rfl
  | d2i => exact bd_x0 142 hl h fun h0 e0 => (bd_u1 h0 e0).trans rfl
  | d2l => exact bd_x0 143 hl h fun h0 e0 => (bd_u1 h0 e0).trans rfl
  | dadd => exact bd_x0 99 hl h fun h0 e0 => (bd_u1 h0 e0).trans rfl
  | daload => exact bd_x0 49 hl h fun h0 e0 => (bd_u1 h0 e0).trans rfl
  | dastore => exact bd_x0 82 hl h fun h0 e0 => (bd_u1 h0 e0).trans rfl
  | dcmp c =>
    cases c with
    | l => exact bd_x0 151 hl h fun h0 e0 => (bd_u1 h0 e0).trans rfl
    | g => exact bd_x0 152 hl h fun h0 e0 => (bd_u1 h0 e0).trans rfl
  | dconst k =>
    match k, h with
    | ⟨0, _⟩, h => exact bd_x0 14 hl h fun h0 e0 => (bd_u1 h0 e0).trans rfl
    | ⟨1, _⟩, h => exact bd_x0 15 hl h fun h0 e0 => (bd_u1 h0 e0).trans rfl
    | ⟨n + 2, hn⟩, _ => exact absurd hn (by omega)
  | ddiv => exact bd_x0 111 hl h fun h0 e0 => (bd_u1 h0 e0).trans rfl
  | dload k =>
    obtain ⟨h0, h1, e0, e1⟩ := bd_r1_s hl h
    exact bd_fin (n := 2) ((bd_u1 h0 e0).trans ((bd_u1 h1 e1).trans rfl))
  | dload_n k =>
    match k, h with
    | ⟨0, _⟩, h => exact bd_x0 38 hl h fun h0 e0 => (bd_u1 h0 e0).trans rfl
    | ⟨1, _⟩, h => exact bd_x0 39 hl h fun h0 e0 => (bd_u1 h0 e0).trans rfl
    | ⟨2, _⟩, h => exact bd_x0 40 hl h fun h0 e0 => (bd_u1 h0 e0).trans rfl
    | ⟨3, _⟩, h => exact bd_x0 41 hl h fun h0 e0 => (bd_u1 h0 e0).trans rfl
    | ⟨n + 4, hn⟩, _ => exact absurd hn (by omega)
  | dmul => exact bd_x0 107 hl h fun h0 e0 => (bd_u1 h0 e0).trans rfl
  | dneg => exact bd_x0 119 hl h fun h0 e0 => (bd_u1 h0 e0).trans rfl
  | drem => exact bd_x0 115 hl h fun h0 e0 => (bd_u1 h0 e0).trans rfl
  | dreturn => exact bd_x0 175 hl h fun h0 e0 => (bd_u1 h0 e0).trans rfl
  | dstore k =>
    obtain ⟨h0, h1, e0, e1⟩ := bd_r1_s hl h
    exact bd_fin (n := 2) ((bd_u1 h0 e0).trans ((bd_u1 h1 e1).trans rfl))
  | dstore_n k =>
    match k, h with
    | ⟨0, _⟩, h => exact bd_x0 71 hl h fun h0 e0 => (bd_u1 h0 e0).trans rfl
    | ⟨1, _⟩, h => exact bd_x0 72 hl h fun h0 e0 => (bd_u1 h0 e0).trans rfl
    | ⟨2, _⟩, h => exact bd_x0 73 hl h fun h0 e0 => (bd_u1 h0 e0).trans rfl
    | ⟨3, _⟩, h => exact bd_x0 74 hl h fun h0 e0 => (bd_u1 h0 e0).trans rfl
    | ⟨n + 4, hn⟩, _ => exact absurd hn (by omega)
  | dsub => exact bd_x0 103 hl h fun h0 e0 => (bd_u1 h0 e0).trans rfl
  | dup => exact bd_x0 89 hl h fun h0 e0 => (bd_u1 h0 e0).trans rfl
  | dup2 => exact bd_x0 92 hl h fun h0 e0 => (bd_u1 h0 e0).trans rfl
  | dup2_x1 => exact bd_x0 93 hl h fun h0 e0 => (bd_u1 h0 e0).trans rfl
  | dup2_x2 => exact bd_x0 94 hl h fun h0 e0 => (bd_u1 h0 e0).trans rfl
  | dup_x1 => exact bd_x0 90 hl h fun h0 e0 => (bd_u1 h0 e0).trans rfl
  | dup_x2 => exact bd_x0 91 hl h fun h0 e0 => (bd_u1 h0 e0).trans rfl
  | f2d => exact bd_x0 141 hl h fun h0 e0 => (bd_u1 h0 e0).trans rfl
  | f2i => exact bd_x0 139 hl h fun h0 e0 => (bd_u1 h0 e0).trans rfl
  | f2l => exact bd_x0 140 hl h fun h0 e0 => (bd_u1 h0 e0).trans rfl
  | fadd => exact bd_x0 98 hl h fun h0 e0 => (bd_u1 h0 e0).trans rfl
  | faload => exact bd_x0 48 hl h fun h0 e0 => (bd_u1 h0 e0).trans rfl
  | fastore => exact bd_x0 81 hl h fun h0 e0 => (bd_u1 h0 e0).trans rfl
  | fcmp c =>
    cases c with
    | l => exact bd_x0 149 hl h fun h0 e0 => (bd_u1 h0 e0).trans rfl
    | g => exact bd_x0 150 hl h fun h0 e0 => (bd_u1 h0 e0).trans rfl
  | fconst k =>
    match k, h with
    | ⟨0, _⟩, h => exact bd_x0 11 hl h fun h0 e0 => (bd_u1 h0 e0).trans rfl
    | ⟨1, _⟩, h => exact bd_x0 12 hl h fun h0 e0 => (bd_u1 h0 e0).trans rfl
    | ⟨2, _⟩, h => exact bd_x0 13 hl h fun h0 e0 => (bd_u1 h0 e0).trans rfl
    | ⟨n + 3, hn⟩, _ => exact absurd hn (by omega)
  | fdiv => exact bd_x0 110 hl h fun h0 e0 => (bd_u1 h0 e0).trans rfl
  | fload_n k =>
    match k, h with
    | ⟨0, _⟩, h => exact bd_x0 34 hl h fun h0 e0 => (bd_u1 h0 e0).trans rfl
    | ⟨1, _⟩, h => exact bd_x0 35 hl h fun h0 e0 => (bd_u1 h0 e0).trans rfl
    | ⟨2, _⟩, h => exact bd_x0 36 hl h fun h0 e0 => (bd_u1 h0 e0).trans rfl
    | ⟨3, _⟩, h => exact bd_x0 37 hl h fun h0 e0 => (bd_u1 h0 e0).trans rfl
    | ⟨n + 4, hn⟩, _ => exact absurd hn (by omega)
  | fmul => exact bd_x0 106 hl h fun h0 e0 => (bd_u1 h0 e0).trans rfl
  | fneg => exact bd_x0 118 hl h fun h0 e0 => (bd_u1 h0 e0).trans rfl
  | frem => exact bd_x0 114 hl h fun h0 e0 => (bd_u1 h0 e0).trans rfl
  | freturn => exact bd_x0 174 hl h fun h0 e0 => (bd_u1 h0 e0).trans rfl
  | fstore_n k =>
    match k, h with
    | ⟨0, _⟩, h => exact bd_x0 67 hl h fun h0 e0 => (bd_u1 h0 e0).trans rfl
    | ⟨1, _⟩, h => exact bd_x0 68 hl h fun h0 e0 => (bd_u1 h0 e0).trans rfl
    | ⟨2, _⟩, h => exact bd_x0 69 hl h fun h0 e0 => (bd_u1 h0 e0).trans rfl
    | ⟨3, _⟩, h => exact bd_x0 70 hl h fun h0 e0 => (bd_u1 h0 e0).trans rfl
    | ⟨n + 4, hn⟩, _ => exact absurd hn (by omega)
  | fsub => exact bd_x0 102 hl h fun h0 e0 => (bd_u1 h0 e0).trans rfl
  | getfield k =>
    obtain ⟨h0, h1, h2, e0, e1⟩ := bd_r2_s hl h
    exact bd_fin (n := 3) ((bd_u1 h0 e0).trans ((bd_u2 h1 h2 e1).trans rfl))
  | getstatic k =>
    obtain ⟨h0, h1, h2, e0, e1⟩ := bd_r2_s hl h
    exact bd_fin (n := 3) ((bd_u1 h0 e0).trans ((bd_u2 h1 h2 e1).trans rfl))
  | goto k =>
    obtain ⟨h0, h1, h2, e0, e1⟩ := bd_z2_s hl h
    exact bd_fin (n := 3) ((bd_u1 h0 e0).trans ((bd_s2 h1 h2 e1).trans rfl))
  | i2b => exact bd_x0 145 hl h fun h0 e0 => (bd_u1 h0 e0).trans rfl
  | i2c => exact bd_x0 146 hl h fun h0 e0 => (bd_u1 h0 e0).trans rfl
  | i2d => exact bd_x0 135 hl h fun h0 e0 => (bd_u1 h0 e0).trans rfl
  | i2f => exact bd_x0 134 hl h fun h0 e0 => (bd_u1 h0 e0).trans rfl
  | i2l => exact bd_x0 133 hl h fun h0 e0 => (bd_u1 h0 e0).trans rfl
  | i2s => exact bd_x0 147 hl h fun h0 e0 => (bd_u1 h0 e0).trans rfl
  | iadd => exact bd_x0 96 hl h fun h0 e0 => (bd_u1 h0 e0).trans rfl
  | iaload => exact bd_x0 46 hl h fun h0 e0 => (bd_u1 h0 e0).trans rfl
  | iand => exact bd_x0 126 hl h fun h0 e0 => (bd_u1 h0 e0).trans rfl
  | iastore => exact bd_x0 79 hl h fun h0 e0 => (bd_u1 h0 e0).trans rfl
  | iconst k =>
    obtain ⟨a, b⟩ := Bool.and_eq_true_iff.mp h
    obtain ⟨b, h⟩ := Bool.and_eq_true_iff.mp b
    have a := of_decide_eq_true a
    have b := of_decide_eq_true b
    have q : k = -1 ∨ k = 0 ∨ k = 1 ∨ k = 2 ∨ k = 3 ∨ k = 4 ∨ k = 5 := by omega
    rcases q with rfl | rfl | rfl | rfl | rfl | rfl | rfl
    · exact bd_x0 2 hl h fun h0 e0 => (bd_u1 h0 e0).trans rfl
    · exact bd_x0 3 hl h fun h0 e0 => (bd_u1 h0 e0).trans rfl
    · exact bd_x0 4 hl h fun h0 e0 => (bd_u1 h0 e0).trans rfl
    · exact bd_x0 5 hl h fun h0 e0 => (bd_u1 h0 e0).trans rfl
    · exact bd_x0 6 hl h fun h0 e0 => (bd_u1 h0 e0).trans rfl
    · exact bd_x0 7 hl h fun h0 e0 => (bd_u1 h0 e0).trans rfl
    · exact bd_x0 8 hl h fun h0 e0 => (bd_u1 h0 e0).trans rfl
  | idiv => exact bd_x0 108 hl h fun h0 e0 => (bd_u1 h0 e0).trans rfl
  | ifCond c k =>
    cases c with
    | eq =>
      obtain ⟨h0, h1, h2, e0, e1⟩ := bd_z2_s (o := 153) hl h
      exact bd_fin (n := 3) ((bd_u1 h0 e0).trans ((bd_s2 h1 h2 e1).trans rfl))
    | ne =>
      obtain ⟨h0, h1, h2, e0, e1⟩ := bd_z2_s (o := 154) hl h
      exact bd_fin (n := 3) ((bd_u1 h0 e0).trans ((bd_s2 h1 h2 e1).trans rfl))
    | lt =>
      obtain ⟨h0, h1, h2, e0, e1⟩ := bd_z2_s (o := 155) hl h
      exact bd_fin (n := 3) ((bd_u1 h0 e0).trans ((bd_s2 h1 h2 e1).trans rfl))
    | ge =>
      obtain ⟨h0, h1, h2, e0, e1⟩ := bd_z2_s (o := 156) hl h
      exact bd_fin (n := 3) ((bd_u1 h0 e0).trans ((bd_s2 h1 h2 e1).trans rfl))
    | gt =>
      obtain ⟨h0, h1, h2, e0, e1⟩ := bd_z2_s (o := 157) hl h
      exact bd_fin (n := 3) ((bd_u1 h0 e0).trans ((bd_s2 h1 h2 e1).trans rfl))
    | le =>
      obtain ⟨h0, h1, h2, e0, e1⟩ := bd_z2_s (o := 158) hl h
      exact bd_fin (n := 3) ((bd_u1 h0 e0).trans ((bd_s2 h1 h2 e1).trans rfl))
  | if_icmp c k =>
    cases c with
    | eq =>
      obtain ⟨h0, h1, h2, e0, e1⟩ := bd_z2_s (o := 159) hl h
      exact bd_fin (n := 3) ((bd_u1 h0 e0).trans ((bd_s2 h1 h2 e1).trans rfl))
    | ne =>
      obtain ⟨h0, h1, h2, e0, e1⟩ := bd_z2_s (o := 160) hl h
      exact bd_fin (n := 3) ((bd_u1 h0 e0).trans ((bd_s2 h1 h2 e1).trans rfl))
    | lt =>
      obtain ⟨h0, h1, h2, e0, e1⟩ := bd_z2_s (o := 161) hl h
      exact bd_fin (n := 3) ((bd_u1 h0 e0).trans ((bd_s2 h1 h2 e1).trans rfl))
    | ge =>
      obtain ⟨h0, h1, h2, e0, e1⟩ := bd_z2_s (o := 162) hl h
      exact bd_fin (n := 3) ((bd_u1 h0 e0).trans ((bd_s2 h1 h2 e1).trans rfl))
    | gt =>
      obtain ⟨h0, h1, h2, e0, e1⟩ := bd_z2_s (o := 163) hl h
      exact bd_fin (n := 3) ((bd_u1 h0 e0).trans ((bd_s2 h1 h2 e1).trans rfl))
    | le =>
      obtain ⟨h0, h1, h2, e0, e1⟩ := bd_z2_s (o := 164) hl h
      exact bd_fin (n := 3) ((bd_u1 h0 e0).trans ((bd_s2 h1 h2 e1).trans rfl))
  | iinc k v =>
    obtain ⟨h0, h1, h2, e0, e1, e2⟩ := bd_ii_s hl h
    exact bd_fin (n := 3) ((bd_u1 h0 e0).trans ((bd_u1 h1 e1).trans ((bd_s1 h2 e2).trans rfl)))
  | iload k =>
    obtain ⟨h0, h1, e0, e1⟩ := bd_r1_s hl h
    exact bd_fin (n := 2) ((bd_u1 h0 e0).trans ((bd_u1 h1 e1).trans rfl))
  | iload_n k =>
    match k, h with
    | ⟨0, _⟩, h => exact bd_x0 26 hl h fun h0 e0 => (bd_u1 h0 e0).trans rfl
    | ⟨1, _⟩, h => exact bd_x0 27 hl h fun h0 e0 => (bd_u1 h0 e0).trans rfl
    | ⟨2, _⟩, h => exact bd_x0 28 hl h fun h0 e0 => (bd_u1 h0 e0).trans rfl
    | ⟨3, _⟩, h => exact bd_x0 29 hl h fun h0 e0 => (bd_u1 h0 e0).trans rfl
    | ⟨n + 4, hn⟩, _ => exact absurd hn (by omega)
  | imul => exact bd_x0 104 hl h fun h0 e0 => (bd_u1 h0 e0).trans rfl
  | ineg => exact bd_x0 116 hl h fun h0 e0 => (bd_u1 h0 e0).trans rfl
  | invokespecial k =>
    obtain ⟨h0, h1, h2, e0, e1⟩ := bd_r2_s hl h
    exact bd_fin (n := 3) ((bd_u1 h0 e0).trans ((bd_u2 h1 h2 e1).trans rfl))
  | invokestatic k =>
    obtain ⟨h0, h1, h2, e0, e1⟩ := bd_r2_s hl h
    exact bd_fin (n := 3) ((bd_u1 h0 e0).trans ((bd_u2 h1 h2 e1).trans rfl))
  | invokevirtual k =>
    obtain ⟨h0, h1, h2, e0, e1⟩ := bd_r2_s hl h
    exact bd_fin (n := 3) ((bd_u1 h0 e0).trans ((bd_u2 h1 h2 e1).trans rfl))
  | ior => exact bd_x0 128 hl h fun h0 e0 => (bd_u1 h0 e0).trans rfl
  | irem => exact bd_x0 112 hl h fun h0 e0 => (bd_u1 h0 e0).trans rfl
  | ireturn => exact bd_x0 172 hl h fun h0 e0 => (bd_u1 h0 e0).trans rfl
  | ishl => exact bd_x0 120 hl h fun h0 e0 => (bd_u1 h0 e0).trans rfl
  | ishr => exact bd_x0 122 hl h fun h0 e0 => (bd_u1 h0 e0).trans rfl
  | istore k =>
    obtain ⟨h0, h1, e0, e1⟩ := bd_r1_s hl h
    exact bd_fin (n := 2) ((bd_u1 h0 e0).trans ((bd_u1 h1 e1).trans rfl))
  | istore_n k =>
    match k, h with
    | ⟨0, _⟩, h => exact bd_x0 59 hl h fun h0 e0 => (bd_u1 h0 e0).trans rfl
    | ⟨1, _⟩, h => exact bd_x0 60 hl h fun h0 e0 => (bd_u1 h0 e0).trans rfl
    | ⟨2, _⟩, h => exact bd_x0 61 hl h fun h0 e0 => (bd_u1 h0 e0).trans rfl
    | ⟨3, _⟩, h => exact bd_x0 62 hl h fun h0 e0 => (bd_u1 h0 e0).trans rfl
    | ⟨n + 4, hn⟩, _ => exact absurd hn (by omega)
  | isub => exact bd_x0 100 hl h fun h0 e0 => (bd_u1 h0 e0).trans rfl
  | iushr => exact bd_x0 124 hl h fun h0 e0 => (bd_u1 h0 e0).trans rfl
  | ixor => exact bd_x0 130 hl h fun h0 e0 => (bd_u1 h0 e0).trans rfl
  | l2d => exact bd_x0 138 hl h fun h0 e0 => (bd_u1 h0 e0).trans rfl
  | l2f => exact bd_x0 137 hl h fun h0 e0 => (bd_u1 h0 e0).trans rfl
  | l2i => exact bd_x0 136 hl h fun h0 e0 => (bd_u1 h0 e0).trans rfl
  | ladd => exact bd_x0 97 hl h fun h0 e0 => (bd_u1 h0 e0).trans rfl
  | laload => exact bd_x0 47 hl h fun h0 e0 => (bd_u1 h0 e0).trans rfl
  | land => exact bd_x0 127 hl h fun h0 e0 => (bd_u1 h0 e0).trans rfl
  | lastore => exact bd_x0 80 hl h fun h0 e0 => (bd_u1 h0 e0).trans rfl
  | lcmp => exact bd_x0 148 hl h fun h0 e0 => (bd_u1 h0 e0).trans rfl
  | lconst k =>
    match k, h with
    | ⟨0, _⟩, h => exact bd_x0 9 hl h fun h0 e0 => (bd_u1 h0 e0).trans rfl
    | ⟨1, _⟩, h => exact bd_x0 10 hl h fun h0 e0 => (bd_u1 h0 e0).trans rfl
    | ⟨n + 2, hn⟩, _ => exact absurd hn (by omega)
  | ldc k =>
    obtain ⟨h0, h1, e0, e1⟩ := bd_r1_s hl h
    exact bd_fin (n := 2) ((bd_u1 h0 e0).trans ((bd_u1 h1 e1).trans rfl))
  | ldc2_w k =>
    obtain ⟨h0, h1, h2, e0, e1⟩ := bd_r2_s hl h
    exact bd_fin (n := 3) ((bd_u1 h0 e0).trans ((bd_u2 h1 h2 e1).trans rfl))
  | ldc_w k =>
    obtain ⟨h0, h1, h2, e0, e1⟩ := bd_r2_s hl h
    exact bd_fin (n := 3) ((bd_u1 h0 e0).trans ((bd_u2 h1 h2 e1).trans rfl))
  | ldiv => exact bd_x0 109 hl h fun h0 e0 => (bd_u1 h0 e0).trans rfl
  | lload k =>
    obtain ⟨h0, h1, e0, e1⟩ := bd_r1_s hl h
    exact bd_fin (n := 2) ((bd_u1 h0 e0).trans ((bd_u1 h1 e1).trans rfl))
  | lload_n k =>
    match k, h with
    | ⟨0, _⟩, h => exact bd_x0 30 hl h fun h0 e0 => (bd_u1 h0 e0).trans rfl
    | ⟨1, _⟩, h => exact bd_x0 31 hl h fun h0 e0 => (bd_u1 h0 e0).trans rfl
    | ⟨2, _⟩, h => exact bd_x0 32 hl h fun h0 e0 => (bd_u1 h0 e0).trans rfl
    | ⟨3, _⟩, h => exact bd_x0 33 hl h fun h0 e0 => (bd_u1 h0 e0).trans rfl
    | ⟨n + 4, hn⟩, _ => exact absurd hn (by omega)
  | lmul => exact bd_x0 105 hl h fun h0 e0 => (bd_u1 h0 e0).trans rfl
  | lneg => exact bd_x0 117 hl h fun h0 e0 => (bd_u1 h0 e0).trans rfl
  | lor => exact bd_x0 129 hl h fun h0 e0 => (bd_u1 h0 e0).trans rfl
  | lrem => exact bd_x0 113 hl h fun h0 e0 => (bd_u1 h0 e0).trans rfl
  | lreturn => exact bd_x0 173 hl h fun h0 e0 => (bd_u1 h0 e0).trans rfl
  | lshl => exact bd_x0 121 hl h fun h0 e0 => (bd_u1 h0 e0).trans rfl
  | lshr => exact bd_x0 123 hl h fun h0 e0 => (bd_u1 h0 e0).trans rfl
  | lstore k =>
    obtain ⟨h0, h1, e0, e1⟩ := bd_r1_s hl h
    exact bd_fin (n := 2) ((bd_u1 h0 e0).trans ((bd_u1 h1 e1).trans rfl))
  | lstore_n k =>
    match k, h with
    | ⟨0, _⟩, h => exact bd_x0 63 hl h fun h0 e0 => (bd_u1 h0 e0).trans rfl
    | ⟨1, _⟩, h => exact bd_x0 64 hl h fun h0 e0 => (bd_u1 h0 e0).trans rfl
    | ⟨2, _⟩, h => exact bd_x0 65 hl h fun h0 e0 => (bd_u1 h0 e0).trans rfl
    | ⟨3, _⟩, h => exact bd_x0 66 hl h fun h0 e0 => (bd_u1 h0 e0).trans rfl
    | ⟨n + 4, hn⟩, _ => exact absurd hn (by omega)
  | lsub => exact bd_x0 101 hl h fun h0 e0 => (bd_u1 h0 e0).trans rfl
  | lushr => exact bd_x0 125 hl h fun h0 e0 => (bd_u1 h0 e0).trans rfl
  | lxor => exact bd_x0 131 hl h fun h0 e0 => (bd_u1 h0 e0).trans rfl
  | monitorenter => exact bd_x0 194 hl h fun h0 e0 => (bd_u1 h0 e0).trans rfl
  | monitorexit => exact bd_x0 195 hl h fun h0 e0 => (bd_u1 h0 e0).trans rfl
  | new k =>
    obtain ⟨h0, h1, h2, e0, e1⟩ := bd_r2_s hl h
    exact bd_fin (n := 3) ((bd_u1 h0 e0).trans ((bd_u2 h1 h2 e1).trans rfl))
  | newarray t =>
    cases t with
    | boolean =>
      obtain ⟨h0, h1, e0, e1⟩ := bd_r1_s (k := 4) hl h
      exact bd_fin (n := 2) ((bd_u1 h0 e0).trans ((bd_u1 h1 e1).trans rfl))
    | char =>
      obtain ⟨h0, h1, e0, e1⟩ := bd_r1_s (k := 5) hl h
      exact bd_fin (n := 2) ((bd_u1 h0 e0).trans ((bd_u1 h1 e1).trans rfl))
    | float =>
      obtain ⟨h0, h1, e0, e1⟩ := bd_r1_s (k := 6) hl h
      exact bd_fin (n := 2) ((bd_u1 h0 e0).trans ((bd_u1 h1 e1).trans rfl))
    | double =>
      obtain ⟨h0, h1, e0, e1⟩ := bd_r1_s (k := 7) hl h
      exact bd_fin (n := 2) ((bd_u1 h0 e0).trans ((bd_u1 h1 e1).trans rfl))
    | byte =>
      obtain ⟨h0, h1, e0, e1⟩ := bd_r1_s (k := 8) hl h
      exact bd_fin (n := 2) ((bd_u1 h0 e0).trans ((bd_u1 h1 e1).trans rfl))
    | short =>
      obtain ⟨h0, h1, e0, e1⟩ := bd_r1_s (k := 9) hl h
      exact bd_fin (n := 2) ((bd_u1 h0 e0).trans ((bd_u1 h1 e1).trans rfl))
    | int =>
      obtain ⟨h0, h1, e0, e1⟩ := bd_r1_s (k := 10) hl h
      exact bd_fin (n := 2) ((bd_u1 h0 e0).trans ((bd_u1 h1 e1).trans rfl))
    | long =>
      obtain ⟨h0, h1, e0, e1⟩ := bd_r1_s (k := 11) hl h
      exact bd_fin (n := 2) ((bd_u1 h0 e0).trans ((bd_u1 h1 e1).trans rfl))
  | nop => exact bd_x0 0 hl h fun h0 e0 => (bd_u1 h0 e0).trans rfl
  | pop => exact bd_x0 87 hl h fun h0 e0 => (bd_u1 h0 e0).trans rfl
  | pop2 => exact bd_x0 88 hl h fun h0 e0 => (bd_u1 h0 e0).trans rfl
  | putfield k =>
    obtain ⟨h0, h1, h2, e0, e1⟩ := bd_r2_s hl h
    exact bd_fin (n := 3) ((bd_u1 h0 e0).trans ((bd_u2 h1 h2 e1).trans rfl))
  | return_ => exact bd_x0 177 hl h fun h0 e0 => (bd_u1 h0 e0).trans rfl
  | saload => exact bd_x0 53 hl h fun h0 e0 => (bd_u1 h0 e0).trans rfl
  | sastore => exact bd_x0 86 hl h fun h0 e0 => (bd_u1 h0 e0).trans rfl
  | sipush k =>
    obtain ⟨h0, h1, h2, e0, e1⟩ := bd_z2_s hl h
    exact bd_fin (n := 3) ((bd_u1 h0 e0).trans ((bd_s2 h1 h2 e1).trans rfl))
  | swap => exact bd_x0 95 hl h fun h0 e0 => (bd_u1 h0 e0).trans rfl
  | _ => cases h
/-- the switches, by the decoder itself -/
def bd_sw (code : ByteArray) (p : Nat) (op : Jvm.ClassFile.Instr) : Bool := Nat.beq (iv_n op) 0 && match decode code p with
  | .ok q => decide (q.1 = op)
  | _ => false
/-- a method's table beside its bytes -/
def bd_tw (code : ByteArray) : (n : Nat) → iv_Tr Jvm.ClassFile.Instr n → List UInt8 → Nat → Bool
  | 0, t, l, p => match (show Option Jvm.ClassFile.Instr from t) with
    | none => true
    | some op => bd_rl op l || bd_sw code p op
  | n + 1, t, l, p => match l with
    | [] => true
    | _ :: _ => bd_tw code n (Prod.fst t) l p && bd_tw code n (Prod.snd t) (l.drop (2 ^ n)) (p + 2 ^ n)
theorem bd_tw_s {code : ByteArray} : ∀ (n : Nat) (t : iv_Tr Jvm.ClassFile.Instr n) (l : List UInt8) (p k : Nat) (op : Jvm.ClassFile.Instr), k < 2 ^ n → k < l.length → bd_tw code n t l p = true → iv_tl n t k = some op → (bd_rl op (l.drop k) || bd_sw code (p + k) op) = true := by
  intro n
  induction n with
  | zero =>
    intro t l p k op hk hl h e
    have k0 : k = 0 := by simpa using hk
    subst k0
    have e' : (show Option Jvm.ClassFile.Instr from t) = some op := e
    unfold bd_tw at h
    rw [e'] at h
    exact h
  | succ n ih =>
    intro t l p k op hk hl h e
    cases l with
    | nil => exact absurd hl (Nat.not_lt_zero _)
    | cons a l =>
      have h' : bd_tw code n (Prod.fst t) (a :: l) p = true ∧ bd_tw code n (Prod.snd t) ((a :: l).drop (2 ^ n)) (p + 2 ^ n) = true := Bool.and_eq_true_iff.mp h
      have e' : (bif Nat.ble (2 ^ n) k then iv_tl n (Prod.snd t) (k - 2 ^ n) else iv_tl n (Prod.fst t) k) = some op := e
      rw [Nat.pow_succ] at hk
      cases q : Nat.ble (2 ^ n) k with
      | true =>
        have q1 := Nat.le_of_ble_eq_true q
        rw [q] at e'
        have r := ih (Prod.snd t) ((a :: l).drop (2 ^ n)) (p + 2 ^ n) (k - 2 ^ n) op (by omega) (by rw [List.length_drop]; omega) h'.2 e'
        have d : ((a :: l).drop (2 ^ n)).drop (k - 2 ^ n) = (a :: l).drop k := by
          rw [List.drop_drop]
          congr 1
          omega
        rw [d, show p + 2 ^ n + (k - 2 ^ n) = p + k by omega] at r
        exact r
      | false =>
        have q1 := iv_blt q
        rw [q] at e'
        exact ih (Prod.fst t) (a :: l) p k op q1 hl h'.1 e'
def bd_t8 : (m : Nat) → iv_Tr Jvm.ClassFile.Instr (11 + m) → Nat → Bool
  | 0, t, i => bd_tw (iv_by i) 11 t (iv_by i).data.toList 0 && Nat.ble (iv_ln i) (iv_by i).data.toList.length
  | m + 1, t, i => bd_t8 m (Prod.fst (show iv_Tr Jvm.ClassFile.Instr (11 + m) × iv_Tr Jvm.ClassFile.Instr (11 + m) from t)) i && bd_t8 m (Prod.snd (show iv_Tr Jvm.ClassFile.Instr (11 + m) × iv_Tr Jvm.ClassFile.Instr (11 + m) from t)) (i + 2 ^ m)
theorem bd_t8_s : ∀ (m : Nat) (t : iv_Tr Jvm.ClassFile.Instr (11 + m)) (i k p : Nat) (op : Jvm.ClassFile.Instr), k < 2 ^ m → p < 2048 → p < iv_ln (i + k) → bd_t8 m t i = true → iv_tl (11 + m) t (2048 * k + p) = some op → (bd_rl op ((iv_by (i + k)).data.toList.drop p) || bd_sw (iv_by (i + k)) p op) = true := by
  intro m
  induction m with
  | zero =>
    intro t i k p op hk hp hl h e
    have k0 : k = 0 := by simpa using hk
    subst k0
    obtain ⟨h1, h2⟩ : bd_tw (iv_by i) 11 t (iv_by i).data.toList 0 = true ∧ Nat.ble (iv_ln i) (iv_by i).data.toList.length = true := Bool.and_eq_true_iff.mp h
    have h2 := Nat.le_of_ble_eq_true h2
    rw [show 2048 * 0 + p = p by omega] at e
    have r := bd_tw_s 11 t (iv_by i).data.toList 0 p op hp (by rw [Nat.add_zero] at hl; omega) h1 e
    rw [Nat.zero_add] at r
    exact r
  | succ m ih =>
    intro t i k p op hk hp hl h e
    have h' : bd_t8 m (Prod.fst (show iv_Tr Jvm.ClassFile.Instr (11 + m) × iv_Tr Jvm.ClassFile.Instr (11 + m) from t)) i = true ∧ bd_t8 m (Prod.snd (show iv_Tr Jvm.ClassFile.Instr (11 + m) × iv_Tr Jvm.ClassFile.Instr (11 + m) from t)) (i + 2 ^ m) = true := Bool.and_eq_true_iff.mp h
    have e' : (bif Nat.ble (2 ^ (11 + m)) (2048 * k + p) then iv_tl (11 + m) (Prod.snd (show iv_Tr Jvm.ClassFile.Instr (11 + m) × iv_Tr Jvm.ClassFile.Instr (11 + m) from t)) (2048 * k + p - 2 ^ (11 + m)) else iv_tl (11 + m) (Prod.fst (show iv_Tr Jvm.ClassFile.Instr (11 + m) × iv_Tr Jvm.ClassFile.Instr (11 + m) from t)) (2048 * k + p)) = some op := e
    have ep : 2 ^ (11 + m) = 2048 * 2 ^ m := Nat.pow_add 2 11 m
    rw [Nat.pow_succ] at hk
    rw [ep] at e'
    generalize hP : 2 ^ m = P at hk e' h' ih
    cases q : Nat.ble (2048 * P) (2048 * k + p) with
    | true =>
      have q1 := Nat.le_of_ble_eq_true q
      rw [q] at e'
      have e2 : 2048 * k + p - 2048 * P = 2048 * (k - P) + p := by omega
      have e3 : i + P + (k - P) = i + k := by omega
      have r := ih _ (i + P) (k - P) p op (by omega) hp (by rw [e3]; exact hl) h'.2 (by rw [← e2]; exact e')
      rw [e3] at r
      exact r
    | false =>
      have q1 := iv_blt q
      rw [q] at e'
      exact ih _ i k p op (by omega) hp hl h'.1 e'
set_option maxRecDepth 1000000 in
theorem bd_all : bd_t8 8 (show iv_Tr Jvm.ClassFile.Instr (11 + 8) from iv_cdT) 0 = true := by decide +kernel
