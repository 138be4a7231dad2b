/-! NORMAL DOUBLES by their bits (e: the exponent as it is stored, T: the tail): halved, doubled, compared -/
def NB (x : UInt64) (e T : Nat) : Prop := x.toNat = e * 4503599627370496 + T ∧ 1 ≤ e ∧ e ≤ 2046 ∧ T < 4503599627370496
theorem NB_ex {e T : Nat} (h1 : 1 ≤ e) (h2 : e ≤ 2046) (hT : T < 4503599627370496) : ∃ y : UInt64, NB y e T := ⟨UInt64.ofNat (e * 4503599627370496 + T), UInt64.toNat_ofNat_of_lt' (by show _ < 18446744073709551616; omega), h1, h2, hT⟩
theorem NB_v {x : UInt64} {e T : Nat} (h : NB x e T) : Jvm.FP.Core.val64 x = .fin false (4503599627370496 + T) ((e : Int) - 1075) := by
  obtain ⟨h0, h1, h2, hT⟩ := h
  have k := Jvm.FP.Core.decode_assemble Jvm.FP.Core.b64 false e T (show e < 2048 by omega) (show T < 4503599627370496 from hT)
  have ea : Jvm.FP.Core.assemble Jvm.FP.Core.b64 false e T = x.toNat := by
    rw [h0]
    show (0 * 2048 + e) * 4503599627370496 + T = _
    rw [Nat.zero_mul, Nat.zero_add]
  have n1 : ¬ e = Jvm.FP.Core.b64.exps - 1 := by
    show ¬ e = 2048 - 1
    omega
  rw [ea, if_neg n1, if_neg (show ¬ e = 0 by omega)] at k
  show Jvm.FP.Core.decode Jvm.FP.Core.b64 x.toNat = _
  rw [k]
  show Jvm.FP.Core.Datum.fin false (4503599627370496 + T) (-1074 + ((e : Int) - 1)) = _
  rw [show (-1074 + ((e : Int) - 1)) = (e : Int) - 1075 by omega]
theorem NB_nn {x : UInt64} {e T : Nat} (h : NB x e T) : Jvm.FP.Core.val64 x ≠ .nan := by
  rw [NB_v h]
  exact Jvm.FP.Core.Datum.noConfusion
theorem NB_no {x : UInt64} {e T : Nat} (h : NB x e T) : Jvm.Free.Fl.NoNaN64 x := by
  obtain ⟨h0, h1, h2, hT⟩ := h
  rw [Jvm.Free.Fl.noNaN64_iff]
  omega
theorem v_two : Jvm.FP.Core.val64 4611686018427387904 = .fin false 4503599627370496 (-51) := by decide +kernel
theorem v_one : Jvm.FP.Core.val64 FP.dconst1 = .fin false 4503599627370496 (-52) := by decide +kernel
theorem NB_half {x : UInt64} {e T : Nat} (h : NB x e T) (h2 : 2 ≤ e) : NB (FP.ddiv x 4611686018427387904) (e - 1) T := by
  obtain ⟨h0, h1, h3, hT⟩ := id h
  obtain ⟨y, hy⟩ := NB_ex (e := e - 1) (T := T) (by omega) (by omega) hT
  have e2 := NB_v hy
  have f := Jvm.FP.Core.val64_fits y
  rw [e2] at f
  have k : Jvm.FP.Core.val64 (Jvm.FP.Core.ddiv x 4611686018427387904) = Jvm.FP.Core.val64 y := by
    rw [Jvm.FP.Core.val64_ddiv, NB_v h, v_two, e2]
    show (if (4503599627370496 : Nat) = 0 then (if 4503599627370496 + T = 0 then Jvm.FP.Core.Datum.nan else .inf (false != false)) else Jvm.FP.Core.roundRatio Jvm.FP.Core.b64 (false != false) (4503599627370496 + T) 4503599627370496 ((e : Int) - 1075 - -51)) = _
    rw [if_neg (by decide)]
    refine Jvm.FP.Core.roundRatio_exact Jvm.FP.Core.good_b64 (by decide) f ?_
    rw [show ((e : Int) - 1075 - -51 - (((e - 1 : Nat) : Int) - 1075)).toNat = 52 by omega, show ((((e - 1 : Nat) : Int) - 1075) - ((e : Int) - 1075 - -51)).toNat = 0 by omega]
    omega
  have q : FP.ddiv x 4611686018427387904 = y := Jvm.FP.Core.val64_inj (by rw [k]; exact NB_nn hy) k
  rw [q]
  exact hy
theorem NB_dbl {x : UInt64} {e T : Nat} (h : NB x e T) (h2 : e ≤ 2045) : NB (FP.dmul x 4611686018427387904) (e + 1) T := by
  obtain ⟨h0, h1, h3, hT⟩ := id h
  obtain ⟨y, hy⟩ := NB_ex (e := e + 1) (T := T) (by omega) (by omega) hT
  have e2 := NB_v hy
  have f := Jvm.FP.Core.val64_fits y
  rw [e2] at f
  have k : Jvm.FP.Core.val64 (Jvm.FP.Core.dmul x 4611686018427387904) = Jvm.FP.Core.val64 y := by
    rw [Jvm.FP.Core.val64_dmul, NB_v h, v_two, e2]
    show Jvm.FP.Core.roundRatio Jvm.FP.Core.b64 (false != false) ((4503599627370496 + T) * 4503599627370496) 1 ((e : Int) - 1075 + -51) = _
    refine Jvm.FP.Core.roundRatio_exact Jvm.FP.Core.good_b64 (by decide) f ?_
    rw [show ((e : Int) - 1075 + -51 - (((e + 1 : Nat) : Int) - 1075)).toNat = 0 by omega, show ((((e + 1 : Nat) : Int) - 1075) - ((e : Int) - 1075 + -51)).toNat = 52 by omega]
    omega
  have q : FP.dmul x 4611686018427387904 = y := Jvm.FP.Core.val64_inj (by rw [k]; exact NB_nn hy) k
  rw [q]
  exact hy
theorem cv_ (a b : Int) (op : CmpOp) : (Op.cmpValue (some (compare a b)) op).toInt = if a < b then -1 else if a = b then 0 else 1 := by
  by_cases h1 : a < b
  · rw [if_pos h1, Int.compare_eq_lt.mpr h1]
    rfl
  · by_cases h2 : a = b
    · rw [if_neg h1, if_pos h2, Int.compare_eq_eq.mpr h2]
      rfl
    · rw [if_neg h1, if_neg h2, Int.compare_eq_gt.mpr (by omega)]
      rfl
theorem NB_key {x : UInt64} {e T : Nat} (h : NB x e T) : Jvm.FP.Core.dkey x = ((e * 4503599627370496 + T : Nat) : Int) := by
  obtain ⟨h0, h1, h2, hT⟩ := h
  unfold Jvm.FP.Core.dkey
  rw [if_neg (by show ¬ 9223372036854775808 ≤ x.toNat; omega), h0]
theorem NB_c2 {x : UInt64} {e T : Nat} (h : NB x e T) (op : CmpOp) : ((Op.cmpValue (FP.dcmp x 4611686018427387904) op).toInt < 0 ↔ e < 1024) := by
  obtain ⟨h0, h1, h2, hT⟩ := id h
  have k : FP.dcmp x 4611686018427387904 = _ := Jvm.FP.Core.dcmp_key (NB_nn h) (by rw [v_two]; exact Jvm.FP.Core.Datum.noConfusion)
  have k2 : Jvm.FP.Core.dkey 4611686018427387904 = 4611686018427387904 := by decide +kernel
  rw [k, NB_key h, k2, cv_]
  split
  · omega
  · split <;> omega
theorem NB_c1 {x : UInt64} {e T : Nat} (h : NB x e T) (op : CmpOp) : (0 ≤ (Op.cmpValue (FP.dcmp x FP.dconst1) op).toInt ↔ 1023 ≤ e) := by
  obtain ⟨h0, h1, h2, hT⟩ := id h
  have k : FP.dcmp x FP.dconst1 = _ := Jvm.FP.Core.dcmp_key (NB_nn h) (by rw [v_one]; exact Jvm.FP.Core.Datum.noConfusion)
  have k2 : Jvm.FP.Core.dkey FP.dconst1 = 4607182418800017408 := by decide +kernel
  rw [k, NB_key h, k2, cv_]
  split
  · omega
  · split <;> omega
