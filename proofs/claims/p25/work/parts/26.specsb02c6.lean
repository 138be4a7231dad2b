/-! FLOOR of a number that is not below 0: its whole part -/
theorem v_half : Jvm.FP.Core.val64 4602678819172646912 = .fin false 4503599627370496 (-53) := by decide +kernel
theorem NB_by {x : UInt64} {e T : Nat} (h : NB x e T) (h2 : e ≤ 2045) : NB (FP.ddiv x 4602678819172646912) (e + 1) T := by
  obtain ⟨h0, h1, h3, hT⟩ := id h
  obtain ⟨y, hy⟩ := NB_ex (e := e + 1) (T := T) (by omega) (by omega) hT
  have e2 := NB_v hy
  have f := Jvm.FP.Core.val64_fits y
  rw [e2] at f
  have k : Jvm.FP.Core.val64 (Jvm.FP.Core.ddiv x 4602678819172646912) = Jvm.FP.Core.val64 y := by
    rw [Jvm.FP.Core.val64_ddiv, NB_v h, v_half, e2]
    show (if (4503599627370496 : Nat) = 0 then (if 4503599627370496 + T = 0 then Jvm.FP.Core.Datum.nan else .inf (false != false)) else Jvm.FP.Core.roundRatio Jvm.FP.Core.b64 (false != false) (4503599627370496 + T) 4503599627370496 ((e : Int) - 1075 - -53)) = _
    rw [if_neg (by decide)]
    refine Jvm.FP.Core.roundRatio_exact Jvm.FP.Core.good_b64 (by decide) f ?_
    rw [show ((e : Int) - 1075 - -53 - (((e + 1 : Nat) : Int) - 1075)).toNat = 52 by omega, show ((((e + 1 : Nat) : Int) - 1075) - ((e : Int) - 1075 - -53)).toNat = 0 by omega]
    omega
  have q : FP.ddiv x 4602678819172646912 = y := Jvm.FP.Core.val64_inj (by rw [k]; exact NB_nn hy) k
  rw [q]
  exact hy
theorem and_sh {n e T : Nat} (h : n = e * 4503599627370496 + T) (hT : T < 4503599627370496) (he : e < 2048) : (n &&& 9218868437227405312) >>> 52 = e := by
  rw [Nat.shiftRight_and_distrib, show (9218868437227405312 : Nat) >>> 52 = 2 ^ 11 - 1 from by decide, Nat.and_two_pow_sub_one_eq_mod, Nat.shiftRight_eq_div_pow]
  show n / 4503599627370496 % 2048 = e
  omega
/-- the exponent, by Math.getExponent's own steps -/
theorem ex_n {x : UInt64} {e T : Nat} (h : NB x e T) : Jvm.Free.Hsc.expOf x = Int32.ofInt ((e : Int) - 1023) := by
  obtain ⟨h0, h1, h2, h3⟩ := id h
  have k : (x.toInt64 &&& 9218868437227405312) >>> (52 &&& 63) = Int64.ofInt (e : Int) := by
    apply Int64.toBitVec_inj.mp
    show (x.toBitVec &&& 9218868437227405312#64).sshiftRight 52 = BitVec.ofInt 64 (e : Int)
    have m : (x.toBitVec &&& 9218868437227405312#64).msb = false := by
      rw [BitVec.msb_and, show (9218868437227405312#64).msb = false from by decide, Bool.and_false]
    rw [BitVec.sshiftRight_eq_of_msb_false m]
    apply BitVec.eq_of_toNat_eq
    rw [BitVec.toNat_ushiftRight, BitVec.toNat_and, BitVec.toNat_ofInt]
    show (x.toNat &&& 9218868437227405312) >>> 52 = _
    rw [and_sh h0 h3 (by omega)]
    omega
  unfold Jvm.Free.Hsc.expOf
  rw [k]
  have t : (Int64.ofInt (e : Int)).toInt32 = Int32.ofInt (e : Int) := Int64.toInt32_ofInt
  rw [t, show (1023 : Int32) = Int32.ofInt 1023 from by decide, ← Int32.ofInt_sub]
/-- the bits with the last j away -/
theorem cut_j (b : BitVec 64) (j : Nat) (hj : j ≤ 52) : (b &&& ~~~(4503599627370495#64 >>> (52 - j))).toNat = b.toNat / 2 ^ j * 2 ^ j := by
  have e : b &&& ~~~(4503599627370495#64 >>> (52 - j)) = (b >>> j) <<< j := by
    apply BitVec.eq_of_getLsbD_eq
    intro i hi
    have g : (4503599627370495#64).getLsbD (52 - j + i) = decide (52 - j + i < 52) := by
      show (BitVec.ofNat 64 (2 ^ 52 - 1)).getLsbD (52 - j + i) = _
      rw [BitVec.getLsbD_ofNat, Nat.testBit_two_pow_sub_one]
      by_cases z : 52 - j + i < 52
      · rw [decide_eq_true z, decide_eq_true (show 52 - j + i < 64 by omega)]
        rfl
      · rw [decide_eq_false z, Bool.and_false]
    rw [BitVec.getLsbD_and, BitVec.getLsbD_not, BitVec.getLsbD_ushiftRight, g, BitVec.getLsbD_shiftLeft, BitVec.getLsbD_ushiftRight]
    by_cases q : i < j
    · simp [q, hi, show 52 - j + i < 52 by omega]
    · simp [q, hi, show ¬ 52 - j + i < 52 by omega, show j + (i - j) = i by omega]
  rw [e, BitVec.toNat_shiftLeft, BitVec.toNat_ushiftRight, Nat.shiftRight_eq_div_pow, Nat.shiftLeft_eq]
  exact Nat.mod_eq_of_lt (Nat.lt_of_le_of_lt (Nat.div_mul_le_self _ _) b.isLt)
theorem mk_ : ∀ k : Nat, k < 52 → ((4503599627370495 : Int64) >>> ((Int32.ofInt (k : Int)).toInt64 &&& 63)).toBitVec = 4503599627370495#64 >>> k := by decide +kernel
theorem neg_n {x : UInt64} {e T : Nat} (h : NB x e T) : Op.cmpValue (FP.dcmp (FP.dmul 0xBFF0000000000000 x) 0) .l ≤ 0 := by
  have v1 : Jvm.FP.Core.val64 0xBFF0000000000000 = .fin true 4503599627370496 (-52) := by decide +kernel
  have v : Jvm.FP.Core.val64 (FP.dmul 0xBFF0000000000000 x) = Jvm.FP.Core.roundRatio Jvm.FP.Core.b64 true (4503599627370496 * (4503599627370496 + T)) 1 (-52 + ((e : Int) - 1075)) := by
    show Jvm.FP.Core.val64 (Jvm.FP.Core.dmul 0xBFF0000000000000 x) = _
    rw [Jvm.FP.Core.val64_dmul, v1, NB_v h]
    rfl
  generalize FP.dmul 0xBFF0000000000000 x = y at v ⊢
  have nn : Jvm.FP.Core.val64 y ≠ .nan := by
    rw [v]
    exact Jvm.FP.Core.roundRatio_ne_nan _ _ _ _ _
  have sg_ := Jvm.FP.Core.sgn_bits nn
  rw [v, Jvm.FP.Core.sgn_roundRatio] at sg_
  have hy : 2 ^ 63 ≤ y.toNat := of_decide_eq_true sg_.symm
  have v0 : Jvm.FP.Core.val64 0 = .fin false 0 (-1074) := by decide +kernel
  have k0 : Jvm.FP.Core.dkey 0 = 0 := by decide +kernel
  have k : FP.dcmp y 0 = _ := Jvm.FP.Core.dcmp_key nn (by rw [v0]; exact Jvm.FP.Core.Datum.noConfusion)
  have ky : Jvm.FP.Core.dkey y ≤ 0 := by
    unfold Jvm.FP.Core.dkey
    rw [if_pos hy]
    have hy : 9223372036854775808 ≤ y.toNat := hy
    show ((9223372036854775808 : Nat) : Int) - (y.toNat : Int) ≤ 0
    omega
  rw [k0] at k
  rw [k, Int32.le_iff_toInt_le, cv_, Int32.toInt_zero]
  split
  · decide
  · split
    · decide
    · omega
theorem fl_n {x : UInt64} {e T : Nat} (h : NB x e T) (h2 : e ≤ 1074) : (FP.d2l x).toInt = (FP.d2l (Jvm.Free.Hsc.floorOf x)).toInt := by
  obtain ⟨g0, g1, g2, g3⟩ := id h
  have v0 : Jvm.FP.Core.val64 0 = .fin false 0 (-1074) := by decide +kernel
  have n0 : Jvm.FP.Core.val64 0 ≠ .nan := by rw [v0]; exact Jvm.FP.Core.Datum.noConfusion
  have k0 : Jvm.FP.Core.dkey 0 = 0 := by decide +kernel
  have c0 : FP.dcmp x 0 = some (compare ((e * 4503599627370496 + T : Nat) : Int) 0) := by
    have k : FP.dcmp x 0 = _ := Jvm.FP.Core.dcmp_key (NB_nn h) n0
    rw [NB_key h, k0] at k
    exact k
  unfold Jvm.Free.Hsc.floorOf Jvm.Free.Hsc.focOf
  rw [ex_n h]
  by_cases q : e < 1023
  · have lt : Int32.ofInt ((e : Int) - 1023) < 0 := by
      rw [Int32.lt_iff_toInt_lt, ga_ti (by omega), Int32.toInt_zero]
      omega
    have t1 := cv_ ((e * 4503599627370496 + T : Nat) : Int) 0
    have a1 : ¬ Op.cmpValue (FP.dcmp x 0) .l = 0 := fun z => by
      have t := t1 .l
      rw [← c0, z, if_neg (by omega), if_neg (by omega)] at t
      exact absurd t (by decide)
    have a2 : ¬ Op.cmpValue (FP.dcmp x 0) .g < 0 := fun z => by
      have t := t1 .g
      rw [← c0, if_neg (by omega), if_neg (by omega)] at t
      have z := Int32.lt_iff_toInt_lt.mp z
      rw [t, Int32.toInt_zero] at z
      omega
    rw [if_pos lt, if_neg a1, if_neg a2, d2l_n h h2]
    have d : (4503599627370496 + T) / 2 ^ (1075 - e) = 0 := Nat.div_eq_of_lt (Nat.lt_of_lt_of_le (show 4503599627370496 + T < 2 ^ 53 by omega) (Nat.pow_le_pow_right (by decide) (by omega)))
    rw [d]
    decide +kernel
  · have nl : ¬ Int32.ofInt ((e : Int) - 1023) < 0 := by
      rw [Int32.lt_iff_toInt_lt, ga_ti (by omega), Int32.toInt_zero]
      omega
    have n5 : ¬ ¬ Int32.ofInt ((e : Int) - 1023) < 52 := by
      rw [Int32.lt_iff_toInt_lt, ga_ti (by omega), show (52 : Int32).toInt = 52 from by decide]
      omega
    rw [if_neg nl, if_neg n5]
    by_cases m : Jvm.Free.Hsc.maskOf x &&& x.toInt64 = 0
    · rw [if_pos m]
    · rw [if_neg m]
      rw [if_pos (neg_n h)]
      have cu : NB (Jvm.Free.Hsc.cutOf x) e (T / 2 ^ (1075 - e) * 2 ^ (1075 - e)) := by
        have mk : (Jvm.Free.Hsc.maskOf x).toBitVec = 4503599627370495#64 >>> (52 - (1075 - e)) := by
          have k := mk_ (e - 1023) (by omega)
          rw [show (((e - 1023 : Nat)) : Int) = (e : Int) - 1023 by omega, ← ex_n h] at k
          rw [show 52 - (1075 - e) = e - 1023 by omega]
          exact k
        have c : (Jvm.Free.Hsc.cutOf x).toNat = x.toNat / 2 ^ (1075 - e) * 2 ^ (1075 - e) := by
          show (x.toBitVec &&& ~~~(Jvm.Free.Hsc.maskOf x).toBitVec).toNat = _
          rw [mk]
          exact cut_j x.toBitVec (1075 - e) (by omega)
        have p : (4503599627370496 : Nat) = 2 ^ (e - 1023) * 2 ^ (1075 - e) := by rw [← Nat.pow_add, show e - 1023 + (1075 - e) = 52 by omega]
        have le := Nat.div_mul_le_self T (2 ^ (1075 - e))
        refine ⟨?_, g1, g2, by omega⟩
        rw [c, g0]
        have t : (e * 4503599627370496 + T) / 2 ^ (1075 - e) = e * 2 ^ (e - 1023) + T / 2 ^ (1075 - e) := by
          rw [p, ← Nat.mul_assoc, Nat.add_comm, Nat.add_mul_div_right _ _ (Nat.two_pow_pos _), Nat.add_comm]
        rw [t, Nat.add_mul, Nat.mul_assoc, ← p]
      rw [d2l_n h h2, d2l_n cu h2]
      have p : (4503599627370496 : Nat) = 2 ^ (e - 1023) * 2 ^ (1075 - e) := by rw [← Nat.pow_add, show e - 1023 + (1075 - e) = 52 by omega]
      have e1 : (4503599627370496 + T) / 2 ^ (1075 - e) = 2 ^ (e - 1023) + T / 2 ^ (1075 - e) := by
        rw [p, Nat.add_comm, Nat.add_mul_div_right _ _ (Nat.two_pow_pos _), Nat.add_comm]
      have e2 : (4503599627370496 + T / 2 ^ (1075 - e) * 2 ^ (1075 - e)) / 2 ^ (1075 - e) = 2 ^ (e - 1023) + T / 2 ^ (1075 - e) := by
        rw [p, ← Nat.add_mul, Nat.mul_div_cancel _ (Nat.two_pow_pos _)]
      rw [e1, e2]
