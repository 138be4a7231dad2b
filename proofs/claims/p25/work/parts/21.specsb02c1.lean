/-! NORMAL DOUBLES: what Bits.of makes of one -/
theorem pw_ {A B a b : Nat} (h : A * 2 ^ a = B * 2 ^ b) : A * 2 ^ ((a : Int) - b).toNat = B * 2 ^ ((b : Int) - a).toNat := by
  by_cases q : a ≤ b
  · have e : b = a + (b - a) := by omega
    rw [e, Nat.pow_add, ← Nat.mul_assoc, Nat.mul_right_comm B] at h
    have h2 := Nat.eq_of_mul_eq_mul_right (Nat.two_pow_pos a) h
    rw [show ((a : Int) - b).toNat = 0 by omega, show ((b : Int) - a).toNat = b - a by omega, h2, Nat.pow_zero, Nat.mul_one]
  · have e : a = b + (a - b) := by omega
    rw [e, Nat.pow_add, ← Nat.mul_assoc, Nat.mul_right_comm A] at h
    have h2 := Nat.eq_of_mul_eq_mul_right (Nat.two_pow_pos b) h
    rw [show ((b : Int) - a).toNat = 0 by omega, show ((a : Int) - b).toNat = a - b by omega, h2, Nat.pow_zero, Nat.mul_one]
/-- the tail of a number from 1 up to 2, m digits of it -/
theorem fr_ {x P : UInt64} {T T' m : Nat} (h : NB x 1023 T) (hm : m ≤ 52) (hT : T = T' * 2 ^ (52 - m)) (hP : Jvm.FP.Core.val64 P = .fin false 4503599627370496 ((m : Int) - 52)) : FP.d2l (FP.dmul (FP.dsub x FP.dconst1) P) = Int64.ofInt T' := by
  obtain ⟨h0, h1, h2, h3⟩ := id h
  have t1 : T' ≤ T := by
    rw [hT]
    exact Nat.le_mul_of_pos_right _ (Nat.two_pow_pos _)
  have es : Jvm.FP.Core.val64 (Jvm.FP.Core.dsub x FP.dconst1) = Jvm.FP.Core.round Jvm.FP.Core.b64 (.fin false T (-52)) := by
    rw [Jvm.FP.Core.val64_dsub, NB_v h, v_one]
    show Jvm.FP.Core.round Jvm.FP.Core.b64 (.fin (Jvm.FP.Core.sumSign false true (Jvm.FP.Core.sumUnits false (4503599627370496 + T) (((1023 : Nat) : Int) - 1075) true 4503599627370496 (-52) (min (((1023 : Nat) : Int) - 1075) (-52)))) (Jvm.FP.Core.sumUnits false (4503599627370496 + T) (((1023 : Nat) : Int) - 1075) true 4503599627370496 (-52) (min (((1023 : Nat) : Int) - 1075) (-52))).natAbs (min (((1023 : Nat) : Int) - 1075) (-52))) = _
    have e1 : min (((1023 : Nat) : Int) - 1075) (-52) = -52 := by decide
    have e2 : Jvm.FP.Core.sumUnits false (4503599627370496 + T) (((1023 : Nat) : Int) - 1075) true 4503599627370496 (-52) (-52) = (T : Int) := by
      show ((((4503599627370496 + T) * 2 ^ 0 : Nat) : Int)) + -(((4503599627370496 * 2 ^ 0 : Nat) : Int)) = T
      omega
    rw [e1, e2]
    have e3 : Jvm.FP.Core.sumSign false true (T : Int) = false := by
      unfold Jvm.FP.Core.sumSign
      by_cases z : (T : Int) = 0
      · rw [if_pos z]
        rfl
      · rw [if_neg z]
        exact decide_eq_false (by omega)
    rw [e3]
    rfl
  obtain ⟨c', q', k1, k2⟩ := Jvm.FP.Core.round_exact Jvm.FP.Core.good_b64 false (c := T) (q := -52) (show T < 9007199254740992 by omega) (by decide) (by decide)
  have fx := Jvm.FP.Core.val64_fits (Jvm.FP.Core.dsub x FP.dconst1)
  rw [es, k1] at fx
  have q1 : -1074 ≤ q' := fx.2.1
  have k3 : c' * 2 ^ (q' + 1074).toNat = T * 2 ^ 1022 := by
    have k4 : c' * 2 ^ (q' - -1074).toNat = T * 2 ^ ((-52 : Int) - -1074).toNat := k2
    rw [show q' - -1074 = q' + 1074 by omega] at k4
    exact k4
  have w : Jvm.FP.Core.DInt T' (Jvm.FP.Core.dmul (Jvm.FP.Core.dsub x FP.dconst1) P) := by
    unfold Jvm.FP.Core.DInt
    rw [Jvm.FP.Core.val64_dmul, es, k1, hP]
    refine Jvm.FP.Core.whole_round Jvm.FP.Core.good_b64 Jvm.FP.Core.wide_b64 (show (T' : Int).natAbs ≤ 9007199254740992 by omega) ?_
    show Jvm.FP.Core.signed (false != false) (c' * 4503599627370496 * 2 ^ (q' + ((m : Int) - 52)).toNat) = (T' : Int) * ((2 ^ (-(q' + ((m : Int) - 52))).toNat : Nat) : Int)
    have k5 : (c' * 4503599627370496) * 2 ^ (q' + 1074).toNat = T' * 2 ^ (1126 - m) := by
      rw [Nat.mul_right_comm, k3, hT, show (4503599627370496 : Nat) = 2 ^ 52 from rfl, Nat.mul_assoc, Nat.mul_assoc, ← Nat.pow_add, ← Nat.pow_add, show 52 - m + (1022 + 52) = 1126 - m by omega]
    have k6 := pw_ k5
    rw [show (((q' + 1074).toNat : Int) - ((1126 - m : Nat) : Int)) = q' + ((m : Int) - 52) by omega, show (((1126 - m : Nat) : Int) - ((q' + 1074).toNat : Int)) = -(q' + ((m : Int) - 52)) by omega] at k6
    show ((c' * 4503599627370496 * 2 ^ (q' + ((m : Int) - 52)).toNat : Nat) : Int) = _
    rw [k6]
    exact Int.natCast_mul _ _
  have ti : (Int64.ofInt (T' : Int)).toInt = T' := gal_ti (by omega)
  refine Jvm.FP.Core.d2l_int (a := Int64.ofInt (T' : Int)) ?_
  rw [ti]
  exact w
