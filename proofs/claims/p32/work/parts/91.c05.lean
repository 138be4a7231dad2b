/-! THE DENSITY by half a person, downwards: a number of whole halves -/
theorem h2_q {A B : Nat} (hA : 0 < A) (hA2 : A ≤ 89991) (hB : 0 < B) (hB2 : B ≤ 96) : (FP.d2l (FP.ddiv (FP.ddiv (FP.i2d (Int32.ofInt A)) (FP.i2d (Int32.ofInt B))) 4602678819172646912)).toInt = ((2 * A / B : Nat) : Int) := by
  obtain ⟨e, T, hN, e1, e2, e3⟩ := v_n hA hA2 hB hB2
  have v := v_q hA (by omega) hB (by omega)
  generalize FP.ddiv (FP.i2d (Int32.ofInt A)) (FP.i2d (Int32.ofInt B)) = x at hN v ⊢
  rw [NB_v hN] at v
  have hq : 2 * A / B ≤ 2 * A := Nat.div_le_self _ _
  have n1 := Jvm.FP.Core.roundRatio_nearest (c' := 2 * A / B) (q' := -1) (e0 := -1074) Jvm.FP.Core.good_b64 hB v.symm (Nat.lt_of_le_of_lt hq (Nat.lt_of_le_of_lt (show 2 * A ≤ 2 ^ 18 by omega) (by decide))) (by decide) (by decide) (by decide)
  have n2 := Jvm.FP.Core.roundRatio_nearest (c' := (2 * A / B + 1) * 524288 - 1) (q' := -20) (e0 := -1074) Jvm.FP.Core.good_b64 hB v.symm (Nat.lt_of_le_of_lt (show (2 * A / B + 1) * 524288 - 1 ≤ 2 ^ 40 by omega) (by decide)) (by decide) (by decide) (by decide)
  have d1 : B * (2 * A / B) ≤ 2 * A := Nat.mul_div_le _ _
  have d2 : 2 * A < B * (2 * A / B + 1) := by
    have h := (Nat.div_lt_iff_lt_mul (x := 2 * A) (y := 2 * A / B + 1) hB).mp (Nat.lt_succ_self _)
    rw [Nat.mul_comm B]
    exact h
  rw [d2l_n (NB_by hN (by omega)) (by omega), show 1075 - (e + 1) = 1074 - e by omega]
  generalize 2 * A / B = q at hq n1 n2 d1 d2 ⊢
  unfold Jvm.FP.Core.distance Jvm.FP.Core.inUnits at n1 n2
  rw [show ((0 : Int) - -1074).toNat = 1074 from rfl, show ((e : Int) - 1075 - -1074).toNat = e - 1 by omega] at n1 n2
  rw [show ((-1 : Int) - -1074).toNat = 1073 from rfl] at n1
  rw [show ((-20 : Int) - -1074).toNat = 1054 from rfl] at n2
  obtain ⟨W, hW⟩ : ∃ W : Nat, W = 2 ^ 1054 := ⟨_, rfl⟩
  have W0 : 0 < W := by rw [hW]; exact Nat.two_pow_pos _
  have u3 : 2 ^ 1073 = 524288 * W := by rw [hW, show (1073 : Nat) = 19 + 1054 from rfl, Nat.pow_add]
  have u4 : 2 ^ 1074 = 1048576 * W := by rw [hW, show (1074 : Nat) = 20 + 1054 from rfl, Nat.pow_add]
  obtain ⟨X, hX⟩ : ∃ X : Nat, X = (4503599627370496 + T) * 2 ^ (e - 1) := ⟨_, rfl⟩
  rw [← hX, u4] at n1 n2
  rw [u3] at n1
  rw [← hW] at n2
  rw [← Int.natCast_mul, ← Int.natCast_mul] at n1 n2
  have lo : q * (524288 * W) ≤ X := by
    refine Nat.le_of_not_lt fun h => ?_
    have a1 : X * B < q * (524288 * W) * B := Nat.mul_lt_mul_of_pos_right h hB
    have a2 : q * (524288 * W) * B ≤ A * (1048576 * W) := by
      rw [show q * (524288 * W) * B = (B * q) * (524288 * W) by ac_rfl, show A * (1048576 * W) = (2 * A) * (524288 * W) by rw [show (1048576 : Nat) = 2 * 524288 from rfl]; ac_rfl]
      exact Nat.mul_le_mul_right _ d1
    omega
  have hi : X < (q + 1) * (524288 * W) := by
    refine Nat.lt_of_not_le fun h => ?_
    have a0 : ((q + 1) * 524288 - 1) * W < X := by
      rw [Nat.sub_mul, Nat.mul_assoc]
      have : 0 < (q + 1) * (524288 * W) := Nat.mul_pos (by omega) (Nat.mul_pos (by omega) W0)
      omega
    have a1 : ((q + 1) * 524288 - 1) * W * B < X * B := Nat.mul_lt_mul_of_pos_right a0 hB
    have a2 : A * (1048576 * W) ≤ ((q + 1) * 524288 - 1) * W * B := by
      rw [show A * (1048576 * W) = (2 * A * 524288) * W by rw [show (1048576 : Nat) = 2 * 524288 from rfl]; ac_rfl, show ((q + 1) * 524288 - 1) * W * B = (((q + 1) * 524288 - 1) * B) * W by ac_rfl]
      refine Nat.mul_le_mul_right _ ?_
      rw [Nat.sub_mul, show (q + 1) * 524288 * B = B * (q + 1) * 524288 by ac_rfl]
      omega
    omega
  have es : 524288 * W = 2 ^ (1074 - e) * 2 ^ (e - 1) := by
    rw [← Nat.pow_add, ← u3, show 1074 - e + (e - 1) = 1073 by omega]
  rw [hX, es, ← Nat.mul_assoc] at lo hi
  have lo := Nat.le_of_mul_le_mul_right lo (Nat.two_pow_pos _)
  have hi := Nat.lt_of_mul_lt_mul_right hi
  rw [Nat.div_eq_of_lt_le lo hi]
/-- the density's four answers, as the law asks for them -/
theorem DA_3 {A B : Nat} (hA2 : A ≤ 89991) (hB : 0 < B) (hB2 : B ≤ 96) : DA (FP.ddiv (FP.i2d (Int32.ofInt A)) (FP.i2d (Int32.ofInt B))) 3 = ((2 * A / B : Nat) : Int) := by
  unfold DA
  rw [if_neg (by decide), if_neg (by decide), if_neg (by decide)]
  by_cases hA : 0 < A
  · obtain ⟨e, T, hN, e1, e2, e3⟩ := v_n hA hA2 hB hB2
    rw [← fl_n (NB_by hN (by omega)) (by omega)]
    exact h2_q hA hA2 hB hB2
  · have a0 : A = 0 := by omega
    rw [a0, v_z hB hB2]
    rw [show 2 * 0 / B = 0 by rw [Nat.mul_zero, Nat.zero_div]]
    decide +kernel
