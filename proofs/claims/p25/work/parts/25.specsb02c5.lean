/-! WHAT IS BEHIND THE POINT: the class takes the whole part away, the reference takes the remainder by 1 -/
theorem zm_ {x : UInt64} {e T : Nat} (h : NB x e T) : Jvm.FP.Core.zmag Jvm.FP.Core.b64 (Jvm.FP.Core.val64 x) = (4503599627370496 + T) * 2 ^ (e - 1) := by
  have h1 := h.2.1
  rw [NB_v h]
  show (4503599627370496 + T) * 2 ^ ((e : Int) - 1075 - -1074).toNat = _
  rw [show ((e : Int) - 1075 - -1074).toNat = e - 1 by omega]
/-- the whole part -/
theorem d2l_n {x : UInt64} {e T : Nat} (h : NB x e T) (h2 : e ≤ 1074) : (FP.d2l x).toInt = (((4503599627370496 + T) / 2 ^ (1075 - e) : Nat) : Int) := by
  obtain ⟨g0, g1, g2, g3⟩ := id h
  have k := Jvm.FP.Core.d2l_val (NB_nn h)
  have sx : Jvm.FP.Core.sgn (Jvm.FP.Core.val64 x) = false := by
    rw [NB_v h]
    rfl
  have dv : (4503599627370496 + T) * 2 ^ (e - 1) / Jvm.FP.Core.one64 = (4503599627370496 + T) / 2 ^ (1075 - e) := by
    unfold Jvm.FP.Core.one64
    rw [show (1074 : Nat) = (1075 - e) + (e - 1) by omega, Nat.pow_add, Nat.mul_div_mul_right _ _ (Nat.two_pow_pos _)]
  rw [sx, zm_ h, dv] at k
  have lt : (4503599627370496 + T) / 2 ^ (1075 - e) ≤ 4503599627370496 + T := Nat.div_le_self _ _
  generalize (4503599627370496 + T) / 2 ^ (1075 - e) = I at k lt ⊢
  have k : (FP.d2l x).toInt = max (-9223372036854775808) (min 9223372036854775807 (I : Int)) := k
  rw [k]
  omega
theorem fr_rem {x : UInt64} {e T : Nat} (h : NB x e T) (h2 : e ≤ 1074) : Jvm.FP.Core.val64 (FP.drem x FP.dconst1) = Jvm.FP.Core.roundRatio Jvm.FP.Core.b64 false ((4503599627370496 + T) % 2 ^ (1075 - e)) 1 ((e : Int) - 1075) := by
  show Jvm.FP.Core.val64 (Jvm.FP.Core.drem x FP.dconst1) = _
  rw [Jvm.FP.Core.val64_drem, NB_v h, v_one]
  show Jvm.FP.Core.round Jvm.FP.Core.b64 (if (4503599627370496 : Nat) = 0 then Jvm.FP.Core.Datum.nan else .fin false (Jvm.FP.Core.inUnits (4503599627370496 + T) ((e : Int) - 1075) (min ((e : Int) - 1075) (-52)) % Jvm.FP.Core.inUnits 4503599627370496 (-52) (min ((e : Int) - 1075) (-52))) (min ((e : Int) - 1075) (-52))) = _
  rw [if_neg (by decide)]
  show Jvm.FP.Core.roundRatio Jvm.FP.Core.b64 false (((4503599627370496 + T) * 2 ^ ((e : Int) - 1075 - min ((e : Int) - 1075) (-52)).toNat) % (4503599627370496 * 2 ^ (-52 - min ((e : Int) - 1075) (-52)).toNat)) 1 (min ((e : Int) - 1075) (-52)) = _
  refine Jvm.FP.Core.roundRatio_congr (by decide) (by decide) ?_
  rw [Nat.mul_one, Nat.mul_one]
  by_cases q : e ≤ 1023
  · have m : min ((e : Int) - 1075) (-52) = (e : Int) - 1075 := by omega
    rw [m, show ((e : Int) - 1075 - ((e : Int) - 1075)).toNat = 0 by omega, show (-52 - ((e : Int) - 1075)).toNat = 1023 - e by omega, Nat.pow_zero, Nat.mul_one, Nat.mul_one, Nat.mul_one, show (4503599627370496 : Nat) * 2 ^ (1023 - e) = 2 ^ (1075 - e) from by rw [show (4503599627370496 : Nat) = 2 ^ 52 from rfl, ← Nat.pow_add, show 52 + (1023 - e) = 1075 - e by omega]]
  · have m : min ((e : Int) - 1075) (-52) = -52 := by omega
    have p : (4503599627370496 : Nat) = 2 ^ (1075 - e) * 2 ^ (e - 1023) := by rw [← Nat.pow_add, show 1075 - e + (e - 1023) = 52 by omega]
    rw [m, show ((e : Int) - 1075 - -52).toNat = e - 1023 by omega, show (-52 - (-52 : Int)).toNat = 0 by decide, Nat.pow_zero, Nat.mul_one, show (-52 - ((e : Int) - 1075)).toNat = 0 by omega, Nat.pow_zero, Nat.mul_one]
    have r : (4503599627370496 + T) * 2 ^ (e - 1023) % 4503599627370496 = ((4503599627370496 + T) % 2 ^ (1075 - e)) * 2 ^ (e - 1023) := by
      conv => lhs; rhs; rw [p]
      exact Nat.mul_mod_mul_right _ _ _
    exact r
theorem fr_sub {x : UInt64} {e T : Nat} (h : NB x e T) (h1 : 1016 ≤ e) (h2 : e ≤ 1040) : Jvm.FP.Core.val64 (FP.dsub x (FP.l2d (Int64.ofInt (FP.d2l x).toInt))) = Jvm.FP.Core.roundRatio Jvm.FP.Core.b64 false ((4503599627370496 + T) % 2 ^ (1075 - e)) 1 ((e : Int) - 1075) := by
  obtain ⟨g0, g1, g2, g3⟩ := id h
  rw [d2l_n h (by omega)]
  have dm := Nat.div_add_mod (4503599627370496 + T) (2 ^ (1075 - e))
  have il : (4503599627370496 + T) / 2 ^ (1075 - e) ≤ 4503599627370496 + T := Nat.div_le_self _ _
  generalize (4503599627370496 + T) / 2 ^ (1075 - e) = I at dm il ⊢
  generalize (4503599627370496 + T) % 2 ^ (1075 - e) = F at dm ⊢
  have dw : ∃ (c1 : Nat) (q1 : Int), Jvm.FP.Core.val64 (FP.l2d (Int64.ofInt (I : Int))) = .fin false c1 q1 ∧ c1 * 2 ^ q1.toNat = I * 2 ^ (-q1).toNat := by
    by_cases z : I = 0
    · subst z
      exact ⟨0, -1074, by decide +kernel, by rw [Nat.zero_mul, Nat.zero_mul]⟩
    · have ti : (Int64.ofInt (I : Int)).toInt = I := gal_ti (by omega)
      have w := Jvm.FP.Core.l2d_int (a := Int64.ofInt (I : Int)) (by rw [ti]; show _ ≤ 9007199254740992; omega)
      rw [ti] at w
      obtain ⟨c, q, e1, e2, e3⟩ := wh_ (by omega) w
      exact ⟨c, q, e1, e2⟩
  obtain ⟨c1, q1, v1, w1⟩ := dw
  show Jvm.FP.Core.val64 (Jvm.FP.Core.dsub x (FP.l2d (Int64.ofInt (I : Int)))) = _
  rw [Jvm.FP.Core.val64_dsub, NB_v h, v1]
  obtain ⟨m, hm⟩ : ∃ m : Int, min ((e : Int) - 1075) q1 = m := ⟨_, rfl⟩
  have eS : Jvm.FP.Core.sumUnits false (4503599627370496 + T) ((e : Int) - 1075) true c1 q1 m = ((F * 2 ^ ((e : Int) - 1075 - m).toNat : Nat) : Int) := by
    show (((4503599627370496 + T) * 2 ^ ((e : Int) - 1075 - m).toNat : Nat) : Int) + -((c1 * 2 ^ (q1 - m).toNat : Nat) : Int) = _
    have k1 : c1 * 2 ^ (q1 - m).toNat = I * 2 ^ (-m).toNat := by
      have k := pw_ (A := c1) (B := I) (a := q1.toNat + (-m).toNat) (b := (-q1).toNat + (-m).toNat) (by rw [Nat.pow_add, Nat.pow_add, ← Nat.mul_assoc, ← Nat.mul_assoc, w1])
      have t : c1 * 2 ^ (q1 - m).toNat * 2 ^ q1.toNat = I * 2 ^ (-m).toNat * 2 ^ q1.toNat := by
        have a1 : c1 * 2 ^ (q1 - m).toNat * 2 ^ q1.toNat = (c1 * 2 ^ q1.toNat) * 2 ^ (q1 - m).toNat := by ac_rfl
        rw [a1, w1, Nat.mul_assoc, Nat.mul_assoc, ← Nat.pow_add, ← Nat.pow_add, show (-q1).toNat + (q1 - m).toNat = (-m).toNat + q1.toNat by omega]
      exact Nat.eq_of_mul_eq_mul_right (Nat.two_pow_pos _) t
    have k2 : (4503599627370496 + T) * 2 ^ ((e : Int) - 1075 - m).toNat = I * 2 ^ (-m).toNat + F * 2 ^ ((e : Int) - 1075 - m).toNat := by
      rw [← dm, Nat.add_mul, Nat.mul_comm (2 ^ (1075 - e)) I, Nat.mul_assoc, ← Nat.pow_add, show 1075 - e + ((e : Int) - 1075 - m).toNat = (-m).toNat by omega]
    omega
  show Jvm.FP.Core.round Jvm.FP.Core.b64 (.fin (Jvm.FP.Core.sumSign false true (Jvm.FP.Core.sumUnits false (4503599627370496 + T) ((e : Int) - 1075) true c1 q1 (min ((e : Int) - 1075) q1))) (Jvm.FP.Core.sumUnits false (4503599627370496 + T) ((e : Int) - 1075) true c1 q1 (min ((e : Int) - 1075) q1)).natAbs (min ((e : Int) - 1075) q1)) = _
  rw [hm, eS]
  generalize hG : F * 2 ^ ((e : Int) - 1075 - m).toNat = G
  have e3 : Jvm.FP.Core.sumSign false true ((G : Nat) : Int) = false := by
    unfold Jvm.FP.Core.sumSign
    by_cases z : ((G : Nat) : Int) = 0
    · rw [if_pos z]
      rfl
    · rw [if_neg z]
      exact decide_eq_false (by omega)
  rw [e3]
  show Jvm.FP.Core.roundRatio Jvm.FP.Core.b64 false G 1 m = _
  refine Jvm.FP.Core.roundRatio_congr (by decide) (by decide) ?_
  rw [Nat.mul_one, Nat.mul_one, ← hG, show (m - ((e : Int) - 1075)).toNat = 0 by omega, Nat.pow_zero, Nat.mul_one]
/-- so both are one number: 0, or a normal one -/
theorem fr_eq {x : UInt64} {e T : Nat} (h : NB x e T) (h1 : 1016 ≤ e) (h2 : e ≤ 1040) : FP.dsub x (FP.l2d (Int64.ofInt (FP.d2l x).toInt)) = FP.drem x FP.dconst1 ∧ (FP.drem x FP.dconst1 = 0 ∨ ∃ e' T' : Nat, NB (FP.drem x FP.dconst1) e' T') := by
  obtain ⟨g0, g1, g2, g3⟩ := id h
  have a := fr_sub h h1 h2
  have b := fr_rem h (by omega)
  refine ⟨Jvm.FP.Core.val64_inj (by rw [a]; exact Jvm.FP.Core.roundRatio_ne_nan _ _ _ _ _) (a.trans b.symm), ?_⟩
  have fl := Nat.mod_lt (4503599627370496 + T) (Nat.two_pow_pos (1075 - e))
  generalize (4503599627370496 + T) % 2 ^ (1075 - e) = F at b fl
  generalize FP.drem x FP.dconst1 = y at b ⊢
  have v0 : Jvm.FP.Core.val64 0 = .fin false 0 (-1074) := by decide +kernel
  by_cases z : F = 0
  · left
    subst z
    have b : Jvm.FP.Core.val64 y = .fin false 0 (-1074) := b
    exact Jvm.FP.Core.val64_inj (by rw [b]; exact Jvm.FP.Core.Datum.noConfusion) (b.trans v0.symm)
  · right
    have nn : Jvm.FP.Core.val64 y ≠ .nan := by
      rw [b]
      exact Jvm.FP.Core.roundRatio_ne_nan _ _ _ _ _
    have sg_ := Jvm.FP.Core.sgn_bits nn
    rw [b, Jvm.FP.Core.sgn_roundRatio] at sg_
    have hy : y.toNat < 9223372036854775808 := by
      have := of_decide_eq_false sg_.symm
      have : ¬ 9223372036854775808 ≤ y.toNat := this
      omega
    have zy := Jvm.FP.Core.zmag_bits nn
    have my : y.toNat % 2 ^ 63 = y.toNat := Nat.mod_eq_of_lt hy
    rw [my, b] at zy
    have l1 : Jvm.FP.Core.val64 4341470040785158144 = .fin false 4503599627370496 (-111) := by decide +kernel
    have f1 := Jvm.FP.Core.val64_fits 4341470040785158144
    have f2 := Jvm.FP.Core.val64_fits FP.dconst1
    have z1 := Jvm.FP.Core.zmag_bits (a := 4341470040785158144) (by rw [l1]; exact Jvm.FP.Core.Datum.noConfusion)
    have z2 := Jvm.FP.Core.zmag_bits (a := FP.dconst1) (by rw [v_one]; exact Jvm.FP.Core.Datum.noConfusion)
    have m1 : Jvm.FP.Core.zmag Jvm.FP.Core.b64 (Jvm.FP.Core.val64 4341470040785158144) = 4503599627370496 * 2 ^ 963 := by
      rw [l1]
      show Jvm.FP.Core.inUnits 4503599627370496 (-111) Jvm.FP.Core.b64.qmin = _
      unfold Jvm.FP.Core.inUnits
      rw [show ((-111 : Int) - Jvm.FP.Core.b64.qmin).toNat = 963 from by decide]
    have m2 : Jvm.FP.Core.zmag Jvm.FP.Core.b64 (Jvm.FP.Core.val64 FP.dconst1) = 4503599627370496 * 2 ^ 1022 := by
      rw [v_one]
      show Jvm.FP.Core.inUnits 4503599627370496 (-52) Jvm.FP.Core.b64.qmin = _
      unfold Jvm.FP.Core.inUnits
      rw [show ((-52 : Int) - Jvm.FP.Core.b64.qmin).toNat = 1022 from by decide]
    have q0 : (Jvm.FP.Core.b64.qmin - -1074).toNat = 0 := by decide
    have i0 : Jvm.FP.Core.inUnits F ((e : Int) - 1075) (-1074) = F * 2 ^ (e - 1) := by
      show F * 2 ^ ((e : Int) - 1075 - -1074).toNat = _
      rw [show ((e : Int) - 1075 - -1074).toNat = e - 1 by omega]
    have ge := Jvm.FP.Core.zmag_roundRatio_ge (s := false) (A := F) (B := 1) (e := (e : Int) - 1075) (e0 := -1074) Jvm.FP.Core.good_b64 (by decide) f1 (by decide) (by omega) (by
      rw [m1, i0, q0]
      have p : 2 ^ 1015 ≤ 2 ^ (e - 1) := Nat.pow_le_pow_right (by decide) (by omega)
      have q := Nat.mul_le_mul (show 1 ≤ F by omega) p
      rw [Nat.pow_zero, Nat.mul_one, Nat.mul_one, show (4503599627370496 : Nat) = 2 ^ 52 from rfl, ← Nat.pow_add]
      rw [Nat.one_mul] at q
      exact q)
    have le := Jvm.FP.Core.zmag_roundRatio_le (s := false) (A := F) (B := 1) (e := (e : Int) - 1075) (e0 := -1074) Jvm.FP.Core.good_b64 (by decide) f2 (by rw [v_one]; exact Jvm.FP.Core.Datum.noConfusion) (by decide) (by omega) (by
      rw [m2, i0, q0]
      have q := Nat.mul_le_mul_right (2 ^ (e - 1)) (Nat.le_of_lt fl)
      rw [← Nat.pow_add, show 1075 - e + (e - 1) = 1074 by omega] at q
      rw [Nat.pow_zero, Nat.mul_one, Nat.mul_one, show (4503599627370496 : Nat) = 2 ^ 52 from rfl, ← Nat.pow_add]
      exact q)
    rw [z1, zy] at ge
    rw [z2, zy] at le
    have ge := Jvm.FP.Core.unitsOf_le_iff.mp ge
    have le := Jvm.FP.Core.unitsOf_le_iff.mp le
    have g1 : (4341470040785158144 : UInt64).toNat % 2 ^ 63 = 4341470040785158144 := by decide +kernel
    have g2 : FP.dconst1.toNat % 2 ^ 63 = 4607182418800017408 := by decide +kernel
    rw [g1] at ge
    rw [g2] at le
    exact ⟨y.toNat / 4503599627370496, y.toNat % 4503599627370496, by omega, by omega, by omega, by omega⟩
