/-! THE DENSITY: zero, or a normal double from 1/128 to 2^17 -/
theorem wh_ {A : Nat} {d : Jvm.FP.Core.Datum} (hA : 0 < A) (h : Jvm.FP.Core.Whole (A : Int) d) : ∃ (c : Nat) (q : Int), d = .fin false c q ∧ c * 2 ^ q.toNat = A * 2 ^ (-q).toNat ∧ 0 < c := by
  match d, h with
  | .nan, h => exact absurd h id
  | .inf _, h => exact absurd h id
  | .fin s c q, h =>
    have h : Jvm.FP.Core.signed s (c * 2 ^ q.toNat) = (A : Int) * ((2 ^ (-q).toNat : Nat) : Int) := h
    have p := Nat.two_pow_pos (-q).toNat
    have m : 0 < A * 2 ^ (-q).toNat := Nat.mul_pos hA p
    rw [← Int.natCast_mul] at h
    have hs : s = false := by
      cases s with
      | false => rfl
      | true =>
        have h : -((c * 2 ^ q.toNat : Nat) : Int) = ((A * 2 ^ (-q).toNat : Nat) : Int) := h
        omega
    subst hs
    have h : ((c * 2 ^ q.toNat : Nat) : Int) = ((A * 2 ^ (-q).toNat : Nat) : Int) := h
    have h2 : c * 2 ^ q.toNat = A * 2 ^ (-q).toNat := by omega
    refine ⟨c, q, rfl, h2, Nat.pos_of_ne_zero fun z => ?_⟩
    rw [z, Nat.zero_mul] at h2
    omega
theorem v_q {A B : Nat} (hA : 0 < A) (hA2 : A ≤ 1000000) (hB : 0 < B) (hB2 : B ≤ 1000000) : Jvm.FP.Core.val64 (FP.ddiv (FP.i2d (Int32.ofInt A)) (FP.i2d (Int32.ofInt B))) = Jvm.FP.Core.roundRatio Jvm.FP.Core.b64 false A B 0 := by
  have a := Jvm.FP.Core.i2d_int (Int32.ofInt A)
  have b := Jvm.FP.Core.i2d_int (Int32.ofInt B)
  rw [ga_ti (by omega)] at a b
  obtain ⟨c, q, e1, e2, e3⟩ := wh_ hA a
  obtain ⟨d, r, f1, f2, f3⟩ := wh_ hB b
  show Jvm.FP.Core.val64 (Jvm.FP.Core.ddiv (Jvm.FP.Core.i2d (Int32.ofInt A)) (Jvm.FP.Core.i2d (Int32.ofInt B))) = _
  rw [Jvm.FP.Core.val64_ddiv, e1, f1]
  show (if d = 0 then (if c = 0 then Jvm.FP.Core.Datum.nan else .inf (false != false)) else Jvm.FP.Core.roundRatio Jvm.FP.Core.b64 (false != false) c d (q - r)) = _
  rw [if_neg (by omega)]
  refine Jvm.FP.Core.roundRatio_congr f3 hB ?_
  have k : (c * B) * 2 ^ (q.toNat + (-r).toNat) = (A * d) * 2 ^ ((-q).toNat + r.toNat) := by
    rw [Nat.pow_add, Nat.pow_add]
    have x1 : c * B * (2 ^ q.toNat * 2 ^ (-r).toNat) = (c * 2 ^ q.toNat) * (B * 2 ^ (-r).toNat) := by ac_rfl
    have x2 : A * d * (2 ^ (-q).toNat * 2 ^ r.toNat) = (A * 2 ^ (-q).toNat) * (d * 2 ^ r.toNat) := by ac_rfl
    rw [x1, x2, e2, f2]
  have k2 := pw_ k
  rw [show (((q.toNat + (-r).toNat : Nat) : Int) - (((-q).toNat + r.toNat : Nat) : Int)) = q - r - 0 by omega, show ((((-q).toNat + r.toNat : Nat) : Int) - ((q.toNat + (-r).toNat : Nat) : Int)) = 0 - (q - r) by omega] at k2
  exact k2
theorem v_n {A B : Nat} (hA : 0 < A) (hA2 : A ≤ 89991) (hB : 0 < B) (hB2 : B ≤ 96) : ∃ e T : Nat, NB (FP.ddiv (FP.i2d (Int32.ofInt A)) (FP.i2d (Int32.ofInt B))) e T ∧ 1016 ≤ e ∧ e ≤ 1040 ∧ (e = 1040 → T = 0) := by
  have v := v_q hA (by omega) hB (by omega)
  generalize FP.ddiv (FP.i2d (Int32.ofInt A)) (FP.i2d (Int32.ofInt B)) = x at v ⊢
  have nn : Jvm.FP.Core.val64 x ≠ .nan := by
    rw [v]
    exact Jvm.FP.Core.roundRatio_ne_nan _ _ _ _ _
  have sg_ := Jvm.FP.Core.sgn_bits nn
  rw [v, Jvm.FP.Core.sgn_roundRatio] at sg_
  have hx : x.toNat < 9223372036854775808 := by
    have := of_decide_eq_false sg_.symm
    have : ¬ 9223372036854775808 ≤ x.toNat := this
    omega
  have zx := Jvm.FP.Core.zmag_bits nn
  have mx : x.toNat % 2 ^ 63 = x.toNat := Nat.mod_eq_of_lt hx
  rw [mx, v] at zx
  have l1 : Jvm.FP.Core.val64 4575657221408423936 = .fin false 4503599627370496 (-59) := by decide +kernel
  have l2 : Jvm.FP.Core.val64 4683743612465315840 = .fin false 4503599627370496 (-35) := by decide +kernel
  have f1 := Jvm.FP.Core.val64_fits 4575657221408423936
  have f2 := Jvm.FP.Core.val64_fits 4683743612465315840
  have z1 := Jvm.FP.Core.zmag_bits (a := 4575657221408423936) (by rw [l1]; exact Jvm.FP.Core.Datum.noConfusion)
  have z2 := Jvm.FP.Core.zmag_bits (a := 4683743612465315840) (by rw [l2]; exact Jvm.FP.Core.Datum.noConfusion)
  have m1 : Jvm.FP.Core.zmag Jvm.FP.Core.b64 (Jvm.FP.Core.val64 4575657221408423936) = 4503599627370496 * 2 ^ 1015 := by
    rw [l1]
    show Jvm.FP.Core.inUnits 4503599627370496 (-59) Jvm.FP.Core.b64.qmin = _
    unfold Jvm.FP.Core.inUnits
    rw [show ((-59 : Int) - Jvm.FP.Core.b64.qmin).toNat = 1015 from by decide]
  have m2 : Jvm.FP.Core.zmag Jvm.FP.Core.b64 (Jvm.FP.Core.val64 4683743612465315840) = 4503599627370496 * 2 ^ 1039 := by
    rw [l2]
    show Jvm.FP.Core.inUnits 4503599627370496 (-35) Jvm.FP.Core.b64.qmin = _
    unfold Jvm.FP.Core.inUnits
    rw [show ((-35 : Int) - Jvm.FP.Core.b64.qmin).toNat = 1039 from by decide]
  have q0 : (Jvm.FP.Core.b64.qmin - -1074).toNat = 0 := by decide
  have i0 : Jvm.FP.Core.inUnits A 0 (-1074) = A * 2 ^ 1074 := rfl
  have ge := Jvm.FP.Core.zmag_roundRatio_ge (s := false) (A := A) (e := 0) (e0 := -1074) Jvm.FP.Core.good_b64 hB f1 (by decide) (by decide) (by
    rw [m1, i0, q0, Nat.pow_zero, Nat.mul_one, show (1074 : Nat) = 1015 + 59 from rfl, Nat.pow_add, Nat.mul_right_comm, ← Nat.mul_assoc, Nat.mul_right_comm A]
    exact Nat.mul_le_mul_right _ (by omega))
  have le := Jvm.FP.Core.zmag_roundRatio_le (s := false) (A := A) (e := 0) (e0 := -1074) Jvm.FP.Core.good_b64 hB f2 (by rw [l2]; exact Jvm.FP.Core.Datum.noConfusion) (by decide) (by decide) (by
    rw [m2, i0, q0, Nat.pow_zero, Nat.mul_one, show (1074 : Nat) = 1039 + 35 from rfl, Nat.pow_add, Nat.mul_right_comm 4503599627370496, ← Nat.mul_assoc, Nat.mul_right_comm A]
    exact Nat.mul_le_mul_right _ (by omega))
  rw [z1, zx] at ge
  rw [z2, zx] at le
  have ge := Jvm.FP.Core.unitsOf_le_iff.mp ge
  have le := Jvm.FP.Core.unitsOf_le_iff.mp le
  have g1 : (4575657221408423936 : UInt64).toNat % 2 ^ 63 = 4575657221408423936 := by decide +kernel
  have g2 : (4683743612465315840 : UInt64).toNat % 2 ^ 63 = 4683743612465315840 := by decide +kernel
  rw [g1] at ge
  rw [g2] at le
  exact ⟨x.toNat / 4503599627370496, x.toNat % 4503599627370496, ⟨by omega, by omega, by omega, by omega⟩, by omega, by omega, by omega⟩
theorem v_z {B : Nat} (hB : 0 < B) (hB2 : B ≤ 96) : FP.ddiv (FP.i2d (Int32.ofInt ((0 : Nat) : Int))) (FP.i2d (Int32.ofInt B)) = 0 := by
  have b := Jvm.FP.Core.i2d_int (Int32.ofInt B)
  rw [ga_ti (by omega)] at b
  obtain ⟨d, r, f1, f2, f3⟩ := wh_ hB b
  have z : FP.i2d (Int32.ofInt ((0 : Nat) : Int)) = 0 := by decide +kernel
  have v0 : Jvm.FP.Core.val64 0 = .fin false 0 (-1074) := by decide +kernel
  rw [z]
  refine Jvm.FP.Core.val64_inj ?_ ?_
  · show Jvm.FP.Core.val64 (Jvm.FP.Core.ddiv 0 (Jvm.FP.Core.i2d (Int32.ofInt B))) ≠ .nan
    rw [Jvm.FP.Core.val64_ddiv, v0, f1]
    show (if d = 0 then (if 0 = 0 then Jvm.FP.Core.Datum.nan else .inf (false != false)) else Jvm.FP.Core.roundRatio Jvm.FP.Core.b64 (false != false) 0 d (-1074 - r)) ≠ _
    rw [if_neg (by omega)]
    exact Jvm.FP.Core.roundRatio_ne_nan _ _ _ _ _
  · show Jvm.FP.Core.val64 (Jvm.FP.Core.ddiv 0 (Jvm.FP.Core.i2d (Int32.ofInt B))) = _
    rw [Jvm.FP.Core.val64_ddiv, v0, f1]
    show (if d = 0 then (if 0 = 0 then Jvm.FP.Core.Datum.nan else .inf (false != false)) else Jvm.FP.Core.roundRatio Jvm.FP.Core.b64 (false != false) 0 d (-1074 - r)) = _
    rw [if_neg (by omega)]
    rfl
