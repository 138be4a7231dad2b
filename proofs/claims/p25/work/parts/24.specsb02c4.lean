/-! NORMAL FLOATS: the density as a float, its bits -/
def NF (w : UInt32) (e T : Nat) : Prop := w.toNat = e * 8388608 + T ∧ 1 ≤ e ∧ e ≤ 254 ∧ T < 8388608
theorem NF_v {w : UInt32} {e T : Nat} (h : NF w e T) : Jvm.FP.Core.val32 w = .fin false (8388608 + T) ((e : Int) - 150) := by
  obtain ⟨h0, h1, h2, hT⟩ := h
  have k := Jvm.FP.Core.decode_assemble Jvm.FP.Core.b32 false e T (show e < 256 by omega) (show T < 8388608 from hT)
  have ea : Jvm.FP.Core.assemble Jvm.FP.Core.b32 false e T = w.toNat := by
    rw [h0]
    show (0 * 256 + e) * 8388608 + T = _
    rw [Nat.zero_mul, Nat.zero_add]
  have n1 : ¬ e = Jvm.FP.Core.b32.exps - 1 := by
    show ¬ e = 256 - 1
    omega
  rw [ea, if_neg n1, if_neg (show ¬ e = 0 by omega)] at k
  show Jvm.FP.Core.decode Jvm.FP.Core.b32 w.toNat = _
  rw [k]
  show Jvm.FP.Core.Datum.fin false (8388608 + T) (-149 + ((e : Int) - 1)) = _
  rw [show (-149 + ((e : Int) - 1)) = (e : Int) - 150 by omega]
theorem NF_no {w : UInt32} {e T : Nat} (h : NF w e T) : Jvm.Free.Fl.NoNaN32 w := by
  obtain ⟨h0, h1, h2, hT⟩ := h
  rw [Jvm.Free.Fl.noNaN32_iff]
  omega
theorem NF_d {w : UInt32} {e T : Nat} (h : NF w e T) : NB (FP.f2d w) (e + 896) (T * 536870912) := by
  obtain ⟨h0, h1, h2, hT⟩ := id h
  obtain ⟨y, hy⟩ := NB_ex (e := e + 896) (T := T * 536870912) (by omega) (by omega) (by omega)
  have e2 := NB_v hy
  have f := Jvm.FP.Core.val64_fits y
  rw [e2] at f
  have no := Jvm.Free.Fl.noNaN32_no.mp (NF_no h)
  have c : FP.f2d w = Jvm.FP.Core.f2d w := by
    unfold FP.f2d
    rw [if_neg (by rw [no]; decide)]
  have k : Jvm.FP.Core.val64 (Jvm.FP.Core.f2d w) = Jvm.FP.Core.val64 y := by
    rw [Jvm.FP.Core.val64_f2d, NF_v h, e2]
    show Jvm.FP.Core.roundRatio Jvm.FP.Core.b64 false (8388608 + T) 1 ((e : Int) - 150) = _
    refine Jvm.FP.Core.roundRatio_exact Jvm.FP.Core.good_b64 (by decide) f ?_
    rw [show ((e : Int) - 150 - (((e + 896 : Nat) : Int) - 1075)).toNat = 29 by omega, show ((((e + 896 : Nat) : Int) - 1075) - ((e : Int) - 150)).toNat = 0 by omega]
    omega
  rw [c, Jvm.FP.Core.val64_inj (by rw [k]; exact NB_nn hy) k]
  exact hy
theorem sp_1n {w : UInt32} {e T : Nat} (s : gx_S) (h : NF w e T) : gm_1 w s = some ((w.toNat : Int), s) := by
  obtain ⟨h0, h1, h2, h3⟩ := id h
  have d := NF_d h
  have k := sl_2_6n (x2 := 127) (x3 := 23) (T := T * 536870912) (T' := T) (m := 23) (e0 := e + 896) s (by decide) (by decide) (by rfl) (by decide +kernel) (by decide +kernel) (by omega) (by omega) 100000 (FP.f2d w) (e + 896) d (by omega) (.inl rfl) (by omega) (by decide)
  rw [Int.sub_self, show (((e + 896 : Nat) : Int) - 1023 + 127) = (e : Int) by omega, sh_23 e (by omega)] at k
  unfold gm_1 gm_2
  rw [if_pos (d6 (NB_no d)), k, Option.bind_some, h0]
  exact congrArg some (Prod.ext (by show ((e * 8388608 : Nat) : Int) + (T : Int) = _; omega) rfl)
theorem sp_1z (s : gx_S) : gm_1 0 s = some (0, s) := by
  have z : FP.f2d 0 = 0 := by decide +kernel
  unfold gm_1
  rw [z, if_pos (by decide), sp_2z s (by decide) (by decide +kernel), Option.bind_some]
/-- a double from 1/128 to 2^17, as a float -/
theorem d2f_n {x : UInt64} {e T : Nat} (h : NB x e T) (h1 : 1016 ≤ e) (h2 : e ≤ 1040) (h3 : e = 1040 → T = 0) : ∃ e' T' : Nat, NF (FP.d2f x) e' T' := by
  obtain ⟨g0, g1, g2, g3⟩ := id h
  have no := Jvm.Free.Fl.noNaN64_no.mp (NB_no h)
  have c : FP.d2f x = Jvm.FP.Core.d2f x := by
    unfold FP.d2f
    rw [if_neg (by rw [no]; decide)]
  have v : Jvm.FP.Core.val32 (Jvm.FP.Core.d2f x) = Jvm.FP.Core.roundRatio Jvm.FP.Core.b32 false (4503599627370496 + T) 1 ((e : Int) - 1075) := by
    rw [Jvm.FP.Core.val32_d2f, NB_v h]
    rfl
  rw [c]
  generalize Jvm.FP.Core.d2f x = w at v ⊢
  have nn : Jvm.FP.Core.val32 w ≠ .nan := by
    rw [v]
    exact Jvm.FP.Core.roundRatio_ne_nan _ _ _ _ _
  have sg_ := Jvm.FP.Core.sgn_bits32 nn
  rw [v, Jvm.FP.Core.sgn_roundRatio] at sg_
  have hw : w.toNat < 2147483648 := by
    have := of_decide_eq_false sg_.symm
    have : ¬ 2147483648 ≤ w.toNat := this
    omega
  have zw := Jvm.FP.Core.zmag_bits32 nn
  have mw : w.toNat % 2 ^ 31 = w.toNat := Nat.mod_eq_of_lt hw
  rw [mw, v] at zw
  have l1 : Jvm.FP.Core.val32 1006632960 = .fin false 8388608 (-30) := by decide +kernel
  have l2 : Jvm.FP.Core.val32 1207959552 = .fin false 8388608 (-6) := by decide +kernel
  have f1 := Jvm.FP.Core.val32_fits 1006632960
  have f2 := Jvm.FP.Core.val32_fits 1207959552
  have z1 := Jvm.FP.Core.zmag_bits32 (a := 1006632960) (by rw [l1]; exact Jvm.FP.Core.Datum.noConfusion)
  have z2 := Jvm.FP.Core.zmag_bits32 (a := 1207959552) (by rw [l2]; exact Jvm.FP.Core.Datum.noConfusion)
  have m1 : Jvm.FP.Core.zmag Jvm.FP.Core.b32 (Jvm.FP.Core.val32 1006632960) = 8388608 * 2 ^ 119 := by
    rw [l1]
    show Jvm.FP.Core.inUnits 8388608 (-30) Jvm.FP.Core.b32.qmin = _
    unfold Jvm.FP.Core.inUnits
    rw [show ((-30 : Int) - Jvm.FP.Core.b32.qmin).toNat = 119 from by decide]
  have m2 : Jvm.FP.Core.zmag Jvm.FP.Core.b32 (Jvm.FP.Core.val32 1207959552) = 8388608 * 2 ^ 143 := by
    rw [l2]
    show Jvm.FP.Core.inUnits 8388608 (-6) Jvm.FP.Core.b32.qmin = _
    unfold Jvm.FP.Core.inUnits
    rw [show ((-6 : Int) - Jvm.FP.Core.b32.qmin).toNat = 143 from by decide]
  have q0 : (Jvm.FP.Core.b32.qmin - -149).toNat = 0 := by decide
  have i0 : Jvm.FP.Core.inUnits (4503599627370496 + T) ((e : Int) - 1075) (-149) = (4503599627370496 + T) * 2 ^ (e - 926) := by
    show (4503599627370496 + T) * 2 ^ ((e : Int) - 1075 - -149).toNat = _
    rw [show ((e : Int) - 1075 - -149).toNat = e - 926 by omega]
  have ge := Jvm.FP.Core.zmag_roundRatio_ge (s := false) (A := 4503599627370496 + T) (B := 1) (e := (e : Int) - 1075) (e0 := -149) Jvm.FP.Core.good_b32 (by decide) f1 (by decide) (by omega) (by
    rw [m1, i0, q0]
    have p : 2 ^ 90 ≤ 2 ^ (e - 926) := Nat.pow_le_pow_right (by decide) (by omega)
    have q := Nat.mul_le_mul (show 4503599627370496 ≤ 4503599627370496 + T by omega) p
    have r : 8388608 * 2 ^ 119 * 2 ^ 0 * 1 = 4503599627370496 * 2 ^ 90 := by decide
    rw [r]
    exact q)
  have le := Jvm.FP.Core.zmag_roundRatio_le (s := false) (A := 4503599627370496 + T) (B := 1) (e := (e : Int) - 1075) (e0 := -149) Jvm.FP.Core.good_b32 (by decide) f2 (by rw [l2]; exact Jvm.FP.Core.Datum.noConfusion) (by decide) (by omega) (by
    rw [m2, i0, q0]
    by_cases q : e = 1040
    · rw [q, h3 q]
      decide
    · have p : 2 ^ (e - 926) ≤ 2 ^ 113 := Nat.pow_le_pow_right (by decide) (by omega)
      have q := Nat.mul_le_mul (show 4503599627370496 + T ≤ 9007199254740992 by omega) p
      have r : 8388608 * 2 ^ 143 * 2 ^ 0 * 1 = 9007199254740992 * 2 ^ 113 := by decide
      rw [r]
      exact q)
  rw [z1, zw] at ge
  rw [z2, zw] at le
  have ge := Jvm.FP.Core.unitsOf_le_iff.mp ge
  have le := Jvm.FP.Core.unitsOf_le_iff.mp le
  have g1 : (1006632960 : UInt32).toNat % 2 ^ 31 = 1006632960 := by decide +kernel
  have g2 : (1207959552 : UInt32).toNat % 2 ^ 31 = 1207959552 := by decide +kernel
  rw [g1] at ge
  rw [g2] at le
  exact ⟨w.toNat / 8388608, w.toNat % 8388608, by omega, by omega, by omega, by omega⟩
