/-! Bits.of: its loops over a normal double; over 0 -/
theorem sp_2_64n {x2 x3 x6 : Int} {x : UInt64} {T T' m : Nat} (s : gx_S) (h : NB x 1023 T) (hm : m ≤ 52) (hT : T = T' * 2 ^ (52 - m)) (hx : -2147483648 ≤ x6 + x2 ∧ x6 + x2 ≤ 2147483647) (hP : Jvm.FP.Core.val64 (FP.l2d (Int64.ofInt (((Int64.ofInt 1 <<< ((Int32.ofInt x3).toInt64 &&& 63))).toInt))) = .fin false 4503599627370496 ((m : Int) - 52)) (hz : ¬ Int64.ofInt (((Int64.ofInt 1 <<< ((Int32.ofInt x3).toInt64 &&& 63))).toInt) = 0) : gm_2_64 x2 x3 x x6 s = some (((Int64.ofInt (x6 + x2) <<< ((Int32.ofInt x3).toInt64 &&& 63))).toInt + T', s) := by
  obtain ⟨h0, h1, h2, h3⟩ := id h
  have t1 : T' ≤ T := by
    rw [hT]
    exact Nat.le_mul_of_pos_right _ (Nat.two_pow_pos _)
  have h4 := NB_no h
  have hf := Jvm.Free.Fl.l2d_fin (Int64.ofInt (((Int64.ofInt 1 <<< ((Int32.ofInt x3).toInt64 &&& 63))).toInt))
  have hn := Jvm.Free.Fl.l2d_nz hz
  unfold gm_2_64
  rw [if_pos ((NB_c1 h .g).mpr (by omega)), if_pos hx, if_pos (d6 (Jvm.Free.Fl.dsub_out h4 d_one.1)), if_pos (d6 (Jvm.Free.Fl.dmul_outNz (Jvm.Free.Fl.dsub_out h4 d_one.1) hf hn)), fr_ h hm hT hP, gal_ti (by omega)]
theorem sl_2_35n {x2 x3 : Int} {T T' m e0 : Nat} (s : gx_S) (h2 : 1 ≤ x2 ∧ x2 ≤ 2000) (hm : m ≤ 52) (hT : T = T' * 2 ^ (52 - m)) (hP : Jvm.FP.Core.val64 (FP.l2d (Int64.ofInt (((Int64.ofInt 1 <<< ((Int32.ofInt x3).toInt64 &&& 63))).toInt))) = .fin false 4503599627370496 ((m : Int) - 52)) (hz : ¬ Int64.ofInt (((Int64.ofInt 1 <<< ((Int32.ofInt x3).toInt64 &&& 63))).toInt) = 0) (b1 : 1023 - x2 < e0) (b2 : (e0 : Int) < x2 + 1024) : ∀ (n : Nat) (x : UInt64) (e : Nat), NB x e T → e ≤ 1023 → 1023 < n + e → gm_2_35 n x2 x3 x ((e0 : Int) - e) s = some (((Int64.ofInt ((e0 : Int) - 1023 + x2) <<< ((Int32.ofInt x3).toInt64 &&& 63))).toInt + T', s) := by
  intro n
  induction n with
  | zero => intro x e h h1 h3; omega
  | succ n ih =>
    intro x e h h1 h3
    rw [gm_2_35]
    by_cases q : e = 1023
    · subst q
      rw [if_pos ((NB_c1 h .g).mpr (by omega)), sp_2_64n s h hm hT (by omega) hP hz]
      rfl
    · have d := NB_dbl h (by omega)
      rw [if_neg (fun z => q (by have := (NB_c1 h .g).mp z; omega)), if_pos (by omega), if_pos (by omega), if_neg (by omega), if_pos (d6 (NB_no d)), show ((e0 : Int) - e + (-1)) = (e0 : Int) - ((e + 1 : Nat) : Int) by omega]
      exact ih _ (e + 1) d (by omega) (by omega)
theorem sl_2_6n {x2 x3 : Int} {T T' m e0 : Nat} (s : gx_S) (h2 : 1 ≤ x2 ∧ x2 ≤ 2000) (hm : m ≤ 52) (hT : T = T' * 2 ^ (52 - m)) (hP : Jvm.FP.Core.val64 (FP.l2d (Int64.ofInt (((Int64.ofInt 1 <<< ((Int32.ofInt x3).toInt64 &&& 63))).toInt))) = .fin false 4503599627370496 ((m : Int) - 52)) (hz : ¬ Int64.ofInt (((Int64.ofInt 1 <<< ((Int32.ofInt x3).toInt64 &&& 63))).toInt) = 0) (b1 : 1023 - x2 < e0) (b2 : (e0 : Int) < x2 + 1024) : ∀ (n : Nat) (x : UInt64) (e : Nat), NB x e T → e ≤ e0 → (e = e0 ∨ 1023 ≤ e) → e < n + 1023 → 0 < n → gm_2_6 n x2 x3 x ((e0 : Int) - e) s = some (((Int64.ofInt ((e0 : Int) - 1023 + x2) <<< ((Int32.ofInt x3).toInt64 &&& 63))).toInt + T', s) := by
  intro n
  induction n with
  | zero =>
    intro x e h h1 h3 h4 h5
    exact absurd h5 (Nat.lt_irrefl 0)
  | succ n ih =>
    intro x e h h1 h3 h4 h5
    rw [gm_2_6]
    by_cases q : e < 1024
    · rw [if_pos ((NB_c2 h .l).mpr q)]
      exact sl_2_35n s h2 hm hT hP hz b1 b2 100000 x e h (by omega) (by omega)
    · have d := NB_half h (by omega)
      rw [if_neg (fun z => q ((NB_c2 h .l).mp z)), if_pos (by omega), if_pos (by omega), if_neg (by omega), if_pos (d6 (NB_no d)), show ((e0 : Int) - e + 1) = (e0 : Int) - ((e - 1 : Nat) : Int) by omega]
      exact ih _ (e - 1) d (by omega) (by omega) (by omega) (by omega)
theorem sh_52 : ∀ e : Nat, e < 2047 → ((Int64.ofInt (e : Int) <<< ((Int32.ofInt 52).toInt64 &&& 63))).toInt = ((e * 4503599627370496 : Nat) : Int) := by decide +kernel
theorem sh_23 : ∀ e : Nat, e < 255 → ((Int64.ofInt (e : Int) <<< ((Int32.ofInt 23).toInt64 &&& 63))).toInt = ((e * 8388608 : Nat) : Int) := by decide +kernel
theorem sp_0n {x : UInt64} {e T : Nat} (s : gx_S) (h : NB x e T) : gm_0 x s = some ((x.toNat : Int), s) := by
  obtain ⟨h0, h1, h2, h3⟩ := id h
  have k := sl_2_6n (x2 := 1023) (x3 := 52) (T := T) (T' := T) (m := 52) (e0 := e) s (by decide) (by decide) (by simp) (by decide +kernel) (by decide +kernel) (by omega) (by omega) 100000 x e h (by omega) (.inl rfl) (by omega) (by decide)
  rw [Int.sub_self, show ((e : Int) - 1023 + 1023) = (e : Int) by omega, sh_52 e (by omega)] at k
  unfold gm_0 gm_2
  rw [k, Option.bind_some, h0]
  exact congrArg some (Prod.ext (by show ((e * 4503599627370496 : Nat) : Int) + (T : Int) = _; omega) rfl)
theorem sl_2_35z {x2 x3 : Int} (s : gx_S) (h2 : 1 ≤ x2 ∧ x2 ≤ 2000) (hP : FP.d2l (FP.dmul 0 (FP.l2d (Int64.ofInt (((Int64.ofInt 1 <<< ((Int32.ofInt x3).toInt64 &&& 63))).toInt)))) = 0 ∧ id_n6 (FP.dmul 0 (FP.l2d (Int64.ofInt (((Int64.ofInt 1 <<< ((Int32.ofInt x3).toInt64 &&& 63))).toInt)))) = true) : ∀ (n : Nat) (x6 : Int), x6 ≤ 0 → 1 - x2 ≤ x6 → x6 + x2 < n → gm_2_35 n x2 x3 0 x6 s = some (0, s) := by
  have c1 : ¬ 0 ≤ (Op.cmpValue (FP.dcmp 0 FP.dconst1) .g).toInt := by decide +kernel
  have c2 : FP.dmul 0 4611686018427387904 = 0 := by decide +kernel
  intro n
  induction n with
  | zero => intro x6 _ _ h; omega
  | succ n ih =>
    intro x6 a b h
    rw [gm_2_35, if_neg c1, if_pos (by omega), if_pos (by omega)]
    by_cases q : x6 ≤ 1 - x2
    · rw [if_pos q]
      unfold gm_2_64
      rw [if_neg c1, if_pos hP.2, hP.1]
      rfl
    · rw [if_neg q, c2, if_pos (by decide)]
      exact ih (x6 + (-1)) (by omega) (by omega) (by omega)
theorem sp_2z {x2 x3 : Int} (s : gx_S) (h2 : 1 ≤ x2 ∧ x2 ≤ 2000) (hP : FP.d2l (FP.dmul 0 (FP.l2d (Int64.ofInt (((Int64.ofInt 1 <<< ((Int32.ofInt x3).toInt64 &&& 63))).toInt)))) = 0 ∧ id_n6 (FP.dmul 0 (FP.l2d (Int64.ofInt (((Int64.ofInt 1 <<< ((Int32.ofInt x3).toInt64 &&& 63))).toInt)))) = true) : gm_2 0 x2 x3 s = some (0, s) := by
  unfold gm_2
  rw [show (100000 : Nat) = 99999 + 1 from rfl, gm_2_6, if_pos (by decide +kernel)]
  exact sl_2_35z s h2 hP 100000 0 (by omega) (by omega) (by omega)
theorem sp_0z (s : gx_S) : gm_0 0 s = some (0, s) := by
  unfold gm_0
  rw [sp_2z s (by decide) (by decide +kernel), Option.bind_some]
