/-! DOUBLES THAT ARE NO NaN: what the queries compute with; Bits.of answers -/
theorem d6 {x : UInt64} (h : Jvm.Free.Fl.NoNaN64 x) : id_n6 x = true := decide_eq_true h
theorem d3 {x : UInt32} (h : Jvm.Free.Fl.NoNaN32 x) : id_n3 x = true := decide_eq_true h
theorem d_q {a b : Int32} (hb : ¬ b = 0) : Jvm.Free.Fl.Mag64 1095 (FP.ddiv (FP.i2d a) (FP.i2d b)) := by
  have hz : b.toInt ≠ 0 := fun h => hb (Int32.toInt_inj.mp (h.trans Int32.toInt_zero.symm))
  have h2 := Jvm.FP.Core.i2d_big hz
  have h1 := Jvm.FP.Core.ddiv_mag (K := 1056) (L := 1023) (Jvm.FP.Core.i2d_mag a) h2.1 h2.2 (by decide) (by decide)
  exact Nat.lt_of_lt_of_le h1 (by decide)
theorem d_l {a : Int64} {b : Int32} (hb : ¬ b = 0) : Jvm.Free.Fl.Mag64 1095 (FP.ddiv (FP.l2d a) (FP.i2d b)) := by
  have hz : b.toInt ≠ 0 := fun h => hb (Int32.toInt_inj.mp (h.trans Int32.toInt_zero.symm))
  have h2 := Jvm.FP.Core.i2d_big hz
  have h1 := Jvm.FP.Core.ddiv_mag (K := 1088) (L := 1023) (Jvm.FP.Core.l2d_mag a) h2.1 h2.2 (by decide) (by decide)
  exact Nat.lt_of_lt_of_le h1 (by decide)
theorem d_two : Jvm.Free.Fl.Fin64 4611686018427387904 ∧ Jvm.Free.Fl.Nz64 4611686018427387904 := by unfold Jvm.Free.Fl.Fin64 Jvm.Free.Fl.Nz64; decide
theorem d_half : Jvm.Free.Fl.Fin64 4602678819172646912 ∧ Jvm.Free.Fl.Nz64 4602678819172646912 := by unfold Jvm.Free.Fl.Fin64 Jvm.Free.Fl.Nz64; decide
theorem d_one : Jvm.Free.Fl.Fin64 FP.dconst1 ∧ Jvm.Free.Fl.Nz64 FP.dconst1 := by unfold Jvm.Free.Fl.Fin64 Jvm.Free.Fl.Nz64 FP.dconst1; decide
theorem d_abs {K : Nat} {x : UInt64} (h : Jvm.Free.Fl.Mag64 K x) : Jvm.Free.Fl.Mag64 K (x &&& 0x7fffffffffffffff) := by
  unfold Jvm.Free.Fl.Mag64 at h ⊢
  rw [Jvm.Free.Fl.abs_toNat]
  omega
theorem d_0 : Jvm.Free.Fl.Mag64 1100 FP.dconst0 := by unfold Jvm.Free.Fl.Mag64 FP.dconst0; decide
theorem sp_2_64 {x2 x3 x6 : Int} {x4 : UInt64} (s : gx_S) (h4 : Jvm.Free.Fl.NoNaN64 x4) (hx : -2147483648 ≤ x6 + x2 ∧ x6 + x2 ≤ 2147483647) (hz : ¬ Int64.ofInt (((Int64.ofInt 1 <<< ((Int32.ofInt x3).toInt64 &&& 63))).toInt) = 0) : ∃ r : Int, gm_2_64 x2 x3 x4 x6 s = some (r, s) := by
  have hf := Jvm.Free.Fl.l2d_fin (Int64.ofInt (((Int64.ofInt 1 <<< ((Int32.ofInt x3).toInt64 &&& 63))).toInt))
  have hn := Jvm.Free.Fl.l2d_nz hz
  unfold gm_2_64
  by_cases q : 0 ≤ (Op.cmpValue (FP.dcmp x4 FP.dconst1) .g).toInt
  · rw [if_pos q, if_pos hx, if_pos (d6 (Jvm.Free.Fl.dsub_out h4 d_one.1)), if_pos (d6 (Jvm.Free.Fl.dmul_outNz (Jvm.Free.Fl.dsub_out h4 d_one.1) hf hn))]
    exact ⟨_, rfl⟩
  · rw [if_neg q, if_pos (d6 (Jvm.Free.Fl.dmul_outNz h4 hf hn))]
    exact ⟨_, rfl⟩
theorem sl_2_35 {x2 x3 : Int} (s : gx_S) (h2 : 1 ≤ x2 ∧ x2 ≤ 2000) (hz : ¬ Int64.ofInt (((Int64.ofInt 1 <<< ((Int32.ofInt x3).toInt64 &&& 63))).toInt) = 0) : ∀ (n : Nat) (x4 : UInt64) (x6 : Int), Jvm.Free.Fl.NoNaN64 x4 → 1 - x2 ≤ x6 → x6 ≤ x2 → x6 + x2 < n → ∃ r : Int, gm_2_35 n x2 x3 x4 x6 s = some (r, s) := by
  intro n
  induction n with
  | zero => intro x4 x6 _ _ _ h; omega
  | succ n ih =>
    intro x4 x6 h4 h5 h6 h
    rw [gm_2_35]
    by_cases q : 0 ≤ (Op.cmpValue (FP.dcmp x4 FP.dconst1) .g).toInt
    · rw [if_pos q]
      exact sp_2_64 s h4 (by omega) hz
    · rw [if_neg q, if_pos (by omega), if_pos (by omega)]
      by_cases y : x6 ≤ 1 - x2
      · rw [if_pos y]
        exact sp_2_64 s h4 (by omega) hz
      · rw [if_neg y, if_pos (d6 (Jvm.Free.Fl.dmul_outNz h4 d_two.1 d_two.2))]
        exact ih _ _ (Jvm.Free.Fl.dmul_outNz h4 d_two.1 d_two.2) (by omega) (by omega) (by omega)
theorem sl_2_6 {x2 x3 : Int} (s : gx_S) (h2 : 1 ≤ x2 ∧ x2 ≤ 2000) (hz : ¬ Int64.ofInt (((Int64.ofInt 1 <<< ((Int32.ofInt x3).toInt64 &&& 63))).toInt) = 0) : ∀ (n : Nat) (x4 : UInt64) (x6 : Int), Jvm.Free.Fl.NoNaN64 x4 → 0 ≤ x6 → x6 ≤ x2 → x2 - x6 < n → ∃ r : Int, gm_2_6 n x2 x3 x4 x6 s = some (r, s) := by
  intro n
  induction n with
  | zero => intro x4 x6 _ _ _ h; omega
  | succ n ih =>
    intro x4 x6 h4 h5 h6 h
    rw [gm_2_6]
    by_cases q : (Op.cmpValue (FP.dcmp x4 (4611686018427387904 : UInt64)) .l).toInt < 0
    · rw [if_pos q]
      exact sl_2_35 s h2 hz 100000 x4 x6 h4 (by omega) (by omega) (by omega)
    · rw [if_neg q, if_pos (by omega), if_pos (by omega)]
      by_cases y : x2 ≤ x6
      · rw [if_pos y]
        exact sl_2_35 s h2 hz 100000 x4 x6 h4 (by omega) (by omega) (by omega)
      · rw [if_neg y, if_pos (d6 (Jvm.Free.Fl.ddiv_out h4 d_two.1 d_two.2))]
        exact ih _ _ (Jvm.Free.Fl.ddiv_out h4 d_two.1 d_two.2) (by omega) (by omega) (by omega)
theorem sp_0 {x : UInt64} (s : gx_S) (h : Jvm.Free.Fl.NoNaN64 x) : ∃ r : Int, gm_0 x s = some (r, s) := by
  obtain ⟨r, e⟩ := sl_2_6 (x2 := 1023) (x3 := 52) s (by decide) (by decide +kernel) 100000 x 0 h (by decide) (by decide) (by decide)
  unfold gm_0 gm_2
  exact ⟨r, gb_bind e rfl⟩
theorem sp_1 {x : UInt32} (s : gx_S) (h : Jvm.Free.Fl.NoNaN32 x) : ∃ r : Int, gm_1 x s = some (r, s) := by
  have h2 := Jvm.Free.Fl.f2d_out h
  obtain ⟨r, e⟩ := sl_2_6 (x2 := 127) (x3 := 23) s (by decide) (by decide +kernel) 100000 (FP.f2d x) 0 h2 (by decide) (by decide) (by decide)
  unfold gm_1 gm_2
  rw [if_pos (d6 h2)]
  exact ⟨r, gb_bind e rfl⟩
