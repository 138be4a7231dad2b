/-! FEED: the bytes of an int -/
theorem by_m (i : Nat) (h : i < 32) : (255#32).getLsbD i = decide (i < 8) := by
  have : ∀ i, i < 32 → (255#32).getLsbD i = decide (i < 8) := by decide +kernel
  exact this i h
theorem by_b (b : BitVec 32) (n : Nat) (hn : n ≤ 24) : (((((b.sshiftRight n).signExtend 8).signExtend 32).signExtend 8).signExtend 32 &&& 255#32) = ((b >>> n) &&& 255#32) := by
  apply BitVec.eq_of_getLsbD_eq
  intro i hi
  rw [BitVec.getLsbD_and, BitVec.getLsbD_and, by_m i hi]
  by_cases h : i < 8
  · rw [BitVec.getLsbD_signExtend, BitVec.getLsbD_signExtend, BitVec.getLsbD_signExtend, BitVec.getLsbD_signExtend, BitVec.getLsbD_sshiftRight, BitVec.getLsbD_ushiftRight]
    have a : n + i < 32 := by omega
    simp [h, hi, a, show ¬ 32 ≤ i by omega]
  · rw [decide_eq_false h, Bool.and_false, Bool.and_false]
def cby (x k : Int) : Int := ((Int32.ofInt ((((Int32.ofInt x).toUInt32 >>> ((Int32.ofInt k).toUInt32 &&& Int32.toUInt32 31)).toInt32).toInt) &&& Int32.ofInt 255)).toInt
def rb_ (x k : Int) : Int := gn3 (((Int32.ofInt (((Int32.ofInt x >>> (Int32.ofInt k &&& 31))).toInt)).toInt8.toInt32).toInt)
theorem cby_r (x k : Int) : 0 ≤ cby x k ∧ cby x k ≤ 255 := by
  unfold cby
  obtain ⟨Y, hY⟩ : ∃ Y : Int32, Y = Int32.ofInt ((((Int32.ofInt x).toUInt32 >>> ((Int32.ofInt k).toUInt32 &&& Int32.toUInt32 31)).toInt32).toInt) := ⟨_, rfl⟩
  rw [← hY]
  have e : (Y &&& Int32.ofInt 255).toInt = (Y.toBitVec &&& 255#32).toInt := rfl
  have n : (Y.toBitVec &&& 255#32).toNat ≤ 255 := by
    rw [BitVec.toNat_and]
    exact Nat.and_le_right
  rw [e, BitVec.toInt_eq_toNat_of_lt (by omega)]
  omega
theorem by_s (X : Int32) (n : Nat) (k : Int) (h : (n = 24 ∧ k = 24) ∨ (n = 16 ∧ k = 16) ∨ (n = 8 ∧ k = 8) ∨ (n = 0 ∧ k = 0)) : (X >>> (Int32.ofInt k &&& 31)).toBitVec = X.toBitVec.sshiftRight n := by
  have e : ((Int32.ofInt k &&& 31).toBitVec.smod 32).toNat = n := by
    rcases h with ⟨h1, h2⟩ | ⟨h1, h2⟩ | ⟨h1, h2⟩ | ⟨h1, h2⟩
    · rw [h1, h2]; decide +kernel
    · rw [h1, h2]; decide +kernel
    · rw [h1, h2]; decide +kernel
    · rw [h1, h2]; decide +kernel
  rw [Int32.toBitVec_shiftRight, BitVec.sshiftRight', e]
theorem by_u (X : UInt32) (n : Nat) (k : Int) (h : (n = 24 ∧ k = 24) ∨ (n = 16 ∧ k = 16) ∨ (n = 8 ∧ k = 8) ∨ (n = 0 ∧ k = 0)) : (X >>> ((Int32.ofInt k).toUInt32 &&& Int32.toUInt32 31)).toBitVec = X.toBitVec >>> n := by
  have e : (((Int32.ofInt k).toUInt32 &&& Int32.toUInt32 31).toBitVec % 32).toNat = n := by
    rcases h with ⟨h1, h2⟩ | ⟨h1, h2⟩ | ⟨h1, h2⟩ | ⟨h1, h2⟩
    · rw [h1, h2]; decide +kernel
    · rw [h1, h2]; decide +kernel
    · rw [h1, h2]; decide +kernel
    · rw [h1, h2]; decide +kernel
  rw [UInt32.toBitVec_shiftRight, BitVec.ushiftRight_eq', e]
theorem by_k (X : Int32) (n : Nat) (k : Int) (h : (n = 24 ∧ k = 24) ∨ (n = 16 ∧ k = 16) ∨ (n = 8 ∧ k = 8) ∨ (n = 0 ∧ k = 0)) : ((X >>> (Int32.ofInt k &&& 31)).toInt8.toInt32.toInt8.toInt32 &&& Int32.ofInt 255) = ((X.toUInt32 >>> ((Int32.ofInt k).toUInt32 &&& Int32.toUInt32 31)).toInt32 &&& Int32.ofInt 255) := by
  have e := by_b X.toBitVec n (by omega)
  have a := by_s X n k h
  have b := by_u X.toUInt32 n k h
  refine Int32.toBitVec_inj.mp ?_
  have e1 : ((X >>> (Int32.ofInt k &&& 31)).toInt8.toInt32.toInt8.toInt32 &&& Int32.ofInt 255).toBitVec = ((((((X >>> (Int32.ofInt k &&& 31)).toBitVec).signExtend 8).signExtend 32).signExtend 8).signExtend 32 &&& 255#32) := by
    rw [Int32.toBitVec_and, Int8.toBitVec_toInt32, Int32.toBitVec_toInt8, Int8.toBitVec_toInt32, Int32.toBitVec_toInt8, show (Int32.ofInt 255).toBitVec = 255#32 by decide +kernel]
  have e2 : ((X.toUInt32 >>> ((Int32.ofInt k).toUInt32 &&& Int32.toUInt32 31)).toInt32 &&& Int32.ofInt 255).toBitVec = ((X.toUInt32 >>> ((Int32.ofInt k).toUInt32 &&& Int32.toUInt32 31)).toBitVec &&& 255#32) := rfl
  rw [e1, e2, a, b, e]
  rfl
theorem cb_rb {x k : Int} (h : k = 24 ∨ k = 16 ∨ k = 8 ∨ k = 0) : (Int32.ofInt (rb_ x k) &&& Int32.ofInt 255).toInt = cby x k := by
  have e : Int32.ofInt (rb_ x k) = (Int32.ofInt x >>> (Int32.ofInt k &&& 31)).toInt8.toInt32.toInt8.toInt32 := by
    unfold rb_ gn3
    rw [Int32.ofInt_toInt, Int32.ofInt_toInt, Int32.ofInt_toInt]
    rfl
  unfold cby
  rw [e, Int32.ofInt_toInt, by_k (Int32.ofInt x) k.toNat k (by omega)]
