/-! THE READ-ONLY THINGS: 0 the script, 1 and 2 the digits, 3 and 5 the texts "," and "", 4 and 6 their bytes -/
def dz_1 (j : Nat) : Int32 := Int32.ofNat (48 + j % 10)
def dz_2 (j : Nat) : Int32 := Int32.ofNat (48 + j / 10 % 10)
def dz_4 (_ : Nat) : Int32 := 44
def dz_6 (_ : Nat) : Int32 := 0
def dZ (z : iv_Z) (L : Nat) (xs : Nat → Int32) : Prop := z 0 = some (.inr (0, L, .inl xs)) ∧ L ≤ 60000000 ∧ z 1 = some (.inr (3, 100, .inl dz_1)) ∧ z 2 = some (.inr (3, 100, .inl dz_2)) ∧ z 3 = some (.inl (12, [.retAddr 4, .int (Int32.ofInt 0)])) ∧ z 4 = some (.inr (3, 1, .inl dz_4)) ∧ z 5 = some (.inl (12, [.retAddr 6, .int (Int32.ofInt 0)])) ∧ z 6 = some (.inr (3, 0, .inl dz_6))
section
variable {z : iv_Z} {L : Nat} {xs : Nat → Int32}
theorem dz_zi {k t n : Nat} {f : Nat → Int32} (h : z k = some (.inr (t, n, .inl f))) : iv_zi z k = some (t, n, f) := by
  unfold iv_zi
  rw [h]
theorem dz_a0 (hz : dZ z L xs) : iv_zi z 0 = some (0, L, xs) := dz_zi hz.1
theorem dz_a1 (hz : dZ z L xs) : iv_zi z 1 = some (3, 100, dz_1) := dz_zi hz.2.2.1
theorem dz_a2 (hz : dZ z L xs) : iv_zi z 2 = some (3, 100, dz_2) := dz_zi hz.2.2.2.1
theorem dz_a4 (hz : dZ z L xs) : iv_zi z 4 = some (3, 1, dz_4) := dz_zi hz.2.2.2.2.2.1
theorem dz_a6 (hz : dZ z L xs) : iv_zi z 6 = some (3, 0, dz_6) := dz_zi hz.2.2.2.2.2.2.2
theorem dz_n0 (hz : dZ z L xs) : L ≤ 60000000 := hz.2.1
theorem dz_n1 (_ : dZ z L xs) : 100 ≤ 60000000 := by decide
theorem dz_n2 (_ : dZ z L xs) : 100 ≤ 60000000 := by decide
theorem dz_n4 (_ : dZ z L xs) : 1 ≤ 60000000 := by decide
theorem dz_n6 (_ : dZ z L xs) : 0 ≤ 60000000 := by decide
theorem dz_is3 (hz : dZ z L xs) : (z 3).isSome = true := by rw [hz.2.2.2.2.1]; rfl
theorem dz_is5 (hz : dZ z L xs) : (z 5).isSome = true := by rw [hz.2.2.2.2.2.2.1]; rfl
theorem dz_o3 (hz : dZ z L xs) : iv_zo z 3 12 = true := by unfold iv_zo; rw [hz.2.2.2.2.1]; exact decide_eq_true rfl
theorem dz_o5 (hz : dZ z L xs) : iv_zo z 5 12 = true := by unfold iv_zo; rw [hz.2.2.2.2.2.2.1]; exact decide_eq_true rfl
theorem dz_zf {k mi idx j : Nat} {fs : List Value} {w : Value} (h : z k = some (.inl (12, fs))) (h1 : iv_fd (iv_kf mi) idx = some (12, j)) (h2 : iv_fn (iv_kf mi) idx = none) (h3 : fs[j]? = some w) : iv_zf z mi idx k = some w := by
  unfold iv_zf
  rw [h1]
  dsimp only
  rw [h]
  dsimp only
  rw [if_pos ⟨rfl, h2⟩]
  exact h3
theorem dz_f3 {mi idx j : Nat} {w : Value} (hz : dZ z L xs) (h1 : iv_fd (iv_kf mi) idx = some (12, j)) (h2 : iv_fn (iv_kf mi) idx = none) (h3 : ([.retAddr 4, .int (Int32.ofInt 0)] : List Value)[j]? = some w) : iv_zf z mi idx 3 = some w := dz_zf hz.2.2.2.2.1 h1 h2 h3
theorem dz_f5 {mi idx j : Nat} {w : Value} (hz : dZ z L xs) (h1 : iv_fd (iv_kf mi) idx = some (12, j)) (h2 : iv_fn (iv_kf mi) idx = none) (h3 : ([.retAddr 6, .int (Int32.ofInt 0)] : List Value)[j]? = some w) : iv_zf z mi idx 5 = some w := dz_zf hz.2.2.2.2.2.2.1 h1 h2 h3
end
theorem dok_z {x : Int} (h : x = 0 ∨ x = 1) : iv_ok .boolean (.int (Int32.ofInt x)) = true := by rcases h with e | e <;> subst e <;> decide +kernel
theorem dok_c {x : Int} (h : 0 ≤ x ∧ x ≤ 65535) : iv_ok .char (.int (Int32.ofInt x)) = true := by
  have e : (Int32.ofInt x).toInt = x := ga_ti ⟨by omega, by omega⟩
  have hu : (Int32.ofInt x).toUInt32.toNat = x.toNat := by
    show (BitVec.ofInt 32 x).toNat = _
    rw [BitVec.toNat_ofInt, Int.emod_eq_of_lt h.1 (by show x < 4294967296; omega)]
  have e3 : (Int32.ofInt x).toUInt32.toUInt16.toUInt32 = (Int32.ofInt x).toUInt32 := by
    apply UInt32.toNat_inj.mp
    rw [UInt16.toNat_toUInt32, UInt32.toNat_toUInt16, hu]
    exact Nat.mod_eq_of_lt (by show x.toNat < 65536; omega)
  have e2 : (Int32.ofInt x).toUInt32.toUInt16.toUInt32.toInt32 = Int32.ofInt x := by
    rw [e3]
    rfl
  show (decide (_ = _) && (decide (0 ≤ Int32.ofInt x) && decide (Int32.ofInt x ≤ 65535))) = true
  rw [decide_eq_true e2, decide_eq_true (show (0 : Int32) ≤ Int32.ofInt x by rw [Int32.le_iff_toInt_le, e]; exact h.1), decide_eq_true (show Int32.ofInt x ≤ 65535 by rw [Int32.le_iff_toInt_le, e]; exact h.2)]
  rfl
theorem dok_b {x : Int} (h : -128 ≤ x ∧ x ≤ 127) : iv_ok .byte (.int (Int32.ofInt x)) = true := by
  have e : (Int32.ofInt x).toInt = x := ga_ti ⟨by omega, by omega⟩
  have e2 : (Int32.ofInt x).toInt8.toInt32 = Int32.ofInt x := by
    rw [← Int32.toInt_inj, Int8.toInt_toInt32, Int32.toInt_toInt8, e]
    exact Int.bmod_eq_of_le (by omega) (by omega)
  exact decide_eq_true e2
theorem da_divn {a b : Int32} {x y : Int} (ha : a = Int32.ofInt x) (hb : b = Int32.ofInt y) (h : -2147483648 < x ∧ x ≤ 0) (hy : 0 < y ∧ y ≤ 2147483647) : a / b = Int32.ofInt (-((-x) / y)) := by
  have e0 : -((-x) / y) = x.tdiv y := by
    have e := Int.tdiv_eq_ediv_of_nonneg (a := -x) (b := y) (by omega)
    rw [← e, Int.neg_tdiv, Int.neg_neg]
  have hm1 : Int32.minValue.toInt = -2147483648 := rfl
  have hm2 : Int32.maxValue.toInt = 2147483647 := rfl
  rw [ha, hb, e0, Int32.ofInt_tdiv (by rw [hm1]; omega) (by rw [hm2]; omega) (by rw [hm1]; omega) (by rw [hm2]; omega)]
def drk (t : FieldType) : Bool := match t with
  | .object _ => true
  | .array _ => true
  | _ => false
theorem dok_r {ci j q : Nat} (h : drk (iv_ft ci j) = true) : iv_ok (iv_ft ci j) (.ref q) = true := by
  generalize iv_ft ci j = t at h ⊢
  cases t <;> first | rfl | cases h
