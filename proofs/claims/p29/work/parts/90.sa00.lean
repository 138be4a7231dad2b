/-! QUERIES: apart: sets of zones -/
theorem bs_9 : ∀ v : Nat, v < 512 → ∀ c : Nat, c < 9 → 0 ≤ bset v c ∧ bset v c < 512 := by decide +kernel
theorem or_0 : ∀ v : Nat, v < 512 → (Int32.ofInt (v : Nat) ||| Int32.ofInt 0).toInt = (v : Nat) := by decide +kernel
def z0_ : gx_S := (fun _ _ => 0, fun _ _ => 0)
def bc_ (v : Int) : Int := match gm_230 v z0_ with
  | some q => q.1
  | none => 0
def nz_ (v : Int) : Int := match gm_229 v z0_ with
  | some q => q.1
  | none => 0
theorem sp_230 (v : Int) (s : gx_S) : gm_230 v s = some (bc_ v, s) := rfl
def b8_ (v : Int) : Int := ((Int32.ofInt (((Int32.ofInt v >>> (Int32.ofInt 8 &&& 31))).toInt) &&& Int32.ofInt 1)).toInt
theorem bc_r : ∀ v : Nat, v < 512 → 0 ≤ bc_ v ∧ bc_ v ≤ 9 := by decide +kernel
theorem b8_r : ∀ v : Nat, v < 512 → b8_ v = 0 ∨ b8_ v = 1 := by decide +kernel
theorem bc_1 : ∀ v : Nat, v < 512 → bc_ v = 1 → b8_ v = 0 → ∃ o, o < 8 ∧ v = 2 ^ o := by decide +kernel
theorem bc_2 : ∀ o : Nat, o < 8 → bc_ ((2 ^ o : Nat) : Int) = 1 ∧ b8_ ((2 ^ o : Nat) : Int) = 0 ∧ ((Int32.ofInt 1 <<< (Int32.ofInt (o : Nat) &&& 31))).toInt = ((2 ^ o : Nat) : Int) := by decide +kernel
