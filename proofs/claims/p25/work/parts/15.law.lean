/-! THE LAW'S OWN BYTES -/
set_option maxRecDepth 1000000 in
theorem iv_ckB_0 : (List.range 1130).all (fun p => !(Nat.beq (p / 100) 0) || iv_ckp 236 p) = true := by decide +kernel
set_option maxRecDepth 1000000 in
theorem iv_ckB_1 : (List.range 1130).all (fun p => !(Nat.beq (p / 100) 1) || iv_ckp 236 p) = true := by decide +kernel
set_option maxRecDepth 1000000 in
theorem iv_ckB_2 : (List.range 1130).all (fun p => !(Nat.beq (p / 100) 2) || iv_ckp 236 p) = true := by decide +kernel
set_option maxRecDepth 1000000 in
theorem iv_ckB_3 : (List.range 1130).all (fun p => !(Nat.beq (p / 100) 3) || iv_ckp 236 p) = true := by decide +kernel
set_option maxRecDepth 1000000 in
theorem iv_ckB_4 : (List.range 1130).all (fun p => !(Nat.beq (p / 100) 4) || iv_ckp 236 p) = true := by decide +kernel
set_option maxRecDepth 1000000 in
theorem iv_ckB_5 : (List.range 1130).all (fun p => !(Nat.beq (p / 100) 5) || iv_ckp 236 p) = true := by decide +kernel
set_option maxRecDepth 1000000 in
theorem iv_ckB_6 : (List.range 1130).all (fun p => !(Nat.beq (p / 100) 6) || iv_ckp 236 p) = true := by decide +kernel
set_option maxRecDepth 1000000 in
theorem iv_ckB_7 : (List.range 1130).all (fun p => !(Nat.beq (p / 100) 7) || iv_ckp 236 p) = true := by decide +kernel
set_option maxRecDepth 1000000 in
theorem iv_ckB_8 : (List.range 1130).all (fun p => !(Nat.beq (p / 100) 8) || iv_ckp 236 p) = true := by decide +kernel
set_option maxRecDepth 1000000 in
theorem iv_ckB_9 : (List.range 1130).all (fun p => !(Nat.beq (p / 100) 9) || iv_ckp 236 p) = true := by decide +kernel
set_option maxRecDepth 1000000 in
theorem iv_ckB_10 : (List.range 1130).all (fun p => !(Nat.beq (p / 100) 10) || iv_ckp 236 p) = true := by decide +kernel
set_option maxRecDepth 1000000 in
theorem iv_ckB_11 : (List.range 1130).all (fun p => !(Nat.beq (p / 100) 11) || iv_ckp 236 p) = true := by decide +kernel
theorem iv_ln236 : iv_ln 236 = 1130 := by decide +kernel
theorem iv_ckB_all (p : Nat) (h : p < 1130) : iv_ckp 236 p = true := by
  have hk : p / 100 = 0 ∨ p / 100 = 1 ∨ p / 100 = 2 ∨ p / 100 = 3 ∨ p / 100 = 4 ∨ p / 100 = 5 ∨ p / 100 = 6 ∨ p / 100 = 7 ∨ p / 100 = 8 ∨ p / 100 = 9 ∨ p / 100 = 10 ∨ p / 100 = 11 := by omega
  rcases hk with e | e | e | e | e | e | e | e | e | e | e | e
  · have a := List.all_eq_true.mp iv_ckB_0 p (List.mem_range.mpr h)
    rw [e] at a
    exact a
  · have a := List.all_eq_true.mp iv_ckB_1 p (List.mem_range.mpr h)
    rw [e] at a
    exact a
  · have a := List.all_eq_true.mp iv_ckB_2 p (List.mem_range.mpr h)
    rw [e] at a
    exact a
  · have a := List.all_eq_true.mp iv_ckB_3 p (List.mem_range.mpr h)
    rw [e] at a
    exact a
  · have a := List.all_eq_true.mp iv_ckB_4 p (List.mem_range.mpr h)
    rw [e] at a
    exact a
  · have a := List.all_eq_true.mp iv_ckB_5 p (List.mem_range.mpr h)
    rw [e] at a
    exact a
  · have a := List.all_eq_true.mp iv_ckB_6 p (List.mem_range.mpr h)
    rw [e] at a
    exact a
  · have a := List.all_eq_true.mp iv_ckB_7 p (List.mem_range.mpr h)
    rw [e] at a
    exact a
  · have a := List.all_eq_true.mp iv_ckB_8 p (List.mem_range.mpr h)
    rw [e] at a
    exact a
  · have a := List.all_eq_true.mp iv_ckB_9 p (List.mem_range.mpr h)
    rw [e] at a
    exact a
  · have a := List.all_eq_true.mp iv_ckB_10 p (List.mem_range.mpr h)
    rw [e] at a
    exact a
  · have a := List.all_eq_true.mp iv_ckB_11 p (List.mem_range.mpr h)
    rw [e] at a
    exact a
theorem iv_ck1_all (i : Nat) (h : i < 237) : iv_ck1 i = true := by
  by_cases hl : i = 236
  · subst hl
    unfold iv_ck1
    rw [iv_ln236]
    exact List.all_eq_true.mpr fun p hp => iv_ckB_all p (List.mem_range.mp hp)
  have h2 : i < 236 := by omega
  have hk : i / 10 = 0 ∨ i / 10 = 1 ∨ i / 10 = 2 ∨ i / 10 = 3 ∨ i / 10 = 4 ∨ i / 10 = 5 ∨ i / 10 = 6 ∨ i / 10 = 7 ∨ i / 10 = 8 ∨ i / 10 = 9 ∨ i / 10 = 10 ∨ i / 10 = 11 ∨ i / 10 = 12 ∨ i / 10 = 13 ∨ i / 10 = 14 ∨ i / 10 = 15 ∨ i / 10 = 16 ∨ i / 10 = 17 ∨ i / 10 = 18 ∨ i / 10 = 19 ∨ i / 10 = 20 ∨ i / 10 = 21 ∨ i / 10 = 22 ∨ i / 10 = 23 := by omega
  rcases hk with e | e | e | e | e | e | e | e | e | e | e | e | e | e | e | e | e | e | e | e | e | e | e | e
  · have a := List.all_eq_true.mp iv_ckA_0 i (List.mem_range.mpr h2)
    rw [e] at a
    exact a
  · have a := List.all_eq_true.mp iv_ckA_1 i (List.mem_range.mpr h2)
    rw [e] at a
    exact a
  · have a := List.all_eq_true.mp iv_ckA_2 i (List.mem_range.mpr h2)
    rw [e] at a
    exact a
  · have a := List.all_eq_true.mp iv_ckA_3 i (List.mem_range.mpr h2)
    rw [e] at a
    exact a
  · have a := List.all_eq_true.mp iv_ckA_4 i (List.mem_range.mpr h2)
    rw [e] at a
    exact a
  · have a := List.all_eq_true.mp iv_ckA_5 i (List.mem_range.mpr h2)
    rw [e] at a
    exact a
  · have a := List.all_eq_true.mp iv_ckA_6 i (List.mem_range.mpr h2)
    rw [e] at a
    exact a
  · have a := List.all_eq_true.mp iv_ckA_7 i (List.mem_range.mpr h2)
    rw [e] at a
    exact a
  · have a := List.all_eq_true.mp iv_ckA_8 i (List.mem_range.mpr h2)
    rw [e] at a
    exact a
  · have a := List.all_eq_true.mp iv_ckA_9 i (List.mem_range.mpr h2)
    rw [e] at a
    exact a
  · have a := List.all_eq_true.mp iv_ckA_10 i (List.mem_range.mpr h2)
    rw [e] at a
    exact a
  · have a := List.all_eq_true.mp iv_ckA_11 i (List.mem_range.mpr h2)
    rw [e] at a
    exact a
  · have a := List.all_eq_true.mp iv_ckA_12 i (List.mem_range.mpr h2)
    rw [e] at a
    exact a
  · have a := List.all_eq_true.mp iv_ckA_13 i (List.mem_range.mpr h2)
    rw [e] at a
    exact a
  · have a := List.all_eq_true.mp iv_ckA_14 i (List.mem_range.mpr h2)
    rw [e] at a
    exact a
  · have a := List.all_eq_true.mp iv_ckA_15 i (List.mem_range.mpr h2)
    rw [e] at a
    exact a
  · have a := List.all_eq_true.mp iv_ckA_16 i (List.mem_range.mpr h2)
    rw [e] at a
    exact a
  · have a := List.all_eq_true.mp iv_ckA_17 i (List.mem_range.mpr h2)
    rw [e] at a
    exact a
  · have a := List.all_eq_true.mp iv_ckA_18 i (List.mem_range.mpr h2)
    rw [e] at a
    exact a
  · have a := List.all_eq_true.mp iv_ckA_19 i (List.mem_range.mpr h2)
    rw [e] at a
    exact a
  · have a := List.all_eq_true.mp iv_ckA_20 i (List.mem_range.mpr h2)
    rw [e] at a
    exact a
  · have a := List.all_eq_true.mp iv_ckA_21 i (List.mem_range.mpr h2)
    rw [e] at a
    exact a
  · have a := List.all_eq_true.mp iv_ckA_22 i (List.mem_range.mpr h2)
    rw [e] at a
    exact a
  · have a := List.all_eq_true.mp iv_ckA_23 i (List.mem_range.mpr h2)
    rw [e] at a
    exact a
