/-! QUERIES: share -/
/-- a fraction in lowest terms -/
theorem sp_127 (s : gx_S) {a b : Nat} {w : Int} (ha : a ≤ 9000000000000000000) (hb : b < 1099511627776) (b0 : 0 < b) (hw : i32 w) : gm_127 a b w s = some ((if ¬ w = 0 then (b : Int) else (a : Int)) / ((Nat.gcd a b : Nat) : Int), s) := by
  unfold i32 at hw
  have g0 : 0 < Nat.gcd a b := Nat.gcd_pos_of_pos_right a b0
  have g1 : Nat.gcd a b ≤ b := Nat.gcd_le_right a b0
  unfold gm_127
  rw [sp_128 s ha hb, Option.bind_some]
  show (if (-9223372036854775808 ≤ ((Nat.gcd a b : Nat) : Int) ∧ ((Nat.gcd a b : Nat) : Int) ≤ 9223372036854775807) then (if ¬ ((Nat.gcd a b : Nat) : Int) = 0 then (if (-2147483648 ≤ w ∧ w ≤ 2147483647) then (if ¬ w = 0 then gm_127_28 ((Nat.gcd a b : Nat) : Int) b s else gm_127_28 ((Nat.gcd a b : Nat) : Int) a s) else none) else some ((-1), s)) else none) = _
  rw [if_pos (by omega), if_pos (show ¬ ((Nat.gcd a b : Nat) : Int) = 0 by omega), if_pos hw]
  unfold gm_127_28
  by_cases z : ¬ w = 0
  · rw [if_pos z, if_pos z, if_pos (by omega)]
  · rw [if_neg z, if_neg z, if_pos (by omega)]
theorem sp_194 (s : gx_S) {a b : Nat} {w : Int} (ha : a ≤ 9000000000000000000) (hb : b < 1099511627776) (b0 : 0 < b) (hw : i32 w) : gm_194 a b w s = some ((if ¬ w = 0 then (b : Int) else (a : Int)) / ((Nat.gcd a b : Nat) : Int), s) := by
  unfold i32 at hw
  have g0 : 0 < Nat.gcd a b := Nat.gcd_pos_of_pos_right a b0
  have g1 : Nat.gcd a b ≤ b := Nat.gcd_le_right a b0
  unfold gm_194
  rw [sp_164 s ha hb, Option.bind_some, if_pos hw]
  by_cases z : ¬ w = 0
  · rw [if_pos z, if_pos z, if_pos (by omega)]
  · rw [if_neg z, if_neg z, if_pos (by omega)]
theorem sp_118 {s : gx_S} {f : Nat → Int} {R C : Nat} {x y : Int} (m : MR s 1 f R C) (M : MP f R C) (hx : i32 x) (hy : i32 y) : gm_118 x y s = some (decide ((0 ≤ x ∧ x < 3) ∧ (0 ≤ y ∧ y ≤ 8) ∧ f 2 = 7), s) := by
  have hy' := hy
  unfold i32 at hy'
  have e6 : s.1 1 6 = f 2 := m.2.2.1
  have c57 := sp_57 (s := s) (a := 1) (by decide +kernel) (by rw [e6]; exact M.2.1)
  rw [e6] at c57
  unfold gm_118
  rw [sp_114 s hx, Option.bind_some]
  by_cases a : 0 ≤ x ∧ x < 3
  · rw [if_neg (fun q => (gbD s).mp q a), if_pos hy']
    by_cases b : y < 0
    · rw [if_pos b, decide_eq_false (show ¬ ((0 ≤ x ∧ x < 3) ∧ (0 ≤ y ∧ y ≤ 8) ∧ f 2 = 7) by omega)]
    · rw [if_neg b]
      by_cases d : 8 < y
      · rw [if_pos d, decide_eq_false (show ¬ ((0 ≤ x ∧ x < 3) ∧ (0 ≤ y ∧ y ≤ 8) ∧ f 2 = 7) by omega)]
      · rw [if_neg d]
        show ((gm_57 1 s).bind _) = _
        rw [c57, Option.bind_some]
        by_cases e : f 2 = 7
        · rw [if_neg (fun q => (gbD s).mp q e), decide_eq_true (show (0 ≤ x ∧ x < 3) ∧ (0 ≤ y ∧ y ≤ 8) ∧ f 2 = 7 by omega)]
        · rw [if_pos ((gbD s).mpr e), decide_eq_false (show ¬ ((0 ≤ x ∧ x < 3) ∧ (0 ≤ y ∧ y ≤ 8) ∧ f 2 = 7) by omega)]
  · rw [if_pos ((gbD s).mpr a), decide_eq_false (show ¬ ((0 ≤ x ∧ x < 3) ∧ (0 ≤ y ∧ y ≤ 8) ∧ f 2 = 7) by omega)]
