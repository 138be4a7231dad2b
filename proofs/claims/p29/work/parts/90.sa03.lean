/-! QUERIES: apart, whole -/
def ulk (f : Nat → Int) (C n : Nat) : Int := sg (fun k => if f (52 + 96 * 0 + 12 * (k / C) + k % C) = f (52 + 96 * 1 + 12 * (k / C) + k % C) then 0 else 1) n
theorem sl_64 {s : gx_S} {f : Nat → Int} {R C : Nat} (m : MR s 1 f R C) (M : MP f R C) (T : TT f) : ∀ (n k : Nat), R * C < n + k → k ≤ R * C → gm_64_9 n 1 ((R * C : Nat) : Int) (ulk f C k) k s = some (ulk f C (R * C), s) := by
  have hRC := RC_96 M.1.2.2.1 M.1.2.2.2
  intro n
  induction n with
  | zero => intro k h; omega
  | succ n ih =>
    intro k h hk
    rw [gm_64_9, if_pos (by omega), if_pos (by omega)]
    by_cases q : k = R * C
    · rw [if_pos (by omega), ← q]
    · obtain ⟨c0, c1⟩ := sp_60h m M T (show k < R * C by omega)
      obtain ⟨⟨o1, o2⟩, n1, n2⟩ := old_r M T (show k < R * C by omega)
      have ce : ((k : Int) + 1) = ((k + 1 : Nat) : Int) := rfl
      have e : ulk f C (k + 1) = ulk f C k + (if f (52 + 96 * 0 + 12 * (k / C) + k % C) = f (52 + 96 * 1 + 12 * (k / C) + k % C) then 0 else 1) := rfl
      rw [if_neg (by omega), c0, Option.bind_some]
      show ((gm_60 1 1 k s).bind _) = _
      rw [c1, Option.bind_some]
      show (if (-2147483648 ≤ f (52 + 96 * 0 + 12 * (k / C) + k % C) ∧ f (52 + 96 * 0 + 12 * (k / C) + k % C) ≤ 2147483647) then (if (-2147483648 ≤ f (52 + 96 * 1 + 12 * (k / C) + k % C) ∧ f (52 + 96 * 1 + 12 * (k / C) + k % C) ≤ 2147483647) then (if f (52 + 96 * 0 + 12 * (k / C) + k % C) = f (52 + 96 * 1 + 12 * (k / C) + k % C) then gm_64_32 (gm_64_9 n) 1 ((R * C : Nat) : Int) (ulk f C k) k s else gm_64_32 (gm_64_9 n) 1 ((R * C : Nat) : Int) (ulk f C k + 1) k s) else none) else none) = _
      rw [if_pos (by omega), if_pos (by omega)]
      unfold gm_64_32
      by_cases z : f (52 + 96 * 0 + 12 * (k / C) + k % C) = f (52 + 96 * 1 + 12 * (k / C) + k % C)
      · rw [if_pos z, Int.add_zero] at e
        rw [if_pos z, ← e, ce]
        exact ih (k + 1) (by omega) (by omega)
      · rw [if_neg z] at e
        rw [if_neg z, ← e, ce]
        exact ih (k + 1) (by omega) (by omega)
theorem sl_223 {s : gx_S} {f : Nat → Int} {R C : Nat} (ef : s.1 216 = f) (M : MP f R C) (T : TT f) : ∀ (n k : Nat), R * C < n + k → k ≤ R * C → gm_223_34 n 0 (ulk f C k) k s = gm_223_78 0 (ulk f C (R * C)) s := by
  have hRC := RC_96 M.1.2.2.1 M.1.2.2.2
  have hz : mz s R C := by
    unfold mz
    rw [ef]
    exact M.1
  have ec : s.1 216 0 * s.1 216 1 = ((R * C : Nat) : Int) := by rw [hz.1, hz.2.1, Int.natCast_mul]
  intro n
  induction n with
  | zero => intro k h; omega
  | succ n ih =>
    intro k h hk
    rw [gm_223_34, sp_151, Option.bind_some, ec, if_pos (by omega), if_pos (by omega)]
    by_cases q : k = R * C
    · rw [if_pos (by omega), ← q]
    · have c0 := sp_152 hz 0 k (by omega) (by omega)
      have c1 := sp_152 hz 1 k (by omega) (by omega)
      have e0 : cdx s C 0 k = f (52 + 96 * 0 + 12 * (k / C) + k % C) := by rw [← ef]; rfl
      have e1 : cdx s C 1 k = f (52 + 96 * 1 + 12 * (k / C) + k % C) := by rw [← ef]; rfl
      rw [e0] at c0
      rw [e1] at c1
      have c0 : gm_152 0 k s = _ := c0
      have c1 : gm_152 1 k s = _ := c1
      obtain ⟨⟨o1, o2⟩, n1, n2⟩ := old_r M T (show k < R * C by omega)
      have ce : ((k : Int) + 1) = ((k + 1 : Nat) : Int) := rfl
      have e : ulk f C (k + 1) = ulk f C k + (if f (52 + 96 * 0 + 12 * (k / C) + k % C) = f (52 + 96 * 1 + 12 * (k / C) + k % C) then 0 else 1) := rfl
      rw [if_neg (by omega), if_pos (show (-2147483648 : Int) ≤ 0 ∧ (0 : Int) ≤ 2147483647 by decide), if_neg (show ¬ ¬ (0 : Int) = 0 from fun t => t rfl)]
      show ((gm_152 0 k s).bind _) = _
      rw [c0, Option.bind_some]
      show ((gm_152 1 k s).bind _) = _
      rw [c1, Option.bind_some]
      show (if (-2147483648 ≤ f (52 + 96 * 0 + 12 * (k / C) + k % C) ∧ f (52 + 96 * 0 + 12 * (k / C) + k % C) ≤ 2147483647) then (if (-2147483648 ≤ f (52 + 96 * 1 + 12 * (k / C) + k % C) ∧ f (52 + 96 * 1 + 12 * (k / C) + k % C) ≤ 2147483647) then (if f (52 + 96 * 0 + 12 * (k / C) + k % C) = f (52 + 96 * 1 + 12 * (k / C) + k % C) then gm_223_67 (gm_223_34 n) 0 k (ulk f C k) 0 s else gm_223_67 (gm_223_34 n) 0 k (ulk f C k) 1 s) else none) else none) = _
      rw [if_pos (by omega), if_pos (by omega)]
      unfold gm_223_67
      by_cases z : f (52 + 96 * 0 + 12 * (k / C) + k % C) = f (52 + 96 * 1 + 12 * (k / C) + k % C)
      · rw [if_pos z] at e
        rw [if_pos z, sp_131 (.inl rfl), Option.bind_some, ← e, ce]
        exact ih (k + 1) (by omega) (by omega)
      · rw [if_neg z] at e
        rw [if_neg z, sp_131 (.inr rfl), Option.bind_some, ← e, ce]
        exact ih (k + 1) (by omega) (by omega)
theorem sl_110 {s : gx_S} {f : Nat → Int} {R C : Nat} {w : Int} (m : MR s 1 f R C) (M : MP f R C) (T : TT f) (hw : w = 1 ∨ w = 2 ∨ w = 3) : ∀ (n j : Nat) (a : Int), 8 < n + j → j ≤ 8 → ∃ r : Int, gm_110_49 n w a j s = some (r, s) ∧ ∀ t : gx_S, t.1 216 = f → gm_223_80 n w a j t = some (r, t) := by
  intro n
  induction n with
  | zero => intro j a h; omega
  | succ n ih =>
    intro j a h hj
    by_cases q : j = 8
    · refine ⟨a, ?_, fun t et => ?_⟩
      · rw [gm_110_49, if_pos (by omega), if_pos (by omega)]
      · rw [gm_223_80, if_pos (by omega), if_pos (by omega)]
        rfl
    · have ce : ((j : Int) + 1) = ((j + 1 : Nat) : Int) := rfl
      obtain ⟨v, v1, v2⟩ := la_ m M T (show j < 8 by omega) hw
      obtain ⟨r, r1, r2⟩ := ih (j + 1) (a + gb v) (by omega) (by omega)
      refine ⟨r, ?_, fun t et => ?_⟩
      · rw [gm_110_49, if_pos (by omega), if_neg (by omega), v1, Option.bind_some]
        unfold gm_110_67
        cases v with
        | false =>
          rw [if_pos (show gb (false, s).1 = 0 from rfl), ce]
          have e : a + gb false = a := Int.add_zero a
          rw [e] at r1
          exact r1
        | true =>
          rw [if_neg (show ¬ gb (true, s).1 = 0 from (by decide : ¬ gb true = 0)), ce]
          exact r1
      · rw [gm_223_80, if_pos (by omega), if_neg (by omega), if_pos (by omega), if_neg (by omega), v2 t et, Option.bind_some]
        show ((gm_131 (gb v) t).bind _) = _
        rw [sp_131 (show gb v = 0 ∨ gb v = 1 by cases v; exact .inl rfl; exact .inr rfl), Option.bind_some, ce]
        exact r2 t et
theorem inv_apart {s : gx_S} (h : INV s) {x : Int} (hx : i32 x) : two s (gm_110 x) (gm_223 x) := by
  obtain ⟨f, R, C, n, pf, L, tb, c, r, v⟩ := id h
  have hx' := hx
  unfold i32 at hx'
  have hRC := RC_96 v.1.1.2.2.1 v.1.1.2.2.2
  have m := c.1
  have e6 : s.1 1 6 = f 2 := m.2.2.1
  have c0 := sp_56 (s := s) (a := 1) (by decide +kernel) 0 (by omega) (by rw [e6]; exact v.1.2.1)
  have c1 := sp_56 (s := s) (a := 1) (by decide +kernel) 1 (by omega) (by rw [e6]; exact v.1.2.1)
  rw [e6] at c0 c1
  have c0 : gm_56 1 0 s = _ := c0
  have c1 : gm_56 1 1 s = _ := c1
  have d0 := sp_144 (s := s) 0 (by omega) (by rw [r.1]; exact v.1.2.1)
  have d1 := sp_144 (s := s) 1 (by omega) (by rw [r.1]; exact v.1.2.1)
  rw [r.1] at d0 d1
  have d0 : gm_144 0 s = _ := d0
  have d1 : gm_144 1 s = _ := d1
  have s1 : gm_110 x s = if (0 ≤ x ∧ x ≤ 3) ∧ TT f then (if ¬ x = 0 then gm_110_49 100000 x 0 0 s else ((gm_64 1 s).bind fun q29 => some (q29.1, q29.2))) else some (-1, s) := by
    unfold gm_110 TT
    rw [if_pos hx']
    by_cases a : x < 0
    · rw [if_pos a, if_neg (fun q => by have := q.1; omega)]
    · rw [if_neg a]
      by_cases b : 3 < x
      · rw [if_pos b, if_neg (fun q => by have := q.1; omega)]
      · rw [if_neg b, c0, Option.bind_some]
        by_cases d : f 2 / 2 ^ 0 % 2 = 1
        · rw [if_neg (fun q => (gbD s).mp q d)]
          show ((gm_56 1 1 s).bind _) = _
          rw [c1, Option.bind_some]
          by_cases e : f 2 / 2 ^ 1 % 2 = 1
          · rw [if_pos (fun q => (gbD s).mp q e), if_pos (show (0 ≤ x ∧ x ≤ 3) ∧ f 2 / 2 ^ 0 % 2 = 1 ∧ f 2 / 2 ^ 1 % 2 = 1 from ⟨by omega, d, e⟩)]
          · rw [if_neg (fun q => q ((gbD s).mpr e)), if_neg (fun q => e q.2.2)]
        · rw [if_pos ((gbD s).mpr d), if_neg (fun q => d q.2.1)]
  have s2 : gm_223 x s = if (0 ≤ x ∧ x ≤ 3) ∧ TT f then gm_223_34 100000 x 0 0 s else some (-1, s) := by
    unfold gm_223 TT
    rw [if_pos hx', in_ s hx (by omega) (by omega), Option.bind_some]
    by_cases a : 0 ≤ x ∧ x ≤ 3
    · rw [if_neg (fun q => (gbD s).mp q a)]
      show ((gm_144 0 s).bind _) = _
      rw [d0, Option.bind_some]
      by_cases d : f 2 / 2 ^ 0 % 2 = 1
      · rw [if_neg (fun q => (gbD s).mp q d)]
        show ((gm_144 1 s).bind _) = _
        rw [d1, Option.bind_some]
        by_cases e : f 2 / 2 ^ 1 % 2 = 1
        · rw [if_pos (fun q => (gbD s).mp q e), if_pos (show (0 ≤ x ∧ x ≤ 3) ∧ f 2 / 2 ^ 0 % 2 = 1 ∧ f 2 / 2 ^ 1 % 2 = 1 from ⟨a, d, e⟩)]
        · rw [if_neg (fun q => q ((gbD s).mpr e)), if_neg (fun q => e q.2.2)]
      · rw [if_pos ((gbD s).mpr d), if_neg (fun q => d q.2.1)]
    · rw [if_pos ((gbD s).mpr a), if_neg (fun q => a q.1)]
  by_cases ok : (0 ≤ x ∧ x ≤ 3) ∧ TT f
  · rw [if_pos ok] at s1 s2
    obtain ⟨a, T⟩ := ok
    by_cases z : x = 0
    · have t1 := sl_64 m v.1 T 100000 0 (by omega) (by omega)
      have t1 : gm_64_9 100000 1 ((R * C : Nat) : Int) 0 0 s = _ := t1
      have g1 : gm_64 1 s = some (ulk f C (R * C), s) := by
        unfold gm_64
        rw [if_pos (by decide +kernel), sp_58 (MR_cz m v.1), Option.bind_some]
        exact t1
      rw [if_neg (fun t => t z), g1, Option.bind_some] at s1
      have t2 := sl_223 r.1 v.1 T 100000 0 (by omega) (by omega)
      have t2 : gm_223_34 100000 0 0 0 s = _ := t2
      rw [z, t2] at s2
      have t3 : gm_223_78 0 (ulk f C (R * C)) s = some (ulk f C (R * C), s) := by
        unfold gm_223_78
        rw [show (100000 : Nat) = 99999 + 1 from rfl, gm_223_80, if_pos (by decide), if_neg (by decide), if_pos (by decide), if_pos (by decide)]
        rfl
      rw [t3] at s2
      rw [z] at s1 ⊢
      exact ⟨_, s, s, s1, s2, h⟩
    · rw [if_pos z] at s1
      obtain ⟨q, q1, q2⟩ := sl_110 m v.1 T (show x = 1 ∨ x = 2 ∨ x = 3 by omega) 100000 0 0 (by omega) (by omega)
      have q1 : gm_110_49 100000 x 0 0 s = _ := q1
      have q2 := q2 s r.1
      have q2 : gm_223_80 100000 x 0 0 s = _ := q2
      have ec : s.1 216 0 * s.1 216 1 = ((R * C : Nat) : Int) := by rw [r.1, v.1.1.1, v.1.1.2.1, Int.natCast_mul]
      have t2 : gm_223_34 100000 x 0 0 s = gm_223_80 100000 x 0 0 s := by
        rw [show gm_223_34 100000 x 0 0 s = gm_223_34 (99999 + 1) x 0 0 s from rfl, gm_223_34, sp_151, Option.bind_some, ec, if_pos (by decide), if_pos (by omega)]
        by_cases y : ((R * C : Nat) : Int) ≤ 0
        · rw [if_pos y]
          rfl
        · rw [if_neg y, if_pos hx', if_pos z]
          rfl
      exact ⟨q, s, s, s1.trans q1, s2.trans (t2.trans q2), h⟩
  · rw [if_neg ok] at s1 s2
    exact ⟨-1, s, s, s1, s2, h⟩
