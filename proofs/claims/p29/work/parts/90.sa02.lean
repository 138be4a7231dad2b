/-! QUERIES: apart: one zone -/
theorem sl_202 {s : gx_S} {f : Nat → Int} {R C : Nat} {z : Int} (ef : s.1 216 = f) (M : MP f R C) (T : TT f) (hz : i32 z) : ∀ (n k : Nat), R * C < n + k → k ≤ R * C → gm_202_4 n z (sg (fun k => bi (f (52 + 96 * 1 + 12 * (k / C) + k % C) = z)) k) k s = some (NC f R C 1 z, s) := by
  have hRC := RC_96 M.1.2.2.1 M.1.2.2.2
  have hm : mz s R C := by
    unfold mz
    rw [ef]
    exact M.1
  have ec : s.1 216 0 * s.1 216 1 = ((R * C : Nat) : Int) := by rw [hm.1, hm.2.1, Int.natCast_mul]
  unfold i32 at hz
  intro n
  induction n with
  | zero => intro k h; omega
  | succ n ih =>
    intro k h hk
    rw [gm_202_4, sp_151, Option.bind_some, ec, if_pos (by omega), if_pos (by omega)]
    by_cases q : k = R * C
    · rw [if_pos (by omega), q]
      unfold NC
      rw [if_pos T.2]
    · have c1 := sp_152 hm 1 k (by omega) (by omega)
      have e1 : cdx s C 1 k = f (52 + 96 * 1 + 12 * (k / C) + k % C) := by rw [← ef]; rfl
      rw [e1] at c1
      have c1 : gm_152 1 k s = _ := c1
      obtain ⟨_, n1, n2⟩ := old_r M T (show k < R * C by omega)
      have ce : ((k : Int) + 1) = ((k + 1 : Nat) : Int) := rfl
      rw [if_neg (by omega)]
      show ((gm_152 1 k s).bind _) = _
      rw [c1, Option.bind_some, if_pos (by omega), if_pos hz]
      unfold gm_202_28
      by_cases y : f (52 + 96 * 1 + 12 * (k / C) + k % C) = z
      · have b : bi (f (52 + 96 * 1 + 12 * (k / C) + k % C) = z) = 1 := if_pos y
        have st : sg (fun k => bi (f (52 + 96 * 1 + 12 * (k / C) + k % C) = z)) (k + 1) = sg (fun k => bi (f (52 + 96 * 1 + 12 * (k / C) + k % C) = z)) k + 1 := by
          show _ + bi (f (52 + 96 * 1 + 12 * (k / C) + k % C) = z) = _
          rw [b]
        rw [if_neg (fun t => t y), sp_131 (.inr rfl), Option.bind_some, ← st, ce]
        exact ih (k + 1) (by omega) (by omega)
      · have b : bi (f (52 + 96 * 1 + 12 * (k / C) + k % C) = z) = 0 := if_neg y
        have st : sg (fun k => bi (f (52 + 96 * 1 + 12 * (k / C) + k % C) = z)) (k + 1) = sg (fun k => bi (f (52 + 96 * 1 + 12 * (k / C) + k % C) = z)) k + 0 := by
          show _ + bi (f (52 + 96 * 1 + 12 * (k / C) + k % C) = z) = _
          rw [b]
        rw [if_pos y, sp_131 (.inl rfl), Option.bind_some, ← st, ce]
        exact ih (k + 1) (by omega) (by omega)
theorem sp_202 {s : gx_S} {f : Nat → Int} {R C : Nat} {z : Int} (ef : s.1 216 = f) (M : MP f R C) (T : TT f) (hz : i32 z) : gm_202 z s = some (NC f R C 1 z, s) := by
  have hRC := RC_96 M.1.2.2.1 M.1.2.2.2
  exact sl_202 ef M T hz 100000 0 (by omega) (by omega)
theorem sl_125 {s : gx_S} {f : Nat → Int} {R C x : Nat} {v : Int} (m : MR s 1 f R C) (M : MP f R C) (hx : x < 8) (hv : 0 ≤ v ∧ v < 512) : ∀ (n o : Nat), 8 < n + o → o ≤ 8 → (∀ o0, o ≤ o0 → o0 < 8 → v = ((2 ^ o0 : Nat) : Int) → gm_125_52 n x v o s = some (decide (NC f R C 1 o0 = NC f R C 0 x), s)) ∧ ((∀ o0, o ≤ o0 → o0 < 8 → ¬ v = ((2 ^ o0 : Nat) : Int)) → gm_125_52 n x v o s = some (false, s)) := by
  have hRC := RC_96 M.1.2.2.1 M.1.2.2.2
  intro n
  induction n with
  | zero => intro o h; omega
  | succ n ih =>
    intro o h ho
    by_cases q : o = 8
    · refine ⟨fun o0 h1 h2 => by omega, fun _ => ?_⟩
      rw [gm_125_52, if_pos (by omega), if_pos (by omega)]
    · obtain ⟨b1, b2, b3⟩ := bc_2 o (by omega)
      have p8 : 2 ^ o ≤ 2 ^ 8 := Nat.pow_le_pow_right (by omega) (by omega)
      have p8 : 2 ^ o ≤ 256 := p8
      have ce : ((o : Int) + 1) = ((o + 1 : Nat) : Int) := rfl
      have st : gm_125_52 (n + 1) x v o s = if ¬ v = ((2 ^ o : Nat) : Int) then gm_125_52 n x v ((o + 1 : Nat) : Int) s else some (decide (NC f R C 1 o = NC f R C 0 x), s) := by
        have n1 := NC_nn f R C 1 o
        have n0 := NC_nn f R C 0 x
        rw [← Int.natCast_mul] at n1 n0
        have c1 : gm_62 1 1 o s = _ := sp_62g m M 1 o (by omega) (by omega)
        have c0 : gm_62 1 0 x s = _ := sp_62g m M 0 x (by omega) (by omega)
        rw [gm_125_52, if_pos (by omega), if_neg (by omega), if_pos (by omega), b3, if_pos (show -2147483648 ≤ ((2 ^ o : Nat) : Int) ∧ ((2 ^ o : Nat) : Int) ≤ 2147483647 from ⟨Int.le_trans (by decide) (Int.natCast_nonneg _), Int.le_trans (Int.ofNat_le.mpr p8) (by decide)⟩), ce]
        by_cases z : v = ((2 ^ o : Nat) : Int)
        · rw [if_neg (fun t => t z), if_neg (fun t => t z), c1, Option.bind_some]
          show ((gm_62 1 0 x s).bind _) = _
          rw [c0, Option.bind_some]
          show (if (-2147483648 ≤ NC f R C 1 o ∧ NC f R C 1 o ≤ 2147483647) then (if (-2147483648 ≤ NC f R C 0 x ∧ NC f R C 0 x ≤ 2147483647) then (if ¬ NC f R C 1 o = NC f R C 0 x then some (false, s) else some (true, s)) else none) else none) = _
          rw [if_pos (by omega), if_pos (by omega)]
          by_cases y : NC f R C 1 o = NC f R C 0 x
          · rw [if_neg (fun t => t y), decide_eq_true y]
          · rw [if_pos y, decide_eq_false y]
        · rw [if_pos z, if_pos z]
      obtain ⟨i1, i2⟩ := ih (o + 1) (by omega) (by omega)
      refine ⟨fun o0 h1 h2 h3 => ?_, fun h3 => ?_⟩
      · rw [st]
        by_cases e : o0 = o
        · rw [if_neg (fun t => t (by rw [h3, e])), e]
        · have ne : ¬ v = ((2 ^ o : Nat) : Int) := fun t => by
            have l : 2 ^ o < 2 ^ o0 := Nat.pow_lt_pow_right (by omega) (by omega)
            omega
          rw [if_pos ne]
          exact i1 o0 (by omega) h2 h3
      · rw [st, if_pos (h3 o (Nat.le_refl o) (by omega))]
        exact i2 fun o0 h1 h2 => h3 o0 (by omega) h2
theorem la_ {s : gx_S} {f : Nat → Int} {R C x : Nat} {w : Int} (m : MR s 1 f R C) (M : MP f R C) (T : TT f) (hx : x < 8) (hw : w = 1 ∨ w = 2 ∨ w = 3) : ∃ v : Bool, gm_125 x w s = some (v, s) ∧ ∀ t : gx_S, t.1 216 = f → gm_222 x w t = some (v, t) := by
  have hRC := RC_96 M.1.2.2.1 M.1.2.2.2
  have hxi : i32 (x : Int) := by unfold i32; omega
  have c65 := sp_65 m M T hxi
  obtain ⟨m1, m2⟩ := mbs_r (x := (x : Int)) M T (R * C) (Nat.le_refl _)
  obtain ⟨V, hV⟩ : ∃ V : Nat, mbs f C x (R * C) = V := ⟨_, (Int.toNat_of_nonneg m1).symm⟩
  have c221 : ∀ t : gx_S, t.1 216 = f → gm_221 x t = some ((V : Int), t) := fun t et => by rw [← hV]; exact sp_221 et M T hxi
  rw [hV] at c65 m1 m2
  have br := bc_r V (by omega)
  have b8 := b8_r V (by omega)
  have e8 : ((Int32.ofInt (((Int32.ofInt (V : Int) >>> (Int32.ofInt 8 &&& 31))).toInt) &&& Int32.ofInt 1)).toInt = b8_ V := rfl
  unfold gm_125
  rw [c65, Option.bind_some, if_pos (by omega)]
  rcases hw with e | e | e
  · rw [e]
    -- whole zones
    rw [if_pos (show ¬ (1 : Int) = 3 by decide), if_pos (show ¬ (1 : Int) = 2 by decide)]
    obtain ⟨l1, l2⟩ := sl_125 (v := (V : Int)) m M hx (by omega) 100000 0 (by omega) (by omega)
    have r1 : ∀ t : gx_S, t.1 216 = f → gm_222 x 1 t = if ¬ bc_ V = 1 then some (false, t) else (if ¬ b8_ V = 0 then some (false, t) else ((gm_229 V t).bind fun q45 => (gm_202 q45.1 q45.2).bind fun q47 => (gm_158 x q47.2).bind fun q49 => if (-2147483648 ≤ q47.1 ∧ q47.1 ≤ 2147483647) then (if (-2147483648 ≤ q49.1 ∧ q49.1 ≤ 2147483647) then (if ¬ q47.1 = q49.1 then some (false, q49.2) else some (true, q49.2)) else none) else none)) := fun t et => by
      unfold gm_222
      rw [c221 t et, Option.bind_some, if_pos (show (-2147483648 : Int) ≤ 1 ∧ (1 : Int) ≤ 2147483647 by decide), if_neg (show ¬ ¬ (1 : Int) = 1 from fun t => t rfl), sp_230, Option.bind_some]
      show (if (-2147483648 ≤ bc_ (V : Int) ∧ bc_ (V : Int) ≤ 2147483647) then (if ¬ bc_ (V : Int) = 1 then some (false, t) else (if (-2147483648 ≤ b8_ (V : Int) ∧ b8_ (V : Int) ≤ 2147483647) then (if ¬ b8_ (V : Int) = 0 then some (false, t) else _) else none)) else none) = _
      rw [if_pos (by omega)]
      by_cases y : bc_ (V : Int) = 1
      · rw [if_neg (show ¬ ¬ bc_ (V : Int) = 1 from fun t => t y), if_neg (show ¬ ¬ bc_ (V : Int) = 1 from fun t => t y), if_pos (by omega)]
      · rw [if_pos y, if_pos y]
    by_cases ex : ∃ o, o < 8 ∧ V = 2 ^ o
    · obtain ⟨o, ho, eo⟩ := ex
      obtain ⟨b1, b2, b3⟩ := bc_2 o ho
      refine ⟨decide (NC f R C 1 o = NC f R C 0 x), l1 o (by omega) ho (by rw [eo]), fun t et => ?_⟩
      have n1 := NC_nn f R C 1 o
      have n0 := NC_nn f R C 0 x
      rw [← Int.natCast_mul] at n1 n0
      rw [← eo] at b1 b2
      have c158 := sp_158 (s := t) (R := R) (C := C) (by rw [et]; exact M) (by rw [et]; exact T.1) (x : Int) (by omega)
      rw [et] at c158
      rw [r1 t et, if_neg (fun t => t b1), if_neg (fun t => t b2), eo, sp_229 ho t, Option.bind_some, sp_202 et M T (by unfold i32; omega), Option.bind_some]
      show ((gm_158 x t).bind _) = _
      rw [c158, Option.bind_some]
      show (if (-2147483648 ≤ NC f R C 1 o ∧ NC f R C 1 o ≤ 2147483647) then (if (-2147483648 ≤ NC f R C 0 x ∧ NC f R C 0 x ≤ 2147483647) then (if ¬ NC f R C 1 o = NC f R C 0 x then some (false, t) else some (true, t)) else none) else none) = _
      rw [if_pos (by omega), if_pos (by omega)]
      by_cases y : NC f R C 1 o = NC f R C 0 x
      · rw [if_neg (fun t => t y), decide_eq_true y]
      · rw [if_pos y, decide_eq_false y]
    · refine ⟨false, l2 fun o h1 h2 h3 => ex ⟨o, h2, by omega⟩, fun t et => ?_⟩
      rw [r1 t et]
      by_cases y : bc_ V = 1
      · rw [if_neg (fun t => t y), if_pos (fun y2 => ex (bc_1 V (by omega) y y2))]
      · rw [if_pos y]
  · rw [e]
    rw [if_pos (show ¬ (2 : Int) = 3 by decide), if_neg (show ¬ ¬ (2 : Int) = 2 from fun t => t rfl), sp_230, Option.bind_some, if_pos (show -2147483648 ≤ bc_ (V : Int) ∧ bc_ (V : Int) ≤ 2147483647 by omega)]
    have r2 : ∀ t : gx_S, t.1 216 = f → gm_222 x 2 t = if bc_ V ≤ 1 then some (false, t) else some (true, t) := fun t et => by
      unfold gm_222
      rw [c221 t et, Option.bind_some, if_pos (show (-2147483648 : Int) ≤ 2 ∧ (2 : Int) ≤ 2147483647 by decide), if_pos (show ¬ (2 : Int) = 1 by decide), if_neg (show ¬ ¬ (2 : Int) = 2 from fun t => t rfl), sp_230, Option.bind_some, if_pos (show -2147483648 ≤ bc_ (V : Int) ∧ bc_ (V : Int) ≤ 2147483647 by omega)]
    by_cases y : bc_ V ≤ 1
    · exact ⟨false, by rw [if_pos y], fun t et => by rw [r2 t et, if_pos y]⟩
    · exact ⟨true, by rw [if_neg y], fun t et => by rw [r2 t et, if_neg y]⟩
  · rw [e]
    rw [if_neg (show ¬ ¬ (3 : Int) = 3 from fun t => t rfl), e8, if_pos (by omega)]
    have r3 : ∀ t : gx_S, t.1 216 = f → gm_222 x 3 t = if ¬ b8_ V = 1 then some (false, t) else some (true, t) := fun t et => by
      unfold gm_222
      rw [c221 t et, Option.bind_some, if_pos (show (-2147483648 : Int) ≤ 3 ∧ (3 : Int) ≤ 2147483647 by decide), if_pos (show ¬ (3 : Int) = 1 by decide), if_pos (show ¬ (3 : Int) = 2 by decide), e8, if_pos (by omega)]
    by_cases y : b8_ V = 1
    · exact ⟨true, by rw [if_neg (fun t => t y)], fun t et => by rw [r3 t et, if_neg (fun t => t y)]⟩
    · exact ⟨false, by rw [if_pos y], fun t et => by rw [r3 t et, if_pos y]⟩
