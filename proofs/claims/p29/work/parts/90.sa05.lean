/-! QUERIES: piece: the reference's count, places -/
theorem sl_219 {s : gx_S} {f : Nat → Int} {R C p : Nat} (ef : s.1 216 = f) (M : MP f R C) (h7 : f 2 = 7) (hp : p < 288) : ∀ (n k : Nat), R * C < n + k → k ≤ R * C → gm_219_6 n ((p / 36 : Nat) : Int) ((p / 4 % 9 : Nat) : Int) ((p % 4 : Nat) : Int) (pcs f C p k) k s = some (pcs f C p (R * C), s) := by
  have hRC := RC_96 M.1.2.2.1 M.1.2.2.2
  have hm : mz s R C := by
    unfold mz
    rw [ef]
    exact M.1
  have ec : s.1 216 0 * s.1 216 1 = ((R * C : Nat) : Int) := by rw [hm.1, hm.2.1, Int.natCast_mul]
  intro n
  induction n with
  | zero => intro k h; omega
  | succ n ih =>
    intro k h hk
    rw [gm_219_6, sp_151, Option.bind_some, ec, if_pos (by omega), if_pos (by omega)]
    by_cases q : k = R * C
    · rw [if_pos (by omega), ← q]
    · obtain ⟨⟨e0, c0⟩, ⟨e1, c1⟩, e2, c2⟩ := co_s M h7 (show k < R * C by omega)
      have g0 := sp_152 hm 0 k (by omega) (by omega)
      have g1 := sp_152 hm 1 k (by omega) (by omega)
      have g2 := sp_152 hm 2 k (by omega) (by omega)
      have x0 : cdx s C 0 k = co f C 0 k := by rw [← e0, ← ef]; rfl
      have x1 : cdx s C 1 k = co f C 1 k := by rw [← e1, ← ef]; rfl
      have x2 : cdx s C 2 k = co f C 2 k := by rw [← e2, ← ef]; rfl
      rw [x0] at g0
      rw [x1] at g1
      rw [x2] at g2
      have g0 : gm_152 0 k s = _ := g0
      have g1 : gm_152 1 k s = _ := g1
      have g2 : gm_152 2 k s = _ := g2
      have ce : ((k : Int) + 1) = ((k + 1 : Nat) : Int) := rfl
      have e : pcs f C p (k + 1) = pcs f C p k + (if plc f C k = p then 1 else 0) := rfl
      have ip : plc f C k = p ↔ (co f C 0 k = p / 36 ∧ co f C 1 k = p / 4 % 9 ∧ co f C 2 k = p % 4) := by
        unfold plc
        by_cases z : co f C 0 k < 8
        · rw [if_pos z]
          omega
        · rw [if_neg z]
          omega
      have t0 : ¬ plc f C k = p → gm_219_55 (gm_219_6 n) ((p / 36 : Nat) : Int) ((p / 4 % 9 : Nat) : Int) ((p % 4 : Nat) : Int) k (pcs f C p k) 0 s = some (pcs f C p (R * C), s) := fun z => by
        rw [if_neg z] at e
        unfold gm_219_55
        rw [sp_131 (.inl rfl), Option.bind_some, ← e, ce]
        exact ih (k + 1) (by omega) (by omega)
      rw [if_neg (by omega)]
      show ((gm_152 0 k s).bind _) = _
      rw [g0, Option.bind_some, if_pos (by omega), if_pos (by omega)]
      by_cases z0 : co f C 0 k = p / 36
      · rw [if_neg (show ¬ ¬ (co f C 0 k : Int) = ((p / 36 : Nat) : Int) by omega)]
        show ((gm_152 1 k s).bind _) = _
        rw [g1, Option.bind_some, if_pos (by omega), if_pos (by omega)]
        by_cases z1 : co f C 1 k = p / 4 % 9
        · rw [if_neg (show ¬ ¬ (co f C 1 k : Int) = ((p / 4 % 9 : Nat) : Int) by omega)]
          show ((gm_152 2 k s).bind _) = _
          rw [g2, Option.bind_some, if_pos (by omega), if_pos (by omega)]
          by_cases z2 : co f C 2 k = p % 4
          · rw [if_neg (show ¬ ¬ (co f C 2 k : Int) = ((p % 4 : Nat) : Int) by omega)]
            rw [if_pos (ip.mpr ⟨z0, z1, z2⟩)] at e
            unfold gm_219_55
            rw [sp_131 (.inr rfl), Option.bind_some, ← e, ce]
            exact ih (k + 1) (by omega) (by omega)
          · rw [if_pos (show ¬ (co f C 2 k : Int) = ((p % 4 : Nat) : Int) by omega)]
            exact t0 fun y => z2 (ip.mp y).2.2
        · rw [if_pos (show ¬ (co f C 1 k : Int) = ((p / 4 % 9 : Nat) : Int) by omega)]
          exact t0 fun y => z1 (ip.mp y).2.1
      · rw [if_pos (show ¬ (co f C 0 k : Int) = ((p / 36 : Nat) : Int) by omega)]
        exact t0 fun y => z0 (ip.mp y).1
theorem sp_219 {s : gx_S} {f : Nat → Int} {R C p : Nat} (ef : s.1 216 = f) (M : MP f R C) (h7 : f 2 = 7) (hp : p < 288) : gm_219 ((p : Int) / 36) (((p : Int) / 4) % 9) ((p : Int) % 4) s = some (pcs f C p (R * C), s) := by
  have hRC := RC_96 M.1.2.2.1 M.1.2.2.2
  exact sl_219 ef M h7 hp 100000 0 (by omega) (by omega)
/-- the pieces ahead of place j -/
def npj (f : Nat → Int) (C n j : Nat) : Int := sg (fun p => bi (0 < pcs f C p n)) j
theorem npj_r (f : Nat → Int) (C n : Nat) : ∀ j : Nat, 0 ≤ npj f C n j ∧ npj f C n j ≤ j := by
  intro j
  induction j with
  | zero => exact (show (0 : Int) ≤ 0 ∧ (0 : Int) ≤ 0 by decide)
  | succ j ih =>
    have e : npj f C n (j + 1) = npj f C n j + bi (0 < pcs f C j n) := rfl
    have := bi_r (0 < pcs f C j n)
    omega
/-- the k-th piece: on both sides the same place -/
theorem sl_124 {f : Nat → Int} {R C : Nat} {x w : Int} {s : gx_S} (M : MP f R C) (h7 : f 2 = 7) (hw : 0 ≤ w ∧ w ≤ 3) (hx : 0 ≤ x) (e : ∀ p, p < 288 → s.1 69 p = pcs f C p (R * C)) : ∀ (n j : Nat), 288 < n + j → j ≤ 288 → npj f C (R * C) j ≤ x → x < npj f C (R * C) 288 → ∃ p : Nat, p < 288 ∧ gm_124_4 n (x - npj f C (R * C) j) j s = some ((p : Int), s) ∧ ∀ t : gx_S, t.1 216 = f → gm_220_31 n x w (npj f C (R * C) j) j t = some ((if w = 0 then ((p / 36 : Nat) : Int) else if w = 1 then ((p / 4 % 9 : Nat) : Int) else if w = 2 then ((p % 4 : Nat) : Int) else pcs f C p (R * C)), t) := by
  have hRC := RC_96 M.1.2.2.1 M.1.2.2.2
  intro n
  induction n with
  | zero => intro j h; omega
  | succ n ih =>
    intro j h hj h1 h2
    by_cases q : j = 288
    · rw [q] at h1
      omega
    · have pr := pcs_r f C j (R * C)
      have nr := npj_r f C (R * C) j
      have nr2 := npj_r f C (R * C) 288
      have ce : ((j : Int) + 1) = ((j + 1 : Nat) : Int) := rfl
      have en : npj f C (R * C) (j + 1) = npj f C (R * C) j + bi (0 < pcs f C j (R * C)) := rfl
      -- the reference's step
      have rs : ∀ t : gx_S, t.1 216 = f → gm_220_31 (n + 1) x w (npj f C (R * C) j) j t = if pcs f C j (R * C) ≤ 0 then gm_220_113 (gm_220_31 n) x w (npj f C (R * C) j) j (pcs f C j (R * C)) t else (if ¬ npj f C (R * C) j = x then gm_220_113 (gm_220_31 n) x w (npj f C (R * C) j) j (pcs f C j (R * C)) t else (if ¬ w = 0 then (if ¬ w = 1 then (if ¬ w = 2 then some (pcs f C j (R * C), t) else some (((j : Int) % 4), t)) else some ((((j : Int) / 4) % 9), t)) else some (((j : Int) / 36), t))) := fun t et => by
        rw [gm_220_31, if_pos (by omega), if_neg (by omega), if_pos (by omega), if_pos (by omega), sp_219 et M h7 (by omega), Option.bind_some]
        show (if (-2147483648 ≤ pcs f C j (R * C) ∧ pcs f C j (R * C) ≤ 2147483647) then (if pcs f C j (R * C) ≤ 0 then gm_220_113 (gm_220_31 n) x w (npj f C (R * C) j) j (pcs f C j (R * C)) t else (if (-2147483648 ≤ npj f C (R * C) j ∧ npj f C (R * C) j ≤ 2147483647) then (if (-2147483648 ≤ x ∧ x ≤ 2147483647) then (if ¬ npj f C (R * C) j = x then gm_220_113 (gm_220_31 n) x w (npj f C (R * C) j) j (pcs f C j (R * C)) t else (if (-2147483648 ≤ w ∧ w ≤ 2147483647) then (if ¬ w = 0 then (if ¬ w = 1 then (if ¬ w = 2 then some (pcs f C j (R * C), t) else some (((j : Int) % 4), t)) else some ((((j : Int) / 4) % 9), t)) else some (((j : Int) / 36), t)) else none)) else none) else none)) else none) = _
        rw [if_pos (by omega)]
        by_cases z : pcs f C j (R * C) ≤ 0
        · rw [if_pos z, if_pos z]
        · rw [if_neg z, if_neg z, if_pos (by omega), if_pos (by omega)]
          by_cases y : npj f C (R * C) j = x
          · rw [if_neg (show ¬ ¬ npj f C (R * C) j = x from fun t => t y), if_neg (show ¬ ¬ npj f C (R * C) j = x from fun t => t y), if_pos (by omega)]
          · rw [if_pos y, if_pos y]
      have r13 : ∀ t : gx_S, gm_220_113 (gm_220_31 n) x w (npj f C (R * C) j) j (pcs f C j (R * C)) t = gm_220_31 n x w (npj f C (R * C) (j + 1)) ((j + 1 : Nat) : Int) t := fun t => by
        unfold gm_220_113 gm_220_124
        rw [if_pos (by omega)]
        by_cases z : pcs f C j (R * C) ≤ 0
        · have b : bi (0 < pcs f C j (R * C)) = 0 := if_neg (by omega)
          rw [if_pos z, sp_131 (.inl rfl), Option.bind_some, en, b, ce]
        · have b : bi (0 < pcs f C j (R * C)) = 1 := if_pos (by omega)
          rw [if_neg z, sp_131 (.inr rfl), Option.bind_some, en, b, ce]
      by_cases z : pcs f C j (R * C) ≤ 0
      · have b : bi (0 < pcs f C j (R * C)) = 0 := if_neg (by omega)
        obtain ⟨p, p1, p2, p3⟩ := ih (j + 1) (by omega) (by omega) (by omega) h2
        refine ⟨p, p1, ?_, fun t et => by rw [rs t et, if_pos z, r13 t]; exact p3 t et⟩
        rw [gm_124_4, if_pos (by omega), if_neg (by omega), if_pos (by omega), show ((j : Int)).toNat = j by omega, e j (by omega), if_pos (by omega), if_pos z]
        unfold gm_124_29
        rw [ce]
        rw [en, b, Int.add_zero] at p2
        exact p2
      · have b : bi (0 < pcs f C j (R * C)) = 1 := if_pos (by omega)
        by_cases y : npj f C (R * C) j = x
        · refine ⟨j, by omega, ?_, fun t et => ?_⟩
          · rw [gm_124_4, if_pos (by omega), if_neg (by omega), if_pos (by omega), show ((j : Int)).toNat = j by omega, e j (by omega), if_pos (by omega), if_neg z, if_pos (by omega), if_neg (by omega)]
          · rw [rs t et, if_neg z, if_neg (fun t => t y)]
            by_cases w0 : w = 0
            · rw [if_neg (fun t => t w0), if_pos w0]
              rfl
            · rw [if_pos w0, if_neg w0]
              by_cases w1 : w = 1
              · rw [if_neg (fun t => t w1), if_pos w1]
                rfl
              · rw [if_pos w1, if_neg w1]
                by_cases w2 : w = 2
                · rw [if_neg (fun t => t w2), if_pos w2]
                  rfl
                · rw [if_pos w2, if_neg w2]
        · obtain ⟨p, p1, p2, p3⟩ := ih (j + 1) (by omega) (by omega) (by omega) h2
          refine ⟨p, p1, ?_, fun t et => by rw [rs t et, if_neg z, if_pos y, r13 t]; exact p3 t et⟩
          rw [gm_124_4, if_pos (by omega), if_neg (by omega), if_pos (by omega), show ((j : Int)).toNat = j by omega, e j (by omega), if_pos (by omega), if_neg z, if_pos (by omega), if_pos (by omega)]
          unfold gm_124_29
          rw [ce]
          rw [en, b] at p2
          rw [show x - npj f C (R * C) j + -1 = x - (npj f C (R * C) j + 1) by omega]
          exact p2
