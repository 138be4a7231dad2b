/-! QUERIES: piece, whole -/
theorem sl_220e {f : Nat → Int} {R C : Nat} {x w : Int} (M : MP f R C) (h7 : f 2 = 7) (hxi : i32 x) (hx : x = -1 ∨ npj f C (R * C) 288 ≤ x) : ∀ (n j : Nat) (t : gx_S), 288 < n + j → j ≤ 288 → t.1 216 = f → gm_220_31 n x w (npj f C (R * C) j) j t = some ((if x = -1 then npj f C (R * C) 288 else -1), t) := by
  have hRC := RC_96 M.1.2.2.1 M.1.2.2.2
  unfold i32 at hxi
  -- what is ahead of a place never falls
  have mono : ∀ d j : Nat, npj f C (R * C) j ≤ npj f C (R * C) (j + d) := by
    intro d
    induction d with
    | zero => intro j; exact Int.le_refl _
    | succ d ih =>
      intro j
      have e : npj f C (R * C) (j + (d + 1)) = npj f C (R * C) (j + d) + bi (0 < pcs f C (j + d) (R * C)) := rfl
      have := ih j
      have := bi_r (0 < pcs f C (j + d) (R * C))
      omega
  intro n
  induction n with
  | zero => intro j t h; omega
  | succ n ih =>
    intro j t h hj et
    have nr := npj_r f C (R * C) j
    rw [gm_220_31, if_pos (by omega)]
    by_cases q : j = 288
    · rw [if_pos (by omega), if_pos hxi]
      by_cases z : x = -1
      · rw [if_neg (fun t => t z), if_pos z, q]
      · rw [if_pos z, if_neg z]
    · have pr := pcs_r f C j (R * C)
      have ce : ((j : Int) + 1) = ((j + 1 : Nat) : Int) := rfl
      have en : npj f C (R * C) (j + 1) = npj f C (R * C) j + bi (0 < pcs f C j (R * C)) := rfl
      rw [if_neg (by omega), if_pos (by omega), if_pos (by omega), sp_219 et M h7 (by omega), Option.bind_some]
      show (if (-2147483648 ≤ pcs f C j (R * C) ∧ pcs f C j (R * C) ≤ 2147483647) then (if pcs f C j (R * C) ≤ 0 then gm_220_113 (gm_220_31 n) x w (npj f C (R * C) j) j (pcs f C j (R * C)) t else (if (-2147483648 ≤ npj f C (R * C) j ∧ npj f C (R * C) j ≤ 2147483647) then (if (-2147483648 ≤ x ∧ x ≤ 2147483647) then (if ¬ npj f C (R * C) j = x then gm_220_113 (gm_220_31 n) x w (npj f C (R * C) j) j (pcs f C j (R * C)) t else _) else none) else none)) else none) = _
      rw [if_pos (by omega)]
      by_cases z : pcs f C j (R * C) ≤ 0
      · have b : bi (0 < pcs f C j (R * C)) = 0 := if_neg (by omega)
        have i := ih (j + 1) t (by omega) (by omega) et
        rw [en, b] at i
        rw [if_pos z]
        unfold gm_220_113 gm_220_124
        rw [if_pos (by omega), if_pos z, sp_131 (.inl rfl), Option.bind_some, ce]
        exact i
      · have b : bi (0 < pcs f C j (R * C)) = 1 := if_pos (by omega)
        have i := ih (j + 1) t (by omega) (by omega) et
        rw [en, b] at i
        have mo := mono (288 - (j + 1)) (j + 1)
        rw [show j + 1 + (288 - (j + 1)) = 288 by omega, en, b] at mo
        rw [if_neg z, if_pos (by omega), if_pos (by omega), if_pos (by omega)]
        unfold gm_220_113 gm_220_124
        rw [if_pos (by omega), if_neg z, sp_131 (.inr rfl), Option.bind_some, ce]
        exact i
theorem inv_piece {s : gx_S} (h : INV s) {x w : Int} (hx : i32 x) (hw : i32 w) : two s (gm_96 x w) (gm_220 x w) := by
  obtain ⟨f, R, C, n, pf, L, tb, c, r, v⟩ := id h
  have hx' := hx
  have hw' := hw
  unfold i32 at hx' hw'
  have hRC := RC_96 v.1.1.2.2.1 v.1.1.2.2.2
  have e6 : s.1 1 6 = f 2 := c.1.2.2.1
  have c57 := sp_57 (s := s) (a := 1) (by decide +kernel) (by rw [e6]; exact v.1.2.1)
  rw [e6] at c57
  have c150 : ∀ t : gx_S, t.1 216 = f → gm_150 t = some (decide (f 2 = 7), t) := fun t et => by
    have := sp_150 (s := t) (by rw [et]; exact v.1.2.1)
    rw [et] at this
    exact this
  have s2 : ∀ y : gx_S, y.1 216 = f → gm_220 x w y = if f 2 = 7 ∧ -1 ≤ x ∧ 0 ≤ w ∧ w ≤ 3 then gm_220_31 100000 x w 0 0 y else some (-1, y) := fun y ey => by
    unfold gm_220
    rw [c150 y ey, Option.bind_some]
    by_cases h7 : f 2 = 7
    · rw [if_neg (fun q => (gbD s).mp q h7), if_pos hx']
      by_cases a : x < -1
      · rw [if_pos a, if_neg (fun q => by have := q.2.1; omega)]
      · rw [if_neg a, if_pos hw']
        show ((gm_130 w 0 3 y).bind _) = _
        rw [in_ y hw (by omega) (by omega), Option.bind_some]
        by_cases b : 0 ≤ w ∧ w ≤ 3
        · rw [if_pos (fun q => (gbD s).mp q b), if_pos (show f 2 = 7 ∧ -1 ≤ x ∧ 0 ≤ w ∧ w ≤ 3 by omega)]
        · rw [if_neg (fun q => q ((gbD s).mpr b)), if_neg (fun q => b q.2.2)]
    · rw [if_pos ((gbD s).mpr h7), if_neg (fun q => h7 q.1)]
  by_cases ok : f 2 = 7 ∧ -1 ≤ x ∧ 0 ≤ w ∧ w ≤ 3
  · obtain ⟨h7, hx1, hw3⟩ := id ok
    obtain ⟨a, a1, a2, a3, a4⟩ := sp_235g (k := 69) (n := 288) 0 s (by decide +kernel) (by omega) (by omega)
    have am : MR a 1 f R C := MR_o (fun k j q1 q2 => a3 k j (by omega)) c.1
    obtain ⟨u, u1, u2, u3, u4⟩ := sl_123 v.1 h7 100000 0 a (by omega) (by omega) am fun p hp => by
      rw [a4, if_pos hp]
      rfl
    have z0 : nps f C 0 288 = 0 := sg_0 fun p _ => if_neg (show ¬ 0 < pcs f C p 0 from Int.lt_irrefl 0)
    rw [z0] at u1
    have c123 : gm_123 s = some (npj f C (R * C) 288, u) := by
      unfold gm_123
      rw [a1, Option.bind_some, sp_58 (MR_cz am v.1), Option.bind_some]
      exact u1
    have uo : ∀ k j, k ≠ 69 → u.1 k j = s.1 k j := fun k j q => by rw [u3 k j q, a3 k j q]
    have kc : KC s u := ⟨fun k j q => uo k j (by omega), fun k j _ => by rw [u2, a2]⟩
    have cu : CV u f R C n pf L tb := CV_o (fun k j q => uo k j (by omega)) c
    have eu : u.1 216 = f := (RV_KC kc r).1
    have nr := npj_r f C (R * C) 288
    have st : gm_96 x w s = if ¬ x = -1 then (if x < npj f C (R * C) 288 then ((gm_124 x u).bind fun q40 => if w = 0 then (if 0 ≤ q40.1 ∧ q40.1 ≤ 2147483647 then some ((q40.1 / 36), q40.2) else none) else (if w = 1 then (if 0 ≤ q40.1 ∧ q40.1 ≤ 2147483647 then (if 0 ≤ (q40.1 / 4) ∧ (q40.1 / 4) ≤ 2147483647 then some (((q40.1 / 4) % 9), q40.2) else none) else none) else (if w = 2 then (if 0 ≤ q40.1 ∧ q40.1 ≤ 2147483647 then some ((q40.1 % 4), q40.2) else none) else (if 0 ≤ q40.1 ∧ q40.1 < 288 then some ((q40.2.1 69 (q40.1).toNat), q40.2) else none)))) else some (-1, u)) else some (npj f C (R * C) 288, u) := by
      unfold gm_96
      rw [c57, Option.bind_some, if_neg (fun q => (gbD s).mp q h7), if_pos hx', if_neg (by omega), if_pos hw', if_neg (by omega), if_pos hw3.2]
      show ((gm_123 s).bind _) = _
      rw [c123, Option.bind_some]
      show (if ¬ x = -1 then (if (-2147483648 ≤ npj f C (R * C) 288 ∧ npj f C (R * C) 288 ≤ 2147483647) then _ else none) else some (npj f C (R * C) 288, u)) = _
      rw [if_pos (show -2147483648 ≤ npj f C (R * C) 288 ∧ npj f C (R * C) 288 ≤ 2147483647 by omega)]
    have s2 := s2 u eu
    rw [if_pos ok] at s2
    by_cases z : x = -1
    · have t2 := sl_220e (w := w) v.1 h7 hx (.inl z) 100000 0 u (by omega) (by omega) eu
      have t2 : gm_220_31 100000 x w 0 0 u = _ := t2
      rw [t2, if_pos z] at s2
      rw [if_neg (fun t => t z)] at st
      exact ⟨_, u, u, st, s2, q_inv kc cu r v (KRw_rf u)⟩
    · rw [if_pos z] at st
      by_cases y : x < npj f C (R * C) 288
      · obtain ⟨p, p1, p2, p3⟩ := sl_124 v.1 h7 hw3 (show 0 ≤ x by omega) u4 100000 0 (by omega) (by omega) (show npj f C (R * C) 0 ≤ x by show (0 : Int) ≤ x; omega) y
        have p2 : gm_124_4 100000 (x - 0) 0 u = some ((p : Int), u) := p2
        rw [Int.sub_zero] at p2
        have p2 : gm_124 x u = some ((p : Int), u) := p2
        have p3 := p3 u eu
        have p3 : gm_220_31 100000 x w 0 0 u = _ := p3
        rw [p3] at s2
        rw [if_pos y, p2, Option.bind_some] at st
        refine ⟨_, u, u, ?_, s2, q_inv kc cu r v (KRw_rf u)⟩
        rw [st]
        by_cases w0 : w = 0
        · rw [if_pos w0, if_pos w0, if_pos (by omega)]
          rfl
        · rw [if_neg w0, if_neg w0]
          by_cases w1 : w = 1
          · rw [if_pos w1, if_pos w1, if_pos (by omega), if_pos (by omega)]
            rfl
          · rw [if_neg w1, if_neg w1]
            by_cases w2 : w = 2
            · rw [if_pos w2, if_pos w2, if_pos (by omega)]
              rfl
            · rw [if_neg w2, if_neg w2, if_pos (by omega)]
              show some (u.1 69 ((p : Int)).toNat, u) = _
              rw [show ((p : Int)).toNat = p by omega, u4 p p1]
      · have t2 := sl_220e (w := w) v.1 h7 hx (.inr (by omega)) 100000 0 u (by omega) (by omega) eu
        have t2 : gm_220_31 100000 x w 0 0 u = _ := t2
        rw [t2, if_neg z] at s2
        rw [if_neg y] at st
        exact ⟨_, u, u, st, s2, q_inv kc cu r v (KRw_rf u)⟩
  · refine ⟨-1, s, s, ?_, (s2 s r.1).trans (if_neg ok), h⟩
    unfold gm_96
    rw [c57, Option.bind_some]
    by_cases h7 : f 2 = 7
    · rw [if_neg (fun q => (gbD s).mp q h7), if_pos hx']
      by_cases a : x < -1
      · rw [if_pos a]
      · rw [if_neg a, if_pos hw']
        by_cases b : w < 0
        · rw [if_pos b]
        · rw [if_neg b, if_neg (fun q => ok ⟨h7, by omega, by omega, q⟩)]
    · rw [if_pos ((gbD s).mpr h7)]
