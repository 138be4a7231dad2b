/-! QUERIES: piece: the class's count -/
/-- the place of a cell's piece (288 and more: none) -/
def plc (f : Nat → Int) (C k : Nat) : Nat := if co f C 0 k < 8 then (co f C 0 k * 9 + co f C 1 k) * 4 + co f C 2 k else 288
def pcs (f : Nat → Int) (C p n : Nat) : Int := sg (fun k => if plc f C k = p then 1 else 0) n
theorem pcs_r (f : Nat → Int) (C p : Nat) : ∀ n : Nat, 0 ≤ pcs f C p n ∧ pcs f C p n ≤ n := by
  intro n
  induction n with
  | zero => exact (show (0 : Int) ≤ 0 ∧ (0 : Int) ≤ 0 by decide)
  | succ n ih =>
    have e : pcs f C p (n + 1) = pcs f C p n + (if plc f C n = p then 1 else 0) := rfl
    rw [e]
    split <;> omega
def nps (f : Nat → Int) (C n j : Nat) : Int := sg (fun p => bi (0 < pcs f C p n)) j
theorem plc_r {f : Nat → Int} {R C k : Nat} (M : MP f R C) (h7 : f 2 = 7) (hk : k < R * C) (h : co f C 0 k < 8) : plc f C k = (co f C 0 k * 9 + co f C 1 k) * 4 + co f C 2 k ∧ plc f C k < 288 := by
  obtain ⟨_, ⟨_, c1⟩, _, c2⟩ := co_s M h7 hk
  have e : plc f C k = (co f C 0 k * 9 + co f C 1 k) * 4 + co f C 2 k := if_pos h
  rw [e]
  omega
theorem nps_s {f : Nat → Int} {C n p : Nat} (hp : plc f C n = p) (h : p < 288) : nps f C (n + 1) 288 = nps f C n 288 + (if pcs f C p n = 0 then 1 else 0) := by
  have r := pcs_r f C p n
  have e : pcs f C p (n + 1) = pcs f C p n + 1 := by
    show pcs f C p n + (if plc f C n = p then 1 else 0) = _
    rw [if_pos hp]
  refine sg_upd (i := p) ?_ (fun q hq => ?_) h
  · show bi (0 < pcs f C p (n + 1)) = bi (0 < pcs f C p n) + _
    rw [e]
    unfold bi
    rw [if_pos (by omega)]
    by_cases z : pcs f C p n = 0
    · rw [if_neg (by omega), if_pos z]
      rfl
    · rw [if_pos (by omega), if_neg z]
      rfl
  · show bi (0 < pcs f C q (n + 1)) = bi (0 < pcs f C q n)
    have e : pcs f C q (n + 1) = pcs f C q n := by
      show pcs f C q n + (if plc f C n = q then 1 else 0) = _
      rw [if_neg (by omega), Int.add_zero]
    rw [e]
theorem sl_123 {f : Nat → Int} {R C : Nat} (M : MP f R C) (h7 : f 2 = 7) : ∀ (n k : Nat) (s : gx_S), R * C < n + k → k ≤ R * C → MR s 1 f R C → (∀ p, p < 288 → s.1 69 p = pcs f C p k) → ∃ u : gx_S, gm_123_20 n (nps f C k 288) ((R * C : Nat) : Int) k s = some (nps f C (R * C) 288, u) ∧ u.2 = s.2 ∧ (∀ k i, k ≠ 69 → u.1 k i = s.1 k i) ∧ ∀ p, p < 288 → u.1 69 p = pcs f C p (R * C) := by
  have hRC := RC_96 M.1.2.2.1 M.1.2.2.2
  intro n
  induction n with
  | zero => intro k s h; omega
  | succ n ih =>
    intro k s h hk m e
    rw [gm_123_20, if_pos (by omega), if_pos (by omega)]
    by_cases q : k = R * C
    · rw [if_pos (by omega), ← q]
      exact ⟨s, rfl, rfl, fun _ _ _ => rfl, e⟩
    · obtain ⟨g0, g1, g2⟩ := sp_60g m M h7 (show k < R * C by omega)
      obtain ⟨⟨_, c0⟩, ⟨_, c1⟩, _, c2⟩ := co_s M h7 (show k < R * C by omega)
      have ce : ((k : Int) + 1) = ((k + 1 : Nat) : Int) := rfl
      rw [if_neg (by omega), g0, Option.bind_some, if_pos (by omega)]
      by_cases z : 8 ≤ co f C 0 k
      · have np : ∀ p, p < 288 → pcs f C p (k + 1) = pcs f C p k := fun p hp => by
          show pcs f C p k + (if plc f C k = p then 1 else 0) = _
          have e8 : plc f C k = 288 := if_neg (by omega)
          rw [e8, if_neg (by omega), Int.add_zero]
        have nn : nps f C (k + 1) 288 = nps f C k 288 := sg_eq fun p hp => by rw [np p hp]
        rw [if_pos (by omega)]
        unfold gm_123_101
        rw [← nn, ce]
        exact ih (k + 1) s (by omega) (by omega) m fun p hp => by rw [e p hp, np p hp]
      · obtain ⟨p1, p2⟩ := plc_r M h7 (show k < R * C by omega) (by omega)
        obtain ⟨p, hp⟩ : ∃ p, p = plc f C k := ⟨_, rfl⟩
        rw [← hp] at p1 p2
        have ei : ((((co f C 0 k : Int) * 9 + (co f C 1 k : Int)) * 4) + (co f C 2 k : Int)) = (p : Int) := by omega
        have pr := pcs_r f C p k
        rw [if_neg (by omega)]
        show ∃ u : gx_S, ((gm_60 1 1 k s).bind _) = _ ∧ _
        rw [g1, Option.bind_some]
        show ∃ u : gx_S, ((gm_60 1 2 k s).bind _) = _ ∧ _
        rw [g2, Option.bind_some]
        show ∃ u : gx_S, (if 0 ≤ ((((co f C 0 k : Int) * 9 + (co f C 1 k : Int)) * 4) + (co f C 2 k : Int)) ∧ ((((co f C 0 k : Int) * 9 + (co f C 1 k : Int)) * 4) + (co f C 2 k : Int)) < 288 then (if (-2147483648 ≤ (s.1 69 (((((co f C 0 k : Int) * 9 + (co f C 1 k : Int)) * 4) + (co f C 2 k : Int))).toNat) ∧ (s.1 69 (((((co f C 0 k : Int) * 9 + (co f C 1 k : Int)) * 4) + (co f C 2 k : Int))).toNat) ≤ 2147483647) then (if ¬ (s.1 69 (((((co f C 0 k : Int) * 9 + (co f C 1 k : Int)) * 4) + (co f C 2 k : Int))).toNat) = 0 then gm_123_88 (gm_123_20 n) ((R * C : Nat) : Int) k ((((co f C 0 k : Int) * 9 + (co f C 1 k : Int)) * 4) + (co f C 2 k : Int)) (nps f C k 288) 0 s else gm_123_88 (gm_123_20 n) ((R * C : Nat) : Int) k ((((co f C 0 k : Int) * 9 + (co f C 1 k : Int)) * 4) + (co f C 2 k : Int)) (nps f C k 288) 1 s) else none) else none) = _ ∧ _
        rw [ei, if_pos (by omega), show ((p : Int)).toNat = p by omega, e p p2, if_pos (by omega)]
        have ns := nps_s hp.symm p2
        have tail : ∀ v : Int, nps f C (k + 1) 288 = nps f C k 288 + v → gm_123_88 (gm_123_20 n) ((R * C : Nat) : Int) k p (nps f C k 288) v s = gm_123_20 n (nps f C (k + 1) 288) ((R * C : Nat) : Int) ((k + 1 : Nat) : Int) (gw1 s 69 p (pcs f C p k + 1)) := fun v hv => by
          unfold gm_123_88 gm_123_101
          rw [if_pos (by omega), show ((p : Int)).toNat = p by omega, e p p2, ← hv, ce]
        have st : (if ¬ pcs f C p k = 0 then gm_123_88 (gm_123_20 n) ((R * C : Nat) : Int) k p (nps f C k 288) 0 s else gm_123_88 (gm_123_20 n) ((R * C : Nat) : Int) k p (nps f C k 288) 1 s) = gm_123_20 n (nps f C (k + 1) 288) ((R * C : Nat) : Int) ((k + 1 : Nat) : Int) (gw1 s 69 p (pcs f C p k + 1)) := by
          by_cases y : pcs f C p k = 0
          · rw [if_pos y] at ns
            rw [if_neg (fun t => t y)]
            exact tail 1 ns
          · rw [if_neg y] at ns
            rw [if_pos y]
            exact tail 0 ns
        rw [st]
        obtain ⟨u, u1, u2, u3, u4⟩ := ih (k + 1) (gw1 s 69 p (pcs f C p k + 1)) (by omega) (by omega) (MR_o (fun k' j q1 q2 => by rw [gw1_1, if_neg (by omega)]) m) fun t ht => by
          rw [gw1_1]
          show _ = pcs f C t k + (if plc f C k = t then 1 else 0)
          by_cases y : t = p
          · rw [if_pos ⟨rfl, y⟩, y, if_pos hp.symm]
          · rw [if_neg (fun q => y q.2), if_neg (by omega), e t ht, Int.add_zero]
        exact ⟨u, u1, u2, fun k i h1 => by rw [u3 k i h1, gw1_1, if_neg (fun q => h1 q.1)], u4⟩
