/-! THE REFERENCE's BALANCED TABLE: a step of makesPlace -/
theorem se_169_skip (k168 k169 : Int → gx_S → Option (Bool × gx_S)) {s : gx_S} {R m r c : Nat} (n : Nat) (K : RK s R m) (hr : r < R) (hc : c < 9) (h : s.1 232 (9 * r + c) = 0 ∨ ¬ s.1 233 (9 * r + c) = 0) : gm_169_2 k168 k169 (n + 1) c r s = gm_169_2 k168 k169 n c ((r : Int) + 1) s := by
  obtain ⟨k1, k2, k3, k4, k5, k6⟩ := K
  have i1 : ((9 * (r : Int) + (c : Int))).toNat = 9 * r + c := by omega
  obtain ⟨a1, a2, a3⟩ := k1 (9 * r + c) (by omega)
  have hx : (-2147483648 ≤ (r : Int) ∧ (r : Int) ≤ 2147483647) := by omega
  have hm : (-2147483648 ≤ (R : Int) ∧ (R : Int) ≤ 2147483647) := by omega
  have hn : ¬ (R : Int) ≤ (r : Int) := by omega
  have h72 : 0 ≤ 9 * (r : Int) + (c : Int) ∧ 9 * (r : Int) + (c : Int) < 72 := by omega
  have h3 : -2147483648 ≤ s.1 233 (9 * r + c) ∧ s.1 233 (9 * r + c) ≤ 2147483647 := by omega
  have h2 : -2147483648 ≤ s.1 232 (9 * r + c) ∧ s.1 232 (9 * r + c) ≤ 2147483647 := by omega
  rw [gm_169_2, k3, if_pos hx, if_pos hm, if_neg hn, sp_160, Option.bind_some, if_pos h72]
  show (if (-2147483648 ≤ s.1 232 (9 * (r : Int) + (c : Int)).toNat ∧ s.1 232 (9 * (r : Int) + (c : Int)).toNat ≤ 2147483647) then _ else _) = _
  rw [i1, if_pos h2]
  by_cases z2 : s.1 232 (9 * r + c) = 0
  · rw [if_pos z2]
    rfl
  · rw [if_neg z2]
    show ((gm_160 r c s).bind _) = _
    rw [sp_160, Option.bind_some, if_pos h72]
    show (if (-2147483648 ≤ s.1 233 (9 * (r : Int) + (c : Int)).toNat ∧ s.1 233 (9 * (r : Int) + (c : Int)).toNat ≤ 2147483647) then _ else _) = _
    have z3 : ¬ s.1 233 (9 * r + c) = 0 := h.resolve_left z2
    rw [i1, if_pos h3, if_pos z3]
    rfl
theorem se_169_use (k168 k169 : Int → gx_S → Option (Bool × gx_S)) {s : gx_S} {R m r c : Nat} (n : Nat) (K : RK s R m) (hr : r < R) (hc : c < 9) (z2 : ¬ s.1 232 (9 * r + c) = 0) (z3 : s.1 233 (9 * r + c) = 0) : gm_169_2 k168 k169 (n + 1) c r s = (k168 r s).bind fun q => if q.1 = true then some (true, off1 q.2 r c) else gm_169_2 k168 k169 n c ((r : Int) + 1) q.2 := by
  obtain ⟨k1, k2, k3, k4, k5, k6⟩ := K
  have i1 : ((9 * (r : Int) + (c : Int))).toNat = 9 * r + c := by omega
  have i5 : ((c : Int)).toNat = c := by omega
  obtain ⟨a1, a2, a3⟩ := k1 (9 * r + c) (by omega)
  have hx : (-2147483648 ≤ (r : Int) ∧ (r : Int) ≤ 2147483647) := by omega
  have hm : (-2147483648 ≤ (R : Int) ∧ (R : Int) ≤ 2147483647) := by omega
  have hn : ¬ (R : Int) ≤ (r : Int) := by omega
  have h72 : 0 ≤ 9 * (r : Int) + (c : Int) ∧ 9 * (r : Int) + (c : Int) < 72 := by omega
  have h3 : -2147483648 ≤ s.1 233 (9 * r + c) ∧ s.1 233 (9 * r + c) ≤ 2147483647 := by omega
  have h2 : -2147483648 ≤ s.1 232 (9 * r + c) ∧ s.1 232 (9 * r + c) ≤ 2147483647 := by omega
  have h9 : 0 ≤ (c : Int) ∧ (c : Int) < 9 := by omega
  have g0 : gn2 0 = 0 := by decide
  rw [gm_169_2, k3, if_pos hx, if_pos hm, if_neg hn, sp_160, Option.bind_some, if_pos h72]
  show (if (-2147483648 ≤ s.1 232 (9 * (r : Int) + (c : Int)).toNat ∧ s.1 232 (9 * (r : Int) + (c : Int)).toNat ≤ 2147483647) then _ else _) = _
  rw [i1, if_pos h2, if_neg z2]
  show ((gm_160 r c s).bind _) = _
  rw [sp_160, Option.bind_some, if_pos h72]
  show (if (-2147483648 ≤ s.1 233 (9 * (r : Int) + (c : Int)).toNat ∧ s.1 233 (9 * (r : Int) + (c : Int)).toNat ≤ 2147483647) then _ else _) = _
  rw [i1, if_pos h3, if_neg (fun x => x z3)]
  congr 1
  funext q
  cases q.1 with
  | true =>
    rw [if_neg (by decide), if_pos rfl, sp_160, Option.bind_some, if_pos h72, if_pos h9]
    show some (true, gw2 (gw1 q.2 232 (9 * (r : Int) + (c : Int)).toNat (gn2 0)) 230 (c : Int).toNat ((gw1 q.2 232 (9 * (r : Int) + (c : Int)).toNat (gn2 0)).2 230 (c : Int).toNat - 1)) = _
    rw [i1, i5, g0]
    rfl
  | false =>
    rw [if_pos (by decide), if_neg (by decide)]
    rfl
theorem se_168_end (k168 k169 : Int → gx_S → Option (Bool × gx_S)) {s : gx_S} {R m r : Nat} (n : Nat) (K : RK s R m) : gm_168_2 k168 k169 (n + 1) r m s = some (false, s) := by
  obtain ⟨k1, k2, k3, k4, k5, k6⟩ := K
  rw [gm_168_2, k4]
  simp (disch := omega) only [if_pos]
theorem se_169_end (k168 k169 : Int → gx_S → Option (Bool × gx_S)) {s : gx_S} {R m c : Nat} (n : Nat) (K : RK s R m) : gm_169_2 k168 k169 (n + 1) c R s = some (false, s) := by
  obtain ⟨k1, k2, k3, k4, k5, k6⟩ := K
  rw [gm_169_2, k3]
  simp (disch := omega) only [if_pos]
