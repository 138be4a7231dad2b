/-! THE REFERENCE's BALANCED TABLE: the steps of finds and makesPlace -/
def RK (s : gx_S) (R m : Nat) : Prop := (∀ j, j < 72 → (s.1 232 j = 0 ∨ s.1 232 j = 1) ∧ (s.1 233 j = 0 ∨ s.1 233 j = 1) ∧ (0 ≤ s.2 225 j ∧ s.2 225 j ≤ 1000000000) ∧ (s.1 232 j = 1 → ((j / 9 : Nat) : Int) < s.1 215 17 → ((j % 9 : Nat) : Int) < s.1 215 18 → 0 < s.2 225 j)) ∧ (∀ c, c < 9 → (s.1 235 c = 0 ∨ s.1 235 c = 1) ∧ -900 ≤ s.2 229 c ∧ s.2 229 c ≤ 900 ∧ -1000 ≤ s.2 230 c ∧ s.2 230 c ≤ 1000) ∧ s.1 215 17 = R ∧ s.1 215 18 = m ∧ R ≤ 8 ∧ m ≤ 9
theorem sp_167 {s : gx_S} {r c : Nat} (hr : r < 8) (hc : c < 9) (h : 0 ≤ s.2 225 (9 * r + c) ∧ s.2 225 (9 * r + c) ≤ 1000000000) : gm_167 r c s = some (decide (0 < s.2 225 (9 * r + c)), s) := by
  unfold gm_167
  have i1 : ((9 * (r : Int) + (c : Int))).toNat = 9 * r + c := by omega
  rw [sp_160, Option.bind_some]
  simp only [i1]
  by_cases z : 0 < s.2 225 (9 * r + c)
  · simp (disch := omega) only [if_pos, if_neg]
    rw [decide_eq_true z]
  · simp (disch := omega) only [if_pos, if_neg]
    rw [decide_eq_false z]
/-- the entry may be used by the search -/
def can1 (s : gx_S) (r c : Nat) : Prop := 0 < s.2 225 (9 * r + c) ∧ s.1 233 (9 * r + c) = 0 ∧ s.1 232 (9 * r + c) = 0
/-- the entry is put on -/
def put (s : gx_S) (r c : Nat) : gx_S := gw2 (gw1 s 232 (9 * r + c) 1) 230 c (s.2 230 c + 1)
/-- the entry is put off -/
def off1 (s : gx_S) (r c : Nat) : gx_S := gw2 (gw1 s 232 (9 * r + c) 0) 230 c (s.2 230 c - 1)
theorem se_168_88 (k168 k169 : Int → gx_S → Option (Bool × gx_S)) {s : gx_S} {r c : Nat} (hr : r < 8) (hc : c < 9) : gm_168_88 k168 k169 r c s = some (true, put s r c) := by
  have i1 : ((9 * (r : Int) + (c : Int))).toNat = 9 * r + c := by omega
  have i5 : ((c : Int)).toNat = c := by omega
  unfold gm_168_88
  rw [sp_160, Option.bind_some]
  simp (disch := omega) only [i1, i5, if_pos]
  rfl
theorem se_168_skip (k168 k169 : Int → gx_S → Option (Bool × gx_S)) {s : gx_S} {R m r c : Nat} (n : Nat) (K : RK s R m) (hr : r < 8) (hc : c < m) (h : ¬ (can1 s r c ∧ s.1 235 c = 0)) : gm_168_2 k168 k169 (n + 1) r c s = gm_168_2 k168 k169 n r ((c : Int) + 1) s := by
  obtain ⟨k1, k2, k3, k4, k5, k6⟩ := K
  have i1 : ((9 * (r : Int) + (c : Int))).toNat = 9 * r + c := by omega
  have i5 : ((c : Int)).toNat = c := by omega
  obtain ⟨a1, a2, a3⟩ := k1 (9 * r + c) (by omega)
  obtain ⟨b1, b2⟩ := k2 c (by omega)
  have hx : (-2147483648 ≤ (c : Int) ∧ (c : Int) ≤ 2147483647) := by omega
  have hm : (-2147483648 ≤ (m : Int) ∧ (m : Int) ≤ 2147483647) := by omega
  have hn : ¬ (m : Int) ≤ (c : Int) := by omega
  have h72 : 0 ≤ 9 * (r : Int) + (c : Int) ∧ 9 * (r : Int) + (c : Int) < 72 := by omega
  have h3 : -2147483648 ≤ s.1 233 (9 * r + c) ∧ s.1 233 (9 * r + c) ≤ 2147483647 := by omega
  have h2 : -2147483648 ≤ s.1 232 (9 * r + c) ∧ s.1 232 (9 * r + c) ≤ 2147483647 := by omega
  have h5 : -2147483648 ≤ s.1 235 c ∧ s.1 235 c ≤ 2147483647 := by omega
  have h9 : 0 ≤ (c : Int) ∧ (c : Int) < 9 := by omega
  rw [gm_168_2, sp_167 hr (by omega) a3.1, k4, if_pos hx, if_pos hm, if_neg hn, Option.bind_some]
  unfold can1 at h
  by_cases z : 0 < s.2 225 (9 * r + c)
  · rw [decide_eq_true z, if_neg (show ¬ gb (true, s).1 = 0 from (by decide : ¬ gb true = 0))]
    rw [sp_160, Option.bind_some, if_pos h72]
    show (if (-2147483648 ≤ s.1 233 (9 * (r : Int) + (c : Int)).toNat ∧ s.1 233 (9 * (r : Int) + (c : Int)).toNat ≤ 2147483647) then _ else _) = _
    rw [i1, if_pos h3]
    by_cases z3 : s.1 233 (9 * r + c) = 0
    · rw [if_neg (fun x => x z3)]
      show ((gm_160 r c s).bind _) = _
      rw [sp_160, Option.bind_some, if_pos h72]
      show (if (-2147483648 ≤ s.1 232 (9 * (r : Int) + (c : Int)).toNat ∧ s.1 232 (9 * (r : Int) + (c : Int)).toNat ≤ 2147483647) then _ else _) = _
      rw [i1, if_pos h2]
      by_cases z2 : s.1 232 (9 * r + c) = 0
      · have z5 : ¬ s.1 235 c = 0 := fun x => h ⟨⟨z, z3, z2⟩, x⟩
        rw [if_neg (fun x => x z2), if_pos h9]
        show (if (-2147483648 ≤ s.1 235 (c : Int).toNat ∧ s.1 235 (c : Int).toNat ≤ 2147483647) then _ else _) = _
        rw [i5, if_pos h5, if_neg z5]
        rfl
      · rw [if_pos z2]
        rfl
    · rw [if_pos z3]
      rfl
  · rw [decide_eq_false z, if_pos (show gb (false, s).1 = 0 from (by decide : gb false = 0))]
    rfl
theorem se_168_use (k168 k169 : Int → gx_S → Option (Bool × gx_S)) {s : gx_S} {R m r c : Nat} (n : Nat) (K : RK s R m) (hr : r < 8) (hc : c < m) (h : can1 s r c) (h50 : s.1 235 c = 0) : gm_168_2 k168 k169 (n + 1) r c s = if s.2 230 c < s.2 229 c then some (true, put (gw1 s 235 c 1) r c) else (k169 c (gw1 s 235 c 1)).bind fun q => if q.1 = true then some (true, put q.2 r c) else gm_168_2 k168 k169 n r ((c : Int) + 1) q.2 := by
  obtain ⟨k1, k2, k3, k4, k5, k6⟩ := K
  have i1 : ((9 * (r : Int) + (c : Int))).toNat = 9 * r + c := by omega
  have i5 : ((c : Int)).toNat = c := by omega
  obtain ⟨a1, a2, a3⟩ := k1 (9 * r + c) (by omega)
  obtain ⟨b1, b2⟩ := k2 c (by omega)
  have hx : (-2147483648 ≤ (c : Int) ∧ (c : Int) ≤ 2147483647) := by omega
  have hm : (-2147483648 ≤ (m : Int) ∧ (m : Int) ≤ 2147483647) := by omega
  have hn : ¬ (m : Int) ≤ (c : Int) := by omega
  have h72 : 0 ≤ 9 * (r : Int) + (c : Int) ∧ 9 * (r : Int) + (c : Int) < 72 := by omega
  have h3 : -2147483648 ≤ s.1 233 (9 * r + c) ∧ s.1 233 (9 * r + c) ≤ 2147483647 := by omega
  have h2 : -2147483648 ≤ s.1 232 (9 * r + c) ∧ s.1 232 (9 * r + c) ≤ 2147483647 := by omega
  have h5 : -2147483648 ≤ s.1 235 c ∧ s.1 235 c ≤ 2147483647 := by omega
  have h0 : -9223372036854775808 ≤ s.2 230 c ∧ s.2 230 c ≤ 9223372036854775807 := by omega
  have hl : -9223372036854775808 ≤ s.2 229 c ∧ s.2 229 c ≤ 9223372036854775807 := by omega
  have h9 : 0 ≤ (c : Int) ∧ (c : Int) < 9 := by omega
  obtain ⟨z, z3, z2⟩ := h
  have g1 : gn2 1 = 1 := by decide
  rw [gm_168_2, sp_167 hr (by omega) a3.1, k4, if_pos hx, if_pos hm, if_neg hn, Option.bind_some]
  rw [decide_eq_true z, if_neg (show ¬ gb (true, s).1 = 0 from (by decide : ¬ gb true = 0))]
  rw [sp_160, Option.bind_some, if_pos h72]
  show (if (-2147483648 ≤ s.1 233 (9 * (r : Int) + (c : Int)).toNat ∧ s.1 233 (9 * (r : Int) + (c : Int)).toNat ≤ 2147483647) then _ else _) = _
  rw [i1, if_pos h3, if_neg (fun x => x z3)]
  show ((gm_160 r c s).bind _) = _
  rw [sp_160, Option.bind_some, if_pos h72]
  show (if (-2147483648 ≤ s.1 232 (9 * (r : Int) + (c : Int)).toNat ∧ s.1 232 (9 * (r : Int) + (c : Int)).toNat ≤ 2147483647) then _ else _) = _
  rw [i1, if_pos h2, if_neg (fun x => x z2), if_pos h9]
  show (if (-2147483648 ≤ s.1 235 (c : Int).toNat ∧ s.1 235 (c : Int).toNat ≤ 2147483647) then _ else _) = _
  rw [i5, if_pos h5, if_pos h50]
  show (if (-9223372036854775808 ≤ s.2 230 (c : Int).toNat ∧ s.2 230 (c : Int).toNat ≤ 9223372036854775807) then (if (-9223372036854775808 ≤ s.2 229 (c : Int).toNat ∧ s.2 229 (c : Int).toNat ≤ 9223372036854775807) then (if s.2 230 (c : Int).toNat < s.2 229 (c : Int).toNat then _ else _) else _) else _) = _
  rw [i5, if_pos h0, if_pos hl, g1]
  by_cases q : s.2 230 c < s.2 229 c
  · rw [if_pos q, if_pos q]
    exact se_168_88 k168 k169 hr (by omega)
  · rw [if_neg q, if_neg q]
    congr 1
    funext q
    cases q.1 with
    | true =>
      rw [if_neg (by decide), if_pos rfl, se_168_88 k168 k169 hr (by omega)]
    | false =>
      rw [if_pos (by decide), if_neg (by decide)]
      rfl
