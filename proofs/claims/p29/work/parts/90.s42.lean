/-! THE REFERENCE's BALANCED TABLE: balances, entry by entry -/
/-- the entry's value is told -/
def stv (s : gx_S) (r c : Nat) (v : Int) : gx_S := gw2 (gw1 s 234 (9 * r + c) v) 224 (9 * r + c) (s.2 224 (9 * r + c) + v)
/-- the entry is fixed -/
def mkf (s : gx_S) (r c : Nat) (v : Int) : gx_S := gw1 (gw1 s 233 (9 * r + c) 1) 234 (9 * r + c) v
theorem se_172_146 (k : Int → Int → gx_S → Option gx_S) {s : gx_S} {r c : Nat} {v : Int} (hr : r < 8) (hc : c < 9) (hv : v = 0 ∨ v = 1) : gm_172_146 k r c (9 * (r : Int) + (c : Int)) v s = k r ((c + 1 : Nat) : Int) (stv s r c v) := by
  have i1 : ((9 * (r : Int) + (c : Int))).toNat = 9 * r + c := by omega
  have ce : ((c : Int) + 1) = ((c + 1 : Nat) : Int) := rfl
  have gv : gn2 v = v := by rcases hv with h | h <;> rw [h] <;> decide
  have h72 : 0 ≤ 9 * (r : Int) + (c : Int) ∧ 9 * (r : Int) + (c : Int) < 72 := by omega
  have hv' : -2147483648 ≤ v ∧ v ≤ 2147483647 := by omega
  have x1 : (gw1 s 234 (9 * r + c) v).1 234 (9 * r + c) = v := by rw [gw1_1, if_pos ⟨rfl, rfl⟩]
  unfold gm_172_146
  rw [if_pos h72, sp_160, Option.bind_some, if_pos h72]
  show ((gm_160 r c (gw1 s 234 (9 * (r : Int) + (c : Int)).toNat (gn2 v))).bind _) = _
  rw [sp_160, Option.bind_some, if_pos h72]
  show ((gm_131 ((gw1 s 234 (9 * (r : Int) + (c : Int)).toNat (gn2 v)).1 234 (9 * (r : Int) + (c : Int)).toNat) (gw1 s 234 (9 * (r : Int) + (c : Int)).toNat (gn2 v))).bind _) = _
  rw [i1, gv, x1, sp_131 hv, Option.bind_some, if_pos hv', ce]
  rfl
theorem se_172_81 (k : Int → gx_S → Option gx_S) {s : gx_S} {m r c : Nat} (n : Nat) (hr : r < 8) (hc : c < m) (m9 : m ≤ 9) (h18 : s.1 215 18 = m) (h : 0 ≤ s.2 225 (9 * r + c) ∧ s.2 225 (9 * r + c) ≤ 1000000000) : gm_172_81 k (n + 1) r c s = if 0 < s.2 225 (9 * r + c) then (gm_171 (mkf s r c 1)).bind fun q => gm_172_81 k n r ((c + 1 : Nat) : Int) (stv q.2 r c (if q.1 = true then 1 else 0)) else gm_172_81 k n r ((c + 1 : Nat) : Int) (stv (mkf s r c 0) r c 0) := by
  have i1 : ((9 * (r : Int) + (c : Int))).toNat = 9 * r + c := by omega
  have hx : (-2147483648 ≤ (c : Int) ∧ (c : Int) ≤ 2147483647) := by omega
  have hm : (-2147483648 ≤ (m : Int) ∧ (m : Int) ≤ 2147483647) := by omega
  have hn : ¬ (m : Int) ≤ (c : Int) := by omega
  have h72 : 0 ≤ 9 * (r : Int) + (c : Int) ∧ 9 * (r : Int) + (c : Int) < 72 := by omega
  have g1 : gn2 1 = 1 := by decide
  have a67 : ∀ t : gx_S, t.2 = s.2 → gm_167 r c t = some (decide (0 < s.2 225 (9 * r + c)), t) := fun t e => by
    have := sp_167 (s := t) hr (show c < 9 by omega) (by rw [e]; exact h)
    rw [this, e]
  rw [gm_172_81, h18, if_pos hx, if_pos hm, if_neg hn, sp_160, Option.bind_some, if_pos h72]
  show ((gm_160 r c (gw1 s 233 (9 * (r : Int) + (c : Int)).toNat (gn2 1))).bind _) = _
  rw [sp_160, Option.bind_some, i1, g1]
  show ((gm_167 r c (gw1 s 233 (9 * r + c) 1)).bind _) = _
  rw [a67 _ (gw1_2 _ _ _ _), Option.bind_some, if_pos h72]
  show ((gm_160 r c (gw1 (gw1 s 233 (9 * r + c) 1) 234 (9 * (r : Int) + (c : Int)).toNat (gn2 (gb (decide (0 < s.2 225 (9 * r + c))))))).bind _) = _
  rw [sp_160, Option.bind_some, i1]
  show ((gm_167 r c (gw1 (gw1 s 233 (9 * r + c) 1) 234 (9 * r + c) (gn2 (gb (decide (0 < s.2 225 (9 * r + c))))))).bind _) = _
  rw [a67 _ ((gw1_2 _ _ _ _).trans (gw1_2 _ _ _ _)), Option.bind_some]
  by_cases z : 0 < s.2 225 (9 * r + c)
  · rw [if_pos z, decide_eq_true z, show gn2 (gb true) = 1 from by decide]
    show (if gb true = 0 then _ else _) = _
    rw [if_neg (show ¬ gb true = 0 by decide)]
    show ((gm_171 (mkf s r c 1)).bind _) = _
    congr 1
    funext q
    cases q.1 with
    | true =>
      rw [if_neg (show ¬ gb true = 0 by decide), if_pos rfl, se_172_146 _ hr (by omega) (.inr rfl)]
    | false =>
      rw [if_pos (show gb false = 0 by decide), if_neg Bool.false_ne_true, se_172_146 _ hr (by omega) (.inl rfl)]
  · rw [if_neg z, decide_eq_false z, show gn2 (gb false) = 0 from by decide]
    show (if gb false = 0 then _ else _) = _
    rw [if_pos (show gb false = 0 by decide), se_172_146 _ hr (by omega) (.inl rfl)]
    rfl
theorem stv_1 (s : gx_S) (r c : Nat) (v : Int) (k j : Nat) (h : k ≠ 234) : (stv s r c v).1 k j = s.1 k j := if_neg fun x => h x.1
theorem stv_v (s : gx_S) (r c : Nat) (v : Int) (j : Nat) : (stv s r c v).1 234 j = if j = 9 * r + c then v else s.1 234 j := by
  show (if _ then _ else _) = _
  by_cases e : j = 9 * r + c
  · rw [if_pos ⟨rfl, e⟩, if_pos e]
  · rw [if_neg (fun h => e h.2), if_neg e]
theorem stv_2 (s : gx_S) (r c : Nat) (v : Int) (k j : Nat) (h : k ≠ 224) : (stv s r c v).2 k j = s.2 k j := if_neg fun x => h x.1
theorem stv_4 (s : gx_S) (r c : Nat) (v : Int) (j : Nat) : (stv s r c v).2 224 j = s.2 224 j + if j = 9 * r + c then v else 0 := by
  show (if _ then _ else _) = _
  by_cases e : j = 9 * r + c
  · rw [if_pos ⟨rfl, e⟩, if_pos e, e]
  · rw [if_neg (fun h => e h.2), if_neg e]
    exact (Int.add_zero _).symm
theorem mkf_1 (s : gx_S) (r c : Nat) (v : Int) (k j : Nat) (h : k ≠ 233) (h' : k ≠ 234) : (mkf s r c v).1 k j = s.1 k j := (if_neg fun x => h' x.1).trans (if_neg fun x => h x.1)
theorem mkf_f (s : gx_S) (r c : Nat) (v : Int) (j : Nat) : (mkf s r c v).1 233 j = if j = 9 * r + c then 1 else s.1 233 j := by
  show (gw1 (gw1 s 233 (9 * r + c) 1) 234 (9 * r + c) v).1 233 j = _
  rw [gw1_1, if_neg (by omega), gw1_1]
  by_cases e : j = 9 * r + c
  · rw [if_pos ⟨rfl, e⟩, if_pos e]
  · rw [if_neg (fun h => e h.2), if_neg e]
theorem mkf_v (s : gx_S) (r c : Nat) (v : Int) (j : Nat) : (mkf s r c v).1 234 j = if j = 9 * r + c then v else s.1 234 j := by
  show (gw1 (gw1 s 233 (9 * r + c) 1) 234 (9 * r + c) v).1 234 j = _
  rw [gw1_1]
  by_cases e : j = 9 * r + c
  · rw [if_pos ⟨rfl, e⟩, if_pos e]
  · rw [if_neg (fun h => e h.2), if_neg e, gw1_1, if_neg (by omega)]
/-- what balances keeps: the fixed ones are the first that come right -/
def CI (s0 s : gx_S) (R m r c : Nat) : Prop := ((∀ k j, k ≠ 232 → k ≠ 233 → k ≠ 234 → k ≠ 235 → s.1 k j = s0.1 k j) ∧ ∀ k j, k ≠ 224 → k ≠ 229 → k ≠ 230 → k ≠ 231 → s.2 k j = s0.2 k j) ∧ (RB s R m ∧ WB s ∧ C01 s) ∧ (∀ x y, x < R → y < m → (s.1 233 (9 * x + y) = if ev r c x y then 1 else 0) ∧ (s.1 233 (9 * x + y) = 1 → s.1 234 (9 * x + y) = 1 → 0 < s0.2 225 (9 * x + y)) ∧ s.2 224 (9 * x + y) = s0.2 224 (9 * x + y) + if ev r c x y then s.1 234 (9 * x + y) else 0) ∧ (∀ j, (∀ x y, x < R → y < m → j ≠ 9 * x + y) → s.2 224 j = s0.2 224 j) ∧ (∃ T, FEr s0 R m T ∧ ∀ x y, x < R → y < m → ev r c x y → T (9 * x + y) = s.1 234 (9 * x + y)) ∧ ∀ T, FEr s0 R m T → ∀ x y, x < R → y < m → ev r c x y → (∀ x' y', x' < R → y' < m → ev x y x' y' → T (9 * x' + y') = s.1 234 (9 * x' + y')) → T (9 * x + y) ≤ s.1 234 (9 * x + y)
theorem FEr_o {s0 s : gx_S} {R m : Nat} {T : Nat → Int} (h : ∀ k j, k ≠ 224 → k ≠ 229 → k ≠ 230 → k ≠ 231 → s.2 k j = s0.2 k j) : FEr s R m T ↔ FEr s0 R m T := by
  have e : ∀ j, s.2 225 j = s0.2 225 j ∧ s.2 226 j = s0.2 226 j ∧ s.2 227 j = s0.2 227 j ∧ s.2 228 j = s0.2 228 j := fun j => ⟨h 225 j (by decide) (by decide) (by decide) (by decide), h 226 j (by decide) (by decide) (by decide) (by decide), h 227 j (by decide) (by decide) (by decide) (by decide), h 228 j (by decide) (by decide) (by decide) (by decide)⟩
  unfold FEr
  simp only [fun j => (e j).1, fun j => (e j).2.1, fun j => (e j).2.2.1, fun j => (e j).2.2.2]
