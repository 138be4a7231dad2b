/-! THE REFERENCE's BALANCED TABLE: canBe's loops -/
theorem sg_dcut {f g : Nat → Int} {m : Nat} : ∀ {n : Nat}, m ≤ n → (∀ k, m ≤ k → k < n → f k = g k) → sg f n - sg g n = sg f m - sg g m := by
  intro n
  induction n with
  | zero =>
    intro h _
    rw [show m = 0 by omega]
  | succ n ih =>
    intro h e
    by_cases q : m = n + 1
    · rw [q]
    · have a := ih (by omega) fun k h1 h2 => e k h1 (by omega)
      have b := e n (by omega) (by omega)
      show sg f n + f n - (sg g n + g n) = _
      omega
theorem sg_cut0 {f : Nat → Int} {m n : Nat} (h : m ≤ n) (e : ∀ k, m ≤ k → k < n → f k = 0) : sg f n = sg f m := by
  have a := sg_dcut (f := f) (g := fun _ => 0) h e
  rw [sg_0 (f := fun _ => 0) fun _ _ => rfl, sg_0 (f := fun _ => 0) fun _ _ => rfl] at a
  omega
theorem cut_eq {y : Nat → Nat → Int} {R C : Nat → Bool} {m n : Nat} (h1 : ∀ r c, r < m → c < n → R r = true → C c = false → y r c ≤ 0) (h2 : ∀ r c, r < m → c < n → R r = false → C c = true → 0 ≤ y r c) (h3 : ∀ r, r < m → R r = true → 0 ≤ sg (fun c => y r c) n) (h4 : ∀ c, c < n → C c = true → sg (fun r => y r c) m ≤ 0) : (∀ r, r < m → R r = true → sg (fun c => y r c) n = 0) ∧ ∀ c, c < n → C c = true → sg (fun r => y r c) m = 0 := by
  have a := cut_le h1 h2
  have p1 : ∀ k, k < m → 0 ≤ (if R k = true then sg (fun c => y k c) n else 0) := fun k hk => by
    by_cases q : R k = true
    · rw [if_pos q]; exact h3 k hk q
    · rw [if_neg q]; omega
  have p2 : ∀ k, k < n → 0 ≤ (if C k = true then - sg (fun r => y r k) m else 0) := fun k hk => by
    by_cases q : C k = true
    · rw [if_pos q]; have := h4 k hk q; omega
    · rw [if_neg q]; omega
  have e : sg (fun c => if C c = true then - sg (fun r => y r c) m else 0) n = - sg (fun c => if C c = true then sg (fun r => y r c) m else 0) n := by
    rw [← sg_neg]
    exact sg_eq fun c _ => by
      show (if _ then _ else (0 : Int)) = - (if _ then _ else (0 : Int))
      by_cases q : C c = true
      · rw [if_pos q, if_pos q]
      · rw [if_neg q, if_neg q]
        rfl
  have n1 := sg_nn p1
  have n2 := sg_nn p2
  refine ⟨fun r hr q => ?_, fun c hc q => ?_⟩
  · have b := sg_at p1 r hr
    rw [if_pos q] at b
    have := h3 r hr q
    omega
  · have b := sg_at p2 c hc
    rw [if_pos q] at b
    have := h4 c hc q
    omega
/-- the ranges alone -/
def RB (s : gx_S) (R m : Nat) : Prop := (∀ j, j < 72 → (s.1 232 j = 0 ∨ s.1 232 j = 1) ∧ (s.1 233 j = 0 ∨ s.1 233 j = 1) ∧ (0 ≤ s.2 225 j ∧ s.2 225 j ≤ 1000000000)) ∧ (∀ c, c < 9 → (s.1 235 c = 0 ∨ s.1 235 c = 1) ∧ -900 ≤ s.2 229 c ∧ s.2 229 c ≤ 900 ∧ -1000 ≤ s.2 230 c ∧ s.2 230 c ≤ 1000) ∧ s.1 215 17 = R ∧ s.1 215 18 = m ∧ R ≤ 8 ∧ m ≤ 9
theorem RK_RB {s : gx_S} {R m : Nat} (K : RK s R m) : RB s R m := ⟨fun j hj => ⟨(K.1 j hj).1, (K.1 j hj).2.1, (K.1 j hj).2.2.1⟩, K.2⟩
theorem RB_RK {s : gx_S} {R m : Nat} (K : RB s R m) (h : ∀ r c, r < R → c < m → s.1 232 (9 * r + c) = 1 → 0 < s.2 225 (9 * r + c)) : RK s R m := by
  refine ⟨fun j hj => ⟨(K.1 j hj).1, (K.1 j hj).2.1, (K.1 j hj).2.2, fun a b d => ?_⟩, K.2⟩
  rw [K.2.2.1] at b
  rw [K.2.2.2.1] at d
  have e : 9 * (j / 9) + j % 9 = j := by omega
  have x := h (j / 9) (j % 9) (by omega) (by omega)
  rw [e] at x
  exact x a
/-- T comes right; T agrees with what is fixed -/
def FEr (s : gx_S) (R m : Nat) (T : Nat → Int) : Prop := (∀ r c, r < R → c < m → (T (9 * r + c) = 0 ∨ T (9 * r + c) = 1) ∧ (T (9 * r + c) = 1 → 0 < s.2 225 (9 * r + c))) ∧ (∀ r, r < R → sg (fun c => T (9 * r + c)) m = s.2 226 r) ∧ ∀ c, c < m → s.2 227 c ≤ sg (fun r => T (9 * r + c)) R ∧ sg (fun r => T (9 * r + c)) R ≤ s.2 228 c
def AGr (s : gx_S) (R m : Nat) (T : Nat → Int) : Prop := ∀ r c, r < R → c < m → s.1 233 (9 * r + c) = 1 → T (9 * r + c) = s.1 234 (9 * r + c)
/-- only on, seen, limit, filled, wanted change -/
def cb (s t : gx_S) : Prop := (∀ k j, k ≠ 232 → k ≠ 235 → t.1 k j = s.1 k j) ∧ ∀ k j, k ≠ 229 → k ≠ 230 → k ≠ 231 → t.2 k j = s.2 k j
theorem cb_rf (s : gx_S) : cb s s := ⟨fun _ _ _ _ => rfl, fun _ _ _ _ _ => rfl⟩
theorem cb_tr {s t u : gx_S} (a : cb s t) (b : cb t u) : cb s u := ⟨fun k j h1 h2 => (b.1 k j h1 h2).trans (a.1 k j h1 h2), fun k j h1 h2 h3 => (b.2 k j h1 h2 h3).trans (a.2 k j h1 h2 h3)⟩
theorem cb_GW {s t : gx_S} (a : GW s t) : cb s t := ⟨a.1, fun k j _ h1 h2 => a.2.1 k j h1 h2⟩
theorem sl_171_2 {R : Nat} (R8 : R ≤ 8) : ∀ (n r : Nat) (s : gx_S), R < n + r → r ≤ R → s.1 215 17 = R → ∃ u : gx_S, gm_171_2 n r s = gm_171_30 100000 0 u ∧ u.1 = s.1 ∧ (∀ k j, k ≠ 231 → u.2 k j = s.2 k j) ∧ ∀ j, u.2 231 j = if r ≤ j ∧ j < R then s.2 226 j else s.2 231 j := by
  intro n
  induction n with
  | zero => intro r s h; omega
  | succ n ih =>
    intro r s h hr e
    by_cases q : r = R
    · refine ⟨s, ?_, rfl, fun _ _ _ => rfl, fun j => by rw [if_neg (by omega)]⟩
      rw [gm_171_2, e]
      simp (disch := omega) only [if_pos]
    · have i5 : ((r : Int)).toNat = r := by omega
      have ce : ((r : Int) + 1) = ((r + 1 : Nat) : Int) := rfl
      obtain ⟨u, u1, u2, u3, u4⟩ := ih (r + 1) (gw2 s 231 r (s.2 226 r)) (by omega) (by omega) e
      refine ⟨u, ?_, u2, fun k j h => (u3 k j h).trans (if_neg fun x => h x.1), fun j => ?_⟩
      · rw [← u1, gm_171_2, e]
        simp (disch := omega) only [if_pos, if_neg, i5, ce]
      · rw [u4, gw2_2, gw2_2]
        by_cases q' : j = r
        · rw [if_neg (show ¬ (r + 1 ≤ j ∧ j < R) by omega), if_pos ⟨rfl, q'⟩, if_pos (show r ≤ j ∧ j < R by omega), q']
        · by_cases q2 : r + 1 ≤ j ∧ j < R
          · rw [if_pos q2, if_neg (show ¬ (226 = 231 ∧ j = r) by omega), if_pos (show r ≤ j ∧ j < R by omega)]
          · rw [if_neg q2, if_neg (fun x => q' x.2), if_neg (by omega)]
theorem sl_171_30 {m : Nat} (m9 : m ≤ 9) : ∀ (n c : Nat) (s : gx_S), m < n + c → c ≤ m → s.1 215 18 = m → ∃ u : gx_S, gm_171_30 n c s = gm_171_65 100000 0 u ∧ u.1 = s.1 ∧ (∀ k j, k ≠ 229 → k ≠ 230 → u.2 k j = s.2 k j) ∧ (∀ j, u.2 229 j = if c ≤ j ∧ j < m then s.2 227 j else s.2 229 j) ∧ ∀ j, u.2 230 j = if c ≤ j ∧ j < m then 0 else s.2 230 j := by
  intro n
  induction n with
  | zero => intro c s h; omega
  | succ n ih =>
    intro c s h hc e
    by_cases q : c = m
    · refine ⟨s, ?_, rfl, fun _ _ _ _ => rfl, fun j => by rw [if_neg (by omega)], fun j => by rw [if_neg (by omega)]⟩
      rw [gm_171_30, e]
      simp (disch := omega) only [if_pos]
    · have i5 : ((c : Int)).toNat = c := by omega
      have ce : ((c : Int) + 1) = ((c + 1 : Nat) : Int) := rfl
      obtain ⟨u, u1, u2, u3, u4, u5⟩ := ih (c + 1) (gw2 (gw2 s 230 c 0) 229 c ((gw2 s 230 c 0).2 227 c)) (by omega) (by omega) e
      have x7 : (gw2 s 230 c 0).2 227 c = s.2 227 c := by rw [gw2_2, if_neg (by omega)]
      refine ⟨u, ?_, u2, fun k j h h' => (u3 k j h h').trans (by rw [gw2_2, if_neg (fun x => h x.1), gw2_2, if_neg (fun x => h' x.1)]), fun j => ?_, fun j => ?_⟩
      · rw [← u1, gm_171_30, e]
        simp (disch := omega) only [if_pos, if_neg, i5, ce]
      · rw [u4]
        have y7 : (gw2 (gw2 s 230 c 0) 229 c ((gw2 s 230 c 0).2 227 c)).2 227 j = s.2 227 j := by rw [gw2_2, if_neg (by omega), gw2_2, if_neg (by omega)]
        have y9 : (gw2 (gw2 s 230 c 0) 229 c ((gw2 s 230 c 0).2 227 c)).2 229 j = if j = c then s.2 227 c else s.2 229 j := by
          rw [gw2_2]
          by_cases q' : j = c
          · rw [if_pos ⟨rfl, q'⟩, if_pos q', x7]
          · rw [if_neg (fun x => q' x.2), if_neg q', gw2_2, if_neg (by omega)]
        rw [y7, y9]
        by_cases q' : j = c
        · rw [if_neg (by omega), if_pos q', if_pos (by omega), q']
        · by_cases q2 : c + 1 ≤ j ∧ j < m
          · rw [if_pos q2, if_pos (by omega)]
          · rw [if_neg q2, if_neg q', if_neg (by omega)]
      · rw [u5]
        have y9 : (gw2 (gw2 s 230 c 0) 229 c ((gw2 s 230 c 0).2 227 c)).2 230 j = if j = c then 0 else s.2 230 j := by
          rw [gw2_2, if_neg (show ¬ (230 = 229 ∧ j = c) by omega), gw2_2]
          by_cases q' : j = c
          · rw [if_pos ⟨rfl, q'⟩, if_pos q']
          · rw [if_neg (fun x => q' x.2), if_neg q']
        rw [y9]
        by_cases q' : j = c
        · rw [if_neg (by omega), if_pos q', if_pos (by omega)]
        · by_cases q2 : c + 1 ≤ j ∧ j < m
          · rw [if_pos q2, if_pos (by omega)]
          · rw [if_neg q2, if_neg q', if_neg (by omega)]
/-- what the fixed ones put on -/
def vl (s : gx_S) (j : Nat) : Int := if s.1 233 j = 0 then 0 else if s.1 234 j = 0 then 0 else 1
theorem vl_01 (s : gx_S) (j : Nat) : vl s j = 0 ∨ vl s j = 1 := by
  unfold vl
  split
  · exact .inl rfl
  · split
    · exact .inl rfl
    · exact .inr rfl
/-- cell (x, y) comes before (r, c) -/
abbrev ev (r c x y : Nat) : Prop := x < r ∨ (x = r ∧ y < c)
def JC (s0 s : gx_S) (R m r c : Nat) : Prop := cb s0 s ∧ (∀ j, s.1 235 j = s0.1 235 j) ∧ (∀ j, s.2 229 j = s0.2 229 j) ∧ (∀ x, x < R → s.2 231 x = s0.2 231 x - sg (fun y => if ev r c x y then vl s0 (9 * x + y) else 0) m) ∧ (∀ x, R ≤ x → s.2 231 x = s0.2 231 x) ∧ (∀ y, y < m → s.2 230 y = s0.2 230 y + sg (fun x => if ev r c x y then vl s0 (9 * x + y) else 0) R) ∧ (∀ y, m ≤ y → s.2 230 y = s0.2 230 y) ∧ (∀ x y, x < R → y < m → ev r c x y → s.1 232 (9 * x + y) = vl s0 (9 * x + y)) ∧ ∀ j, j < 72 → s.1 232 j = s0.1 232 j ∨ s.1 232 j = 0 ∨ s.1 232 j = 1
/-- the entry is set -/
def seta (s : gx_S) (r c : Nat) (v : Int) : gx_S := gw2 (gw2 (gw1 s 232 (9 * r + c) v) 231 r (s.2 231 r - v)) 230 c (s.2 230 c + v)
theorem se_171_123 (k : Int → Int → gx_S → Option (Bool × gx_S)) {s : gx_S} {r c : Nat} {v : Int} (hr : r < 8) (hc : c < 9) (hv : v = 0 ∨ v = 1) : gm_171_123 k r c (9 * (r : Int) + (c : Int)) v s = k r ((c + 1 : Nat) : Int) (seta s r c v) := by
  have i1 : ((9 * (r : Int) + (c : Int))).toNat = 9 * r + c := by omega
  have i5 : ((c : Int)).toNat = c := by omega
  have i6 : ((r : Int)).toNat = r := by omega
  have ce : ((c : Int) + 1) = ((c + 1 : Nat) : Int) := rfl
  have gv : gn2 v = v := by rcases hv with h | h <;> rw [h] <;> decide
  have h72 : 0 ≤ 9 * (r : Int) + (c : Int) ∧ 9 * (r : Int) + (c : Int) < 72 := by omega
  have h8 : 0 ≤ (r : Int) ∧ (r : Int) < 8 := by omega
  have h9 : 0 ≤ (c : Int) ∧ (c : Int) < 9 := by omega
  have hv' : -2147483648 ≤ v ∧ v ≤ 2147483647 := by omega
  have x1 : (gw1 s 232 (9 * r + c) v).1 232 (9 * r + c) = v := if_pos ⟨rfl, rfl⟩
  unfold gm_171_123
  rw [if_pos h72, if_pos h8, sp_160, Option.bind_some, if_pos h72]
  show ((gm_131 ((gw1 s 232 (9 * (r : Int) + (c : Int)).toNat (gn2 v)).1 232 (9 * (r : Int) + (c : Int)).toNat) (gw1 s 232 (9 * (r : Int) + (c : Int)).toNat (gn2 v))).bind _) = _
  rw [i1, gv, x1, sp_131 hv, Option.bind_some, if_pos hv', if_pos h9, sp_160, Option.bind_some, if_pos h72]
  show ((gm_131 ((gw1 s 232 (9 * r + c) v).1 232 (9 * (r : Int) + (c : Int)).toNat) (gw2 (gw1 s 232 (9 * r + c) v) 231 (r : Int).toNat (s.2 231 (r : Int).toNat - v))).bind _) = _
  rw [i1, i6, x1, sp_131 hv, Option.bind_some, if_pos hv', i5, ce]
  rfl
