/-! THE REFERENCE'S TABLE: laid, cut -/
theorem gw1_1 (s : gx_S) (k j : Nat) (x : Int) (a b : Nat) : (gw1 s k j x).1 a b = if a = k ∧ b = j then x else s.1 a b := rfl
theorem gw1_2 (s : gx_S) (k j : Nat) (x : Int) : (gw1 s k j x).2 = s.2 := rfl
theorem gw2_2 (s : gx_S) (k j : Nat) (x : Int) (a b : Nat) : (gw2 s k j x).2 a b = if a = k ∧ b = j then x else s.2 a b := rfl
theorem gw2_1 (s : gx_S) (k j : Nat) (x : Int) : (gw2 s k j x).1 = s.1 := rfl
def bg (s : gx_S) (n : Nat) : gx_S := (fun k j => if k = 222 ∧ j < n then 0 else s.1 k j, fun k j => if (k = 224 ∨ k = 225) ∧ j < n then 0 else s.2 k j)
theorem bg_0 (s : gx_S) : bg s 0 = s := by
  refine Prod.ext (funext fun k => funext fun j => ?_) (funext fun k => funext fun j => ?_)
  · show (if k = 222 ∧ j < 0 then 0 else s.1 k j) = _
    rw [if_neg (by omega)]
  · show (if (k = 224 ∨ k = 225) ∧ j < 0 then 0 else s.2 k j) = _
    rw [if_neg (by omega)]
theorem bg_s (s : gx_S) (n : Nat) : gw2 (gw2 (gw1 (bg s n) 222 n 0) 224 n 0) 225 n 0 = bg s (n + 1) := by
  refine Prod.ext (funext fun k => funext fun j => ?_) (funext fun k => funext fun j => ?_)
  · simp only [bg, gw1, gw2]
    grind
  · simp only [bg, gw1, gw2]
    grind
theorem sl_159 (s : gx_S) : ∀ (n j : Nat), j ≤ 72 → 72 - j < n → gm_159_12 n j (bg s j) = some (bg s 72) := by
  intro n
  induction n with
  | zero => intro j h1 h2; omega
  | succ n ih =>
    intro j h1 h2
    rw [gm_159_12]
    by_cases q : j < 72
    · have e1 := ih (j + 1) (by omega) (by omega)
      rw [show ((j + 1 : Nat) : Int) = (j : Int) + 1 by omega] at e1
      simp (disch := first | omega | decide) only [if_pos, if_neg]
      rw [Int.toNat_natCast, bg_s]
      exact e1
    · have e : j = 72 := by omega
      subst e
      simp (disch := first | omega | decide) only [if_pos]
theorem sp_159 (a b : Int) (s : gx_S) : gm_159 a b s = some (bg (gw1 (gw1 s 215 17 a) 215 18 b) 72) := by
  unfold gm_159
  have e := sl_159 (gw1 (gw1 s 215 17 a) 215 18 b) 100000 0 (by omega) (by omega)
  rw [bg_0] at e
  exact e
/-- a row's parts together -/
theorem sl_161 {s : gx_S} {r m : Nat} (hr : r < 8) (hm : m ≤ 9) (h : s.1 215 18 = m) : ∀ (n j : Nat), j ≤ m → m - j < n → gm_161_4 n r (sg (fun c => s.1 222 (9 * r + c)) j) j s = some (sg (fun c => s.1 222 (9 * r + c)) m, gw1 s 223 r (sg (fun c => s.1 222 (9 * r + c)) m)) := by
  intro n
  induction n with
  | zero => intro j h1 h2; omega
  | succ n ih =>
    intro j h1 h2
    rw [gm_161_4]
    by_cases q : j < m
    · have e1 := ih (j + 1) (by omega) (by omega)
      rw [show ((j + 1 : Nat) : Int) = (j : Int) + 1 by omega] at e1
      simp (disch := first | omega | decide) only [if_pos, if_neg, sp_160, Option.bind_some]
      rw [← e1, show (9 * (r : Int) + (j : Int)).toNat = 9 * r + j by omega]
      simp only [sg]
    · have e : j = m := by omega
      subst e
      simp (disch := first | omega | decide) only [if_pos]
      rw [Int.toNat_natCast]
theorem sp_161 {s : gx_S} {r m : Nat} (hr : r < 8) (hm : m ≤ 9) (h : s.1 215 18 = m) : gm_161 r s = some (sg (fun c => s.1 222 (9 * r + c)) m, gw1 s 223 r (sg (fun c => s.1 222 (9 * r + c)) m)) := sl_161 hr hm h 100000 0 (by omega) (by omega)
/-- a row cut: floors and rests of its first n entries -/
def ct (s : gx_S) (r n : Nat) : gx_S := (s.1, fun k j => if k = 224 ∧ 9 * r ≤ j ∧ j < 9 * r + n then (if s.1 223 r = 0 then 0 else s.2 221 r * s.1 222 j / s.1 223 r) else if k = 225 ∧ 9 * r ≤ j ∧ j < 9 * r + n then (if s.1 223 r = 0 then 0 else s.2 221 r * s.1 222 j % s.1 223 r) else s.2 k j)
theorem ct_0 (s : gx_S) (r : Nat) : ct s r 0 = s := by
  refine Prod.ext rfl (funext fun k => funext fun j => ?_)
  simp only [ct]
  grind
theorem ct_s (s : gx_S) (r n : Nat) : gw2 (gw2 (ct s r n) 224 (9 * r + n) (if s.1 223 r = 0 then 0 else s.2 221 r * s.1 222 (9 * r + n) / s.1 223 r)) 225 (9 * r + n) (if s.1 223 r = 0 then 0 else s.2 221 r * s.1 222 (9 * r + n) % s.1 223 r) = ct s r (n + 1) := by
  refine Prod.ext rfl (funext fun k => funext fun j => ?_)
  simp only [ct, gw2]
  grind
theorem sl_162 {s : gx_S} {r m : Nat} (hr : r < 8) (hm : m ≤ 9) (h : s.1 215 18 = m) (hp : 0 ≤ s.2 221 r ∧ s.2 221 r ≤ 1000000000) (ha : ∀ c, c < m → 0 ≤ s.1 222 (9 * r + c) ∧ s.1 222 (9 * r + c) ≤ 1000000) (hw : 0 ≤ s.1 223 r ∧ s.1 223 r ≤ 10000000) : ∀ (n j : Nat) (x : Int), j ≤ m → m - j < n → x = s.2 221 r - sg (fun c => (ct s r m).2 224 (9 * r + c)) j → gm_162_10 n r x j (ct s r j) = some (if s.1 223 r = 0 then 0 else s.2 221 r - sg (fun c => (ct s r m).2 224 (9 * r + c)) m, ct s r m) := by
  intro n
  induction n with
  | zero => intro j x h1 h2; omega
  | succ n ih =>
    intro j x h1 h2 hx
    rw [gm_162_10]
    have e15 : (ct s r j).1 = s.1 := rfl
    have e21 : (ct s r j).2 221 r = s.2 221 r := by simp only [ct]; grind
    by_cases q : j < m
    · obtain ⟨a1, a2⟩ := ha j q
      have e1 := ih (j + 1) (x - (ct s r m).2 224 (9 * r + j)) (by omega) (by omega) (by rw [hx]; simp only [sg]; omega)
      rw [show ((j + 1 : Nat) : Int) = (j : Int) + 1 by omega, ← ct_s] at e1
      have em : (ct s r m).2 224 (9 * r + j) = if s.1 223 r = 0 then 0 else s.2 221 r * s.1 222 (9 * r + j) / s.1 223 r := by
        simp only [ct]
        grind
      rw [em] at e1
      have hpr : 0 ≤ s.2 221 r * s.1 222 (9 * r + j) := Int.mul_nonneg hp.1 a1
      have hpr2 : s.2 221 r * s.1 222 (9 * r + j) ≤ 1000000000 * 1000000 := Int.mul_le_mul hp.2 a2 a1 (by omega)
      have ei : (9 * (r : Int) + (j : Int)).toNat = 9 * r + j := by omega
      simp (disch := first | omega | decide) only [e15, Int.toNat_natCast, if_pos, if_neg, sp_160, Option.bind_some, ei, e21]
      by_cases w : s.1 223 r = 0
      · simp only [if_pos w] at e1 ⊢
        simp (disch := first | omega | decide) only [gw2_1, gw2_2, e15, if_pos, if_neg, gm_162_73, gm_162_107, sp_160, Option.bind_some, ei, Int.toNat_natCast, and_self, true_and]
        exact e1
      · simp only [if_neg w] at e1 ⊢
        simp (disch := first | omega | decide) only [gw2_1, gw2_2, e15, if_pos, if_neg, gm_162_73, gm_162_107, sp_160, Option.bind_some, ei, Int.toNat_natCast, and_self, true_and]
        exact e1
    · have e : j = m := by omega
      subst e
      simp (disch := first | omega | decide) only [e15, Int.toNat_natCast, if_pos]
      by_cases w : s.1 223 r = 0
      · simp (disch := first | omega | decide) only [if_pos, if_neg]
      · simp (disch := first | omega | decide) only [if_pos, if_neg]
        rw [hx]
theorem sp_162 {s : gx_S} {r m : Nat} (hr : r < 8) (hm : m ≤ 9) (h : s.1 215 18 = m) (hp : 0 ≤ s.2 221 r ∧ s.2 221 r ≤ 1000000000) (ha : ∀ c, c < m → 0 ≤ s.1 222 (9 * r + c) ∧ s.1 222 (9 * r + c) ≤ 1000000) (hw : 0 ≤ s.1 223 r ∧ s.1 223 r ≤ 10000000) : gm_162 r s = some (if s.1 223 r = 0 then 0 else s.2 221 r - sg (fun c => (ct s r m).2 224 (9 * r + c)) m, ct s r m) := by
  unfold gm_162
  simp (disch := first | omega | decide) only [if_pos, Int.toNat_natCast]
  have e := sl_162 hr hm h hp ha hw 100000 0 (s.2 221 r) (by omega) (by omega) (by simp only [sg]; omega)
  rw [ct_0] at e
  exact e
