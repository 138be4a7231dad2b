/-! WHAT THE REFERENCE'S SMALL METHODS ANSWER -/
theorem sb {α β : Type} {o : Option (α × gx_S)} {f : α × gx_S → Option β} {a : α} {t : gx_S} {r : Option β} (e : o = some (a, t)) (h : f (a, t) = r) : o.bind f = r := by subst e; exact h
/-- sums -/
def sg (f : Nat → Int) : Nat → Int
  | 0 => 0
  | n + 1 => sg f n + f n
def bi (c : Prop) [Decidable c] : Int := if c then 1 else 0
theorem bi_r (c : Prop) [Decidable c] : 0 ≤ bi c ∧ bi c ≤ 1 := by unfold bi; split <;> omega
theorem gbt : gb true = 1 := rfl
theorem gbf : gb false = 0 := rfl
theorem gb_bi (c : Prop) [Decidable c] : gb (decide c) = bi c := by
  unfold gb bi
  by_cases h : c
  · rw [if_pos (decide_eq_true h), if_pos h]
  · rw [if_neg (by rw [decide_eq_false h]; decide), if_neg h]
theorem sp_160 (x0 x1 : Int) (s : gx_S) : gm_160 x0 x1 s = some (9 * x0 + x1, s) := rfl
theorem sp_151 (s : gx_S) : gm_151 s = some (s.1 216 0 * s.1 216 1, s) := rfl
theorem sp_131 {x : Int} (h : x = 0 ∨ x = 1) (s : gx_S) : gm_131 x s = some (x, s) := by
  unfold gm_131
  rcases h with h | h <;> subst h <;> rfl
theorem sp_130 {x a b : Int} (hx : -9223372036854775808 ≤ x ∧ x ≤ 9223372036854775807) (ha : -9223372036854775808 ≤ a ∧ a ≤ 9223372036854775807) (hb : -9223372036854775808 ≤ b ∧ b ≤ 9223372036854775807) (s : gx_S) : gm_130 x a b s = some (decide (a ≤ x ∧ x ≤ b), s) := by
  unfold gm_130
  by_cases h1 : x < a
  · simp (disch := omega) only [if_pos, if_neg]
    rw [decide_eq_false (by omega)]
  · by_cases h2 : b < x
    · simp (disch := omega) only [if_pos, if_neg]
      rw [decide_eq_false (by omega)]
    · simp (disch := omega) only [if_pos, if_neg]
      rw [decide_eq_true (by omega)]
/-- the reference's map: rows, columns -/
def mz (s : gx_S) (R C : Nat) : Prop := s.1 216 0 = R ∧ s.1 216 1 = C ∧ R ≤ 8 ∧ C ≤ 12
/-- the code of cell k in layer l -/
def cdx (s : gx_S) (C l k : Nat) : Int := s.1 216 (52 + 96 * l + 12 * (k / C) + k % C)
theorem sp_152 {s : gx_S} {R C : Nat} (h : mz s R C) (l k : Nat) (hl : l < 3) (hk : k < R * C) : gm_152 l k s = some (cdx s C l k, s) := by
  obtain ⟨h0, h1, h2, h3⟩ := h
  have hC : 0 < C := by
    rcases Nat.eq_zero_or_pos C with q | q
    · subst q; omega
    · exact q
  have q1 : k / C < R := Nat.div_lt_of_lt_mul (by rw [Nat.mul_comm]; exact hk)
  have q2 : k % C < C := Nat.mod_lt k hC
  have q3 : k < 96 := Nat.lt_of_lt_of_le hk (Nat.le_trans (Nat.mul_le_mul h2 h3) (by omega))
  have e1 : (k : Int) / (C : Int) = ((k / C : Nat) : Int) := rfl
  have e2 : (k : Int) % (C : Int) = ((k % C : Nat) : Int) := rfl
  have e3 : cdx s C l k = s.1 216 (52 + 96 * l + 12 * (k / C) + k % C) := by simp only [cdx]
  unfold gm_152
  rw [h1, e1, e2, e3]
  clear e1 e2 e3
  generalize k / C = d at *
  generalize k % C = m at *
  simp (disch := omega) only [if_pos]
  rw [show (52 + 96 * (l : Int) + 12 * (d : Int) + (m : Int)).toNat = 52 + 96 * l + 12 * d + m by omega]
theorem sp_144 {s : gx_S} (l : Nat) (hl : l < 3) (h : 0 ≤ s.1 216 2 ∧ s.1 216 2 < 8) : gm_144 l s = some (decide (s.1 216 2 / 2 ^ l % 2 = 1), s) := by
  obtain ⟨h1, h2⟩ := h
  unfold gm_144
  generalize s.1 216 2 = t at h1 h2
  have ht : t = 0 ∨ t = 1 ∨ t = 2 ∨ t = 3 ∨ t = 4 ∨ t = 5 ∨ t = 6 ∨ t = 7 := by omega
  have hl2 : l = 0 ∨ l = 1 ∨ l = 2 := by omega
  rcases ht with e | e | e | e | e | e | e | e <;> rcases hl2 with q | q | q <;> subst e <;> subst q <;> rfl
theorem sp_150 {s : gx_S} (h : 0 ≤ s.1 216 2 ∧ s.1 216 2 < 8) : gm_150 s = some (decide (s.1 216 2 = 7), s) := by
  unfold gm_150
  by_cases q : s.1 216 2 = 7
  · simp (disch := omega) only [if_pos, if_neg]
    rw [decide_eq_true q]
  · simp (disch := omega) only [if_pos, if_neg]
    rw [decide_eq_false q]
theorem sp_155 {s : gx_S} (g z : Nat) (hg : g < 3) (hz : z < 9) : gm_155 g z s = some (s.1 216 (5 + 9 * g + z), s) := by
  unfold gm_155
  simp (disch := omega) only [if_pos]
  rw [show (5 + 9 * (g : Int) + (z : Int)).toNat = 5 + 9 * g + z by omega]
theorem sg_nn {f : Nat → Int} : ∀ {n : Nat}, (∀ k, k < n → 0 ≤ f k) → 0 ≤ sg f n
  | 0, _ => Int.le_refl 0
  | n + 1, h => by
    have a := sg_nn (n := n) fun k hk => h k (by omega)
    have b := h n (by omega)
    show 0 ≤ sg f n + f n
    omega
theorem sg_le {f g : Nat → Int} : ∀ {n : Nat}, (∀ k, k < n → f k ≤ g k) → sg f n ≤ sg g n
  | 0, _ => Int.le_refl 0
  | n + 1, h => by
    have a := sg_le (n := n) fun k hk => h k (by omega)
    have b := h n (by omega)
    show sg f n + f n ≤ sg g n + g n
    omega
theorem sg_eq {f g : Nat → Int} {n : Nat} (h : ∀ k, k < n → f k = g k) : sg f n = sg g n := by
  have a := sg_le (f := f) (g := g) fun k hk => Int.le_of_eq (h k hk)
  have b := sg_le (f := g) (g := f) fun k hk => Int.le_of_eq (h k hk).symm
  omega
theorem sg_at {f : Nat → Int} : ∀ {n : Nat}, (∀ k, k < n → 0 ≤ f k) → ∀ i, i < n → f i ≤ sg f n
  | 0, _, i, hi => absurd hi (by omega)
  | n + 1, h, i, hi => by
    show f i ≤ sg f n + f n
    have b := h n (by omega)
    by_cases e : i = n
    · subst e
      have a := sg_nn (f := f) (n := i) fun k hk => h k (by omega)
      omega
    · have a := sg_at (n := n) (fun k hk => h k (by omega)) i (by omega)
      omega
theorem sg_0 : ∀ {f : Nat → Int} {n : Nat}, (∀ k, k < n → f k = 0) → sg f n = 0
  | _, 0, _ => rfl
  | f, n + 1, h => by
    have a := sg_0 (f := f) (n := n) fun k hk => h k (by omega)
    have b := h n (by omega)
    show sg f n + f n = 0
    omega
/-- cells of a layer with a code -/
def cnt (s : gx_S) (R C l : Nat) (z : Int) : Int := sg (fun k => bi (cdx s C l k = z)) (R * C)
theorem cnt_nn (s : gx_S) (R C l : Nat) (z : Int) : 0 ≤ cnt s R C l z := sg_nn fun k _ => (bi_r _).1
theorem cnt_pos {s : gx_S} {R C l : Nat} {z : Int} {k : Nat} (hk : k < R * C) (e : cdx s C l k = z) : 0 < cnt s R C l z := by
  have a := sg_at (f := fun k => bi (cdx s C l k = z)) (fun k _ => (bi_r _).1) k hk
  have b : bi (cdx s C l k = z) = 1 := if_pos e
  unfold cnt
  simp only [b] at a
  omega
theorem cnt_0 {s : gx_S} {R C l : Nat} {z : Int} (h : ∀ k, k < R * C → cdx s C l k ≠ z) : cnt s R C l z = 0 := sg_0 fun k hk => if_neg (h k hk)
/-- whether a zone stands in a layer, from cell j on -/
theorem sl_153 {s : gx_S} {R C : Nat} (h : mz s R C) (l : Nat) (z : Int) (hl : l < 3) (hz : -2147483648 ≤ z ∧ z ≤ 2147483647) (ht : 0 ≤ s.1 216 2 ∧ s.1 216 2 < 8) (hb : s.1 216 2 / 2 ^ l % 2 = 1) (hc : ∀ k, k < R * C → -2147483648 ≤ cdx s C l k ∧ cdx s C l k ≤ 2147483647) : ∀ (n j : Nat), j ≤ R * C → R * C - j < n → (∀ k, k < j → cdx s C l k ≠ z) → gm_153_2 n l z j s = some (decide (0 < cnt s R C l z), s) := by
  have hm : s.1 216 0 * s.1 216 1 = ((R * C : Nat) : Int) := by rw [h.1, h.2.1]; simp
  have hm2 : R * C ≤ 96 := Nat.le_trans (Nat.mul_le_mul h.2.2.1 h.2.2.2) (by omega)
  intro n
  induction n with
  | zero => intro j h1 h2; omega
  | succ n ih =>
    intro j h1 h2 h3
    rw [gm_153_2, sp_151, hm]
    simp only [Option.bind_some]
    by_cases q : j < R * C
    · obtain ⟨c1, c2⟩ := hc j q
      rw [sp_144 l hl ht, decide_eq_true hb]
      simp only [Option.bind_some]
      rw [sp_152 h l j hl q]
      simp only [Option.bind_some, gbt]
      by_cases e : cdx s C l j = z
      · simp (disch := omega) only [if_pos, if_neg]
        rw [decide_eq_true (cnt_pos q e)]
      · simp (disch := omega) only [if_pos, if_neg]
        have := ih (j + 1) (by omega) (by omega) (fun k hk => by
          by_cases e2 : k = j
          · subst e2; exact e
          · exact h3 k (by omega))
        rw [show ((j + 1 : Nat) : Int) = (j : Int) + 1 by omega] at this
        exact this
    · have e : j = R * C := by omega
      subst e
      have e2 := cnt_0 h3
      simp (disch := omega) only [if_pos]
      rw [decide_eq_false (by omega)]
theorem sp_153 {s : gx_S} {R C : Nat} (h : mz s R C) (l : Nat) (z : Int) (hl : l < 3) (hz : -2147483648 ≤ z ∧ z ≤ 2147483647) (ht : 0 ≤ s.1 216 2 ∧ s.1 216 2 < 8) (hb : s.1 216 2 / 2 ^ l % 2 = 1) (hc : ∀ k, k < R * C → -2147483648 ≤ cdx s C l k ∧ cdx s C l k ≤ 2147483647) : gm_153 l z s = some (decide (0 < cnt s R C l z), s) := by
  have hm2 : R * C ≤ 96 := Nat.le_trans (Nat.mul_le_mul h.2.2.1 h.2.2.2) (by omega)
  exact sl_153 h l z hl hz ht hb hc 100000 0 (by omega) (by omega) (fun k hk => by omega)
/-- how many cells of the old layer have a code: from cell j on, with x counted already -/
theorem sl_158 {s : gx_S} {R C : Nat} (h : mz s R C) (z : Int) (hz : -2147483648 ≤ z ∧ z ≤ 2147483647) (hc : ∀ k, k < R * C → -2147483648 ≤ cdx s C 0 k ∧ cdx s C 0 k ≤ 2147483647) : ∀ (n j : Nat), j ≤ R * C → R * C - j < n → gm_158_4 n z (sg (fun k => bi (cdx s C 0 k = z)) j) j s = some (sg (fun k => bi (cdx s C 0 k = z)) (R * C), s) := by
  have hm : s.1 216 0 * s.1 216 1 = ((R * C : Nat) : Int) := by rw [h.1, h.2.1]; simp
  have hm2 : R * C ≤ 96 := Nat.le_trans (Nat.mul_le_mul h.2.2.1 h.2.2.2) (by omega)
  intro n
  induction n with
  | zero => intro j h1 h2; omega
  | succ n ih =>
    intro j h1 h2
    rw [gm_158_4, sp_151, hm]
    simp only [Option.bind_some]
    by_cases q : j < R * C
    · obtain ⟨c1, c2⟩ := hc j q
      rw [show (0 : Int) = ((0 : Nat) : Int) from rfl, sp_152 h 0 j (by omega) q]
      simp only [Option.bind_some, gm_158_28]
      have e1 := ih (j + 1) (by omega) (by omega)
      rw [show ((j + 1 : Nat) : Int) = (j : Int) + 1 by omega] at e1
      by_cases e : cdx s C 0 j = z
      · simp (disch := omega) only [if_pos, if_neg, sp_131, Option.bind_some]
        rw [← e1]
        simp only [sg, bi, if_pos e]
      · simp (disch := omega) only [if_pos, if_neg, sp_131, Option.bind_some]
        rw [← e1]
        simp only [sg, bi, if_neg e]
        rfl
    · have : j = R * C := by omega
      subst this
      simp (disch := omega) only [if_pos]
