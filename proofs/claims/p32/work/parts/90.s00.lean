section
/-! WHAT THE REFERENCE'S SMALL METHODS ANSWER -/
theorem sb {α β : Type} {o : Option (α × gx_S)} {f : α × gx_S → Option β} {a : α} {t : gx_S} {r : Option β} (e : o = some (a, t)) (h : f (a, t) = r) : o.bind f = r := by subst e; exact h
/-- sums -/
def sg (f : Nat → Int) : Nat → Int
  | 0 => 0
  | n + 1 => sg f n + f n
def bi (c : Prop) [Decidable c] : Int := if c then 1 else 0
theorem bi_r (c : Prop) [Decidable c] : 0 ≤ bi c ∧ bi c ≤ 1 := by unfold bi; split <;> omega
theorem gbt : gb true = 1 := rfl
theorem gbf : gb false = 0 := rfl
theorem gb_bi (c : Prop) [Decidable c] : gb (decide c) = bi c := by
  unfold gb bi
  by_cases h : c
  · rw [if_pos (decide_eq_true h), if_pos h]
  · rw [if_neg (by rw [decide_eq_false h]; decide), if_neg h]
theorem sp_160 (x0 x1 : Int) (s : gx_S) : gm_160 x0 x1 s = some (9 * x0 + x1, s) := rfl
theorem sp_151 (s : gx_S) : gm_151 s = some (s.1 216 0 * s.1 216 1, s) := rfl
theorem sp_131 {x : Int} (h : x = 0 ∨ x = 1) (s : gx_S) : gm_131 x s = some (x, s) := by
  unfold gm_131
  rcases h with h | h <;> subst h <;> rfl
theorem sp_130 {x a b : Int} (hx : -9223372036854775808 ≤ x ∧ x ≤ 9223372036854775807) (ha : -9223372036854775808 ≤ a ∧ a ≤ 9223372036854775807) (hb : -9223372036854775808 ≤ b ∧ b ≤ 9223372036854775807) (s : gx_S) : gm_130 x a b s = some (decide (a ≤ x ∧ x ≤ b), s) := by
  unfold gm_130
  by_cases h1 : x < a
  · simp (disch := omega) only [if_pos, if_neg]
    rw [decide_eq_false (by omega)]
  · by_cases h2 : b < x
    · simp (disch := omega) only [if_pos, if_neg]
      rw [decide_eq_false (by omega)]
    · simp (disch := omega) only [if_pos, if_neg]
      rw [decide_eq_true (by omega)]
/-- the reference's map: rows, columns -/
def mz (s : gx_S) (R C : Nat) : Prop := s.1 216 0 = R ∧ s.1 216 1 = C ∧ R ≤ 8 ∧ C ≤ 12
/-- the code of cell k in layer l -/
def cdx (s : gx_S) (C l k : Nat) : Int := s.1 216 (52 + 96 * l + 12 * (k / C) + k % C)
theorem sp_152 {s : gx_S} {R C : Nat} (h : mz s R C) (l k : Nat) (hl : l < 3) (hk : k < R * C) : gm_152 l k s = some (cdx s C l k, s) := by
  obtain ⟨h0, h1, h2, h3⟩ := h
  have hC : 0 < C := by
    rcases Nat.eq_zero_or_pos C with q | q
    · subst q; omega
    · exact q
  have q1 : k / C < R := Nat.div_lt_of_lt_mul (by rw [Nat.mul_comm]; exact hk)
  have q2 : k % C < C := Nat.mod_lt k hC
  have q3 : k < 96 := Nat.lt_of_lt_of_le hk (Nat.le_trans (Nat.mul_le_mul h2 h3) (by omega))
  have e1 : (k : Int) / (C : Int) = ((k / C : Nat) : Int) := rfl
  have e2 : (k : Int) % (C : Int) = ((k % C : Nat) : Int) := rfl
  have e3 : cdx s C l k = s.1 216 (52 + 96 * l + 12 * (k / C) + k % C) := by simp only [cdx]
  unfold gm_152
  rw [h1, e1, e2, e3]
  clear e1 e2 e3
  generalize k / C = d at *
  generalize k % C = m at *
  simp (disch := omega) only [if_pos]
  rw [show (52 + 96 * (l : Int) + 12 * (d : Int) + (m : Int)).toNat = 52 + 96 * l + 12 * d + m by omega]
theorem sp_144 {s : gx_S} (l : Nat) (hl : l < 3) (h : 0 ≤ s.1 216 2 ∧ s.1 216 2 < 8) : gm_144 l s = some (decide (s.1 216 2 / 2 ^ l % 2 = 1), s) := by
  obtain ⟨h1, h2⟩ := h
  unfold gm_144
  generalize s.1 216 2 = t at h1 h2
  have ht : t = 0 ∨ t = 1 ∨ t = 2 ∨ t = 3 ∨ t = 4 ∨ t = 5 ∨ t = 6 ∨ t = 7 := by omega
  have hl2 : l = 0 ∨ l = 1 ∨ l = 2 := by omega
  rcases ht with e | e | e | e | e | e | e | e <;> rcases hl2 with q | q | q <;> subst e <;> subst q <;> rfl
theorem sp_150 {s : gx_S} (h : 0 ≤ s.1 216 2 ∧ s.1 216 2 < 8) : gm_150 s = some (decide (s.1 216 2 = 7), s) := by
  unfold gm_150
  by_cases q : s.1 216 2 = 7
  · simp (disch := omega) only [if_pos, if_neg]
    rw [decide_eq_true q]
  · simp (disch := omega) only [if_pos, if_neg]
    rw [decide_eq_false q]
theorem sp_155 {s : gx_S} (g z : Nat) (hg : g < 3) (hz : z < 9) : gm_155 g z s = some (s.1 216 (5 + 9 * g + z), s) := by
  unfold gm_155
  simp (disch := omega) only [if_pos]
  rw [show (5 + 9 * (g : Int) + (z : Int)).toNat = 5 + 9 * g + z by omega]
theorem sg_nn {f : Nat → Int} : ∀ {n : Nat}, (∀ k, k < n → 0 ≤ f k) → 0 ≤ sg f n
  | 0, _ => Int.le_refl 0
  | n + 1, h => by
    have a := sg_nn (n := n) fun k hk => h k (by omega)
    have b := h n (by omega)
    show 0 ≤ sg f n + f n
    omega
theorem sg_le {f g : Nat → Int} : ∀ {n : Nat}, (∀ k, k < n → f k ≤ g k) → sg f n ≤ sg g n
  | 0, _ => Int.le_refl 0
  | n + 1, h => by
    have a := sg_le (n := n) fun k hk => h k (by omega)
    have b := h n (by omega)
    show sg f n + f n ≤ sg g n + g n
    omega
theorem sg_eq {f g : Nat → Int} {n : Nat} (h : ∀ k, k < n → f k = g k) : sg f n = sg g n := by
  have a := sg_le (f := f) (g := g) fun k hk => Int.le_of_eq (h k hk)
  have b := sg_le (f := g) (g := f) fun k hk => Int.le_of_eq (h k hk).symm
  omega
theorem sg_at {f : Nat → Int} : ∀ {n : Nat}, (∀ k, k < n → 0 ≤ f k) → ∀ i, i < n → f i ≤ sg f n
  | 0, _, i, hi => absurd hi (by omega)
  | n + 1, h, i, hi => by
    show f i ≤ sg f n + f n
    have b := h n (by omega)
    by_cases e : i = n
    · subst e
      have a := sg_nn (f := f) (n := i) fun k hk => h k (by omega)
      omega
    · have a := sg_at (n := n) (fun k hk => h k (by omega)) i (by omega)
      omega
theorem sg_0 : ∀ {f : Nat → Int} {n : Nat}, (∀ k, k < n → f k = 0) → sg f n = 0
  | _, 0, _ => rfl
  | f, n + 1, h => by
    have a := sg_0 (f := f) (n := n) fun k hk => h k (by omega)
    have b := h n (by omega)
    show sg f n + f n = 0
    omega
/-- cells of a layer with a code -/
def cnt (s : gx_S) (R C l : Nat) (z : Int) : Int := sg (fun k => bi (cdx s C l k = z)) (R * C)
theorem cnt_nn (s : gx_S) (R C l : Nat) (z : Int) : 0 ≤ cnt s R C l z := sg_nn fun k _ => (bi_r _).1
theorem cnt_pos {s : gx_S} {R C l : Nat} {z : Int} {k : Nat} (hk : k < R * C) (e : cdx s C l k = z) : 0 < cnt s R C l z := by
  have a := sg_at (f := fun k => bi (cdx s C l k = z)) (fun k _ => (bi_r _).1) k hk
  have b : bi (cdx s C l k = z) = 1 := if_pos e
  unfold cnt
  simp only [b] at a
  omega
theorem cnt_0 {s : gx_S} {R C l : Nat} {z : Int} (h : ∀ k, k < R * C → cdx s C l k ≠ z) : cnt s R C l z = 0 := sg_0 fun k hk => if_neg (h k hk)
/-- whether a zone stands in a layer, from cell j on -/
theorem sl_153 {s : gx_S} {R C : Nat} (h : mz s R C) (l : Nat) (z : Int) (hl : l < 3) (hz : -2147483648 ≤ z ∧ z ≤ 2147483647) (ht : 0 ≤ s.1 216 2 ∧ s.1 216 2 < 8) (hb : s.1 216 2 / 2 ^ l % 2 = 1) (hc : ∀ k, k < R * C → -2147483648 ≤ cdx s C l k ∧ cdx s C l k ≤ 2147483647) : ∀ (n j : Nat), j ≤ R * C → R * C - j < n → (∀ k, k < j → cdx s C l k ≠ z) → gm_153_2 n l z j s = some (decide (0 < cnt s R C l z), s) := by
  have hm : s.1 216 0 * s.1 216 1 = ((R * C : Nat) : Int) := by rw [h.1, h.2.1]; simp
  have hm2 : R * C ≤ 96 := Nat.le_trans (Nat.mul_le_mul h.2.2.1 h.2.2.2) (by omega)
  intro n
  induction n with
  | zero => intro j h1 h2; omega
  | succ n ih =>
    intro j h1 h2 h3
    rw [gm_153_2, sp_151, hm]
    simp only [Option.bind_some]
    by_cases q : j < R * C
    · obtain ⟨c1, c2⟩ := hc j q
      rw [sp_144 l hl ht, decide_eq_true hb]
      simp only [Option.bind_some]
      rw [sp_152 h l j hl q]
      simp only [Option.bind_some, gbt]
      by_cases e : cdx s C l j = z
      · simp (disch := omega) only [if_pos, if_neg]
        rw [decide_eq_true (cnt_pos q e)]
      · simp (disch := omega) only [if_pos, if_neg]
        have := ih (j + 1) (by omega) (by omega) (fun k hk => by
          by_cases e2 : k = j
          · subst e2; exact e
          · exact h3 k (by omega))
        rw [show ((j + 1 : Nat) : Int) = (j : Int) + 1 by omega] at this
        exact this
    · have e : j = R * C := by omega
      subst e
      have e2 := cnt_0 h3
      simp (disch := omega) only [if_pos]
      rw [decide_eq_false (by omega)]
theorem sp_153 {s : gx_S} {R C : Nat} (h : mz s R C) (l : Nat) (z : Int) (hl : l < 3) (hz : -2147483648 ≤ z ∧ z ≤ 2147483647) (ht : 0 ≤ s.1 216 2 ∧ s.1 216 2 < 8) (hb : s.1 216 2 / 2 ^ l % 2 = 1) (hc : ∀ k, k < R * C → -2147483648 ≤ cdx s C l k ∧ cdx s C l k ≤ 2147483647) : gm_153 l z s = some (decide (0 < cnt s R C l z), s) := by
  have hm2 : R * C ≤ 96 := Nat.le_trans (Nat.mul_le_mul h.2.2.1 h.2.2.2) (by omega)
  exact sl_153 h l z hl hz ht hb hc 100000 0 (by omega) (by omega) (fun k hk => by omega)
/-- how many cells of the old layer have a code: from cell j on, with x counted already -/
theorem sl_158 {s : gx_S} {R C : Nat} (h : mz s R C) (z : Int) (hz : -2147483648 ≤ z ∧ z ≤ 2147483647) (hc : ∀ k, k < R * C → -2147483648 ≤ cdx s C 0 k ∧ cdx s C 0 k ≤ 2147483647) : ∀ (n j : Nat), j ≤ R * C → R * C - j < n → gm_158_4 n z (sg (fun k => bi (cdx s C 0 k = z)) j) j s = some (sg (fun k => bi (cdx s C 0 k = z)) (R * C), s) := by
  have hm : s.1 216 0 * s.1 216 1 = ((R * C : Nat) : Int) := by rw [h.1, h.2.1]; simp
  have hm2 : R * C ≤ 96 := Nat.le_trans (Nat.mul_le_mul h.2.2.1 h.2.2.2) (by omega)
  intro n
  induction n with
  | zero => intro j h1 h2; omega
  | succ n ih =>
    intro j h1 h2
    rw [gm_158_4, sp_151, hm]
    simp only [Option.bind_some]
    by_cases q : j < R * C
    · obtain ⟨c1, c2⟩ := hc j q
      rw [show (0 : Int) = ((0 : Nat) : Int) from rfl, sp_152 h 0 j (by omega) q]
      simp only [Option.bind_some, gm_158_28]
      have e1 := ih (j + 1) (by omega) (by omega)
      rw [show ((j + 1 : Nat) : Int) = (j : Int) + 1 by omega] at e1
      by_cases e : cdx s C 0 j = z
      · simp (disch := omega) only [if_pos, if_neg, sp_131, Option.bind_some]
        rw [← e1]
        simp only [sg, bi, if_pos e]
      · simp (disch := omega) only [if_pos, if_neg, sp_131, Option.bind_some]
        rw [← e1]
        simp only [sg, bi, if_neg e]
        rfl
    · have : j = R * C := by omega
      subst this
      simp (disch := omega) only [if_pos]
end
section
/-! WHAT THE CLASS'S STATE ANSWERS: a is the address of a State -/
def cz (s : gx_S) (a R C : Nat) : Prop := fx_oc a 6 = true ∧ s.1 a 4 = R ∧ s.1 a 5 = C ∧ R ≤ 8 ∧ C ≤ 12
theorem sp_58 {s : gx_S} {a R C : Nat} (h : cz s a R C) : gm_58 a s = some (((R * C : Nat) : Int), s) := by
  obtain ⟨h0, h1, h2, h3, h4⟩ := h
  unfold gm_58
  rw [if_pos h0, h1, h2]
  simp
theorem sp_56 {s : gx_S} {a : Nat} (h0 : fx_oc a 6 = true) (l : Nat) (hl : l < 3) (h : 0 ≤ s.1 a 6 ∧ s.1 a 6 < 8) : gm_56 a l s = some (decide (s.1 a 6 / 2 ^ l % 2 = 1), s) := by
  obtain ⟨h1, h2⟩ := h
  unfold gm_56
  rw [if_pos h0]
  generalize s.1 a 6 = t at h1 h2
  have ht : t = 0 ∨ t = 1 ∨ t = 2 ∨ t = 3 ∨ t = 4 ∨ t = 5 ∨ t = 6 ∨ t = 7 := by omega
  have hl2 : l = 0 ∨ l = 1 ∨ l = 2 := by omega
  rcases ht with e | e | e | e | e | e | e | e <;> rcases hl2 with q | q | q <;> subst e <;> subst q <;> rfl
theorem sp_57 {s : gx_S} {a : Nat} (h0 : fx_oc a 6 = true) (h : 0 ≤ s.1 a 6 ∧ s.1 a 6 < 8) : gm_57 a s = some (decide (s.1 a 6 = 7), s) := by
  unfold gm_57
  by_cases q : s.1 a 6 = 7
  · simp (disch := first | omega | assumption) only [if_pos, if_neg]
    rw [decide_eq_true q]
  · simp (disch := first | omega | assumption) only [if_pos, if_neg]
    rw [decide_eq_false q]
theorem sp_60 {s : gx_S} {a : Nat} (h0 : fx_oc a 6 = true) (l k : Nat) (hl : l < 3) (hk : k < 96) : gm_60 a l k s = some (s.1 (a + 1) (96 * l + k), s) := by
  unfold gm_60
  rw [if_pos h0]
  simp (disch := omega) only [if_pos]
  rw [show ((l : Int) * 96 + (k : Int)).toNat = 96 * l + k by omega]
theorem sl_62 {s : gx_S} {a : Nat} (h0 : fx_oc a 6 = true) (l m : Nat) (z : Int) (hl : l < 3) (hm : m ≤ 96) (hz : -2147483648 ≤ z ∧ z ≤ 2147483647) (hc : ∀ k, k < m → -2147483648 ≤ s.1 (a + 1) (96 * l + k) ∧ s.1 (a + 1) (96 * l + k) ≤ 2147483647) : ∀ (n j : Nat), j ≤ m → m - j < n → gm_62_23 n a l z m (sg (fun k => bi (s.1 (a + 1) (96 * l + k) = z)) j) j s = some (sg (fun k => bi (s.1 (a + 1) (96 * l + k) = z)) m, s) := by
  intro n
  induction n with
  | zero => intro j h1 h2; omega
  | succ n ih =>
    intro j h1 h2
    rw [gm_62_23]
    by_cases q : j < m
    · obtain ⟨c1, c2⟩ := hc j q
      have e1 := ih (j + 1) (by omega) (by omega)
      rw [show ((j + 1 : Nat) : Int) = (j : Int) + 1 by omega] at e1
      rw [sp_60 h0 l j hl (by omega)]
      simp only [Option.bind_some, gm_62_43]
      by_cases e : s.1 (a + 1) (96 * l + j) = z
      · simp (disch := omega) only [if_pos, if_neg]
        rw [← e1]
        simp only [sg, bi, if_pos e]
      · simp (disch := omega) only [if_pos, if_neg]
        rw [← e1]
        simp only [sg, bi, if_neg e, Int.add_zero]
    · have : j = m := by omega
      subst this
      simp (disch := omega) only [if_pos]
theorem sp_62 {s : gx_S} {a R C : Nat} (h : cz s a R C) (l : Nat) (z : Int) (hl : l < 3) (ht : 0 ≤ s.1 a 6 ∧ s.1 a 6 < 8) (hz : -2147483648 ≤ z ∧ z ≤ 2147483647) (hc : ∀ k, k < R * C → -2147483648 ≤ s.1 (a + 1) (96 * l + k) ∧ s.1 (a + 1) (96 * l + k) ≤ 2147483647) : gm_62 a l z s = some (if s.1 a 6 / 2 ^ l % 2 = 1 then sg (fun k => bi (s.1 (a + 1) (96 * l + k) = z)) (R * C) else 0, s) := by
  have hm2 : R * C ≤ 96 := Nat.le_trans (Nat.mul_le_mul h.2.2.2.1 h.2.2.2.2) (by omega)
  unfold gm_62
  rw [if_pos h.1, sp_56 h.1 l hl ht]
  simp only [Option.bind_some]
  by_cases q : s.1 a 6 / 2 ^ l % 2 = 1
  · rw [decide_eq_true q, gbt, if_pos q, sp_58 h]
    simp (disch := omega) only [if_neg, Option.bind_some, gm_62_16]
    exact sl_62 h.1 l (R * C) z hl hm2 hz hc 100000 0 (by omega) (by omega)
  · rw [decide_eq_false q, gbf, if_neg q]
    simp (disch := omega) only [if_pos, Option.bind_some, gm_62_16]
    exact sl_62 (s := s) h.1 l 0 z hl (by omega) hz (fun k hk => absurd hk (by omega)) 100000 0 (by omega) (by omega)
theorem sl_66 {s : gx_S} {a : Nat} (g : Nat) (hg : g < 3) : ∀ (n j : Nat), j ≤ 9 → 9 - j < n → gm_66_4 n a g (sg (fun k => s.1 (a + 2) (9 * g + k)) j) j s = some (sg (fun k => s.1 (a + 2) (9 * g + k)) 9, s) := by
  intro n
  induction n with
  | zero => intro j h1 h2; omega
  | succ n ih =>
    intro j h1 h2
    rw [gm_66_4]
    by_cases q : j < 9
    · have e1 := ih (j + 1) (by omega) (by omega)
      rw [show ((j + 1 : Nat) : Int) = (j : Int) + 1 by omega] at e1
      simp (disch := omega) only [if_pos, if_neg]
      rw [← e1, show ((g : Int) * 9 + (j : Int)).toNat = 9 * g + j by omega]
      simp only [sg]
    · have : j = 9 := by omega
      subst this
      simp (disch := omega) only [if_pos]
theorem sp_66 {s : gx_S} {a : Nat} (h : fx_oc a 6 = true) (g : Nat) (hg : g < 3) : gm_66 a g s = some (sg (fun k => s.1 (a + 2) (9 * g + k)) 9, s) := by
  unfold gm_66
  rw [if_pos h]
  exact sl_66 g hg 100000 0 (by omega) (by omega)
end
section
/-! THE REFERENCE'S SUMS OVER CELLS, ITS TABLE -/
/-- a weight or a cell of a pair of zones (none: any) -/
def ind (s : gx_S) (C g : Nat) (o z : Int) (b : Bool) (k : Nat) : Int := if (o = -1 ∨ cdx s C 0 k = o) ∧ (z = -1 ∨ cdx s C 1 k = z) then (if b = true then 1 else s.1 216 (32 + 4 * g + (cdx s C 2 k).toNat)) else 0
/-- what is asked of codes -/
def cok (s : gx_S) (R C : Nat) : Prop := (∀ k, k < R * C → 0 ≤ cdx s C 0 k ∧ cdx s C 0 k ≤ 8) ∧ (∀ k, k < R * C → 0 ≤ cdx s C 1 k ∧ cdx s C 1 k ≤ 8) ∧ (∀ k, k < R * C → 0 ≤ cdx s C 2 k ∧ cdx s C 2 k ≤ 3)
theorem sp_156 {s : gx_S} {R C : Nat} (h : mz s R C) (hc : cok s R C) (g k : Nat) (hg : g < 3) (hk : k < R * C) : gm_156 g k s = some (s.1 216 (32 + 4 * g + (cdx s C 2 k).toNat), s) := by
  obtain ⟨c1, c2⟩ := hc.2.2 k hk
  unfold gm_156
  rw [show (2 : Int) = ((2 : Nat) : Int) from rfl, sp_152 h 2 k (by omega) hk]
  simp (disch := first | omega | decide) only [if_pos, Option.bind_some]
  rw [show (32 + 4 * (g : Int) + cdx s C 2 k).toNat = 32 + 4 * g + (cdx s C 2 k).toNat by omega]
theorem sl_157 {s : gx_S} {R C : Nat} (h : mz s R C) (hc : cok s R C) (g : Nat) (o z : Int) (b : Bool) (hg : g < 3) (ho : -1 ≤ o ∧ o ≤ 8) (hz : -1 ≤ z ∧ z ≤ 8) : ∀ (n j : Nat), j ≤ R * C → R * C - j < n → gm_157_6 n g o z (gb b) (sg (ind s C g o z b) j) j s = some (sg (ind s C g o z b) (R * C), s) := by
  have hm : s.1 216 0 * s.1 216 1 = ((R * C : Nat) : Int) := by rw [h.1, h.2.1]; simp
  have hm2 : R * C ≤ 96 := Nat.le_trans (Nat.mul_le_mul h.2.2.1 h.2.2.2) (by omega)
  intro n
  induction n with
  | zero => intro j h1 h2; omega
  | succ n ih =>
    intro j h1 h2
    rw [gm_157_6, sp_151, hm]
    simp only [Option.bind_some]
    by_cases q : j < R * C
    · obtain ⟨a1, a2⟩ := hc.1 j q
      obtain ⟨b1, b2⟩ := hc.2.1 j q
      have e1 := ih (j + 1) (by omega) (by omega)
      rw [show ((j + 1 : Nat) : Int) = (j : Int) + 1 by omega] at e1
      have e0 : gm_152 0 j s = some (cdx s C 0 j, s) := sp_152 h 0 j (by omega) q
      have e2 : gm_152 1 j s = some (cdx s C 1 j, s) := sp_152 h 1 j (by omega) q
      have e3 := sp_156 h hc g j hg q
      have hb := gb_r b
      have t52 : ∀ x : Int, (x = 0 ∨ x = 1) → gm_157_52 (gm_157_6 n) g o z (gb b) (sg (ind s C g o z b) j) j x s = gm_157_6 n g o z (gb b) (sg (ind s C g o z b) j + (if x = 0 then 0 else if b = true then 1 else s.1 216 (32 + 4 * g + (cdx s C 2 j).toNat))) ((j : Int) + 1) s := by
        intro x hx
        unfold gm_157_52
        rcases hx with hx | hx <;> subst hx
        · simp (disch := first | omega | decide) only [if_pos, if_neg, gm_157_81]
        · cases b with
          | true =>
            have hgb := gbt
            simp (disch := first | omega | decide) only [if_pos, if_neg, gm_157_81]
          | false =>
            rw [e3]
            simp (disch := first | omega | decide) only [if_pos, if_neg, gm_157_81, gbf, Option.bind_some]
      have t31 : gm_157_31 (gm_157_6 n) g o z (gb b) (sg (ind s C g o z b) j) j s = gm_157_6 n g o z (gb b) (sg (ind s C g o z b) j + (if z = -1 ∨ cdx s C 1 j = z then (if b = true then 1 else s.1 216 (32 + 4 * g + (cdx s C 2 j).toNat)) else 0)) ((j : Int) + 1) s := by
        unfold gm_157_31
        by_cases z1 : z = -1
        · simp (disch := first | omega | decide) only [if_pos, if_neg]
          rw [t52 1 (Or.inr rfl)]
          simp (disch := first | omega | decide) only [if_pos, if_neg]
        · rw [e2]
          by_cases z2 : cdx s C 1 j = z
          · simp (disch := first | omega | decide) only [if_pos, if_neg, Option.bind_some]
            rw [t52 1 (Or.inr rfl)]
            simp (disch := first | omega | decide) only [if_pos, if_neg]
          · simp (disch := first | omega | decide) only [if_pos, if_neg, Option.bind_some]
            rw [t52 0 (Or.inl rfl)]
            simp (disch := first | omega | decide) only [if_pos, if_neg]
      rw [← e1]
      simp only [sg]
      by_cases o1 : o = -1
      · simp (disch := first | omega | decide) only [if_pos, if_neg]
        rw [t31]
        congr 2
        unfold ind
        by_cases z1 : z = -1 ∨ cdx s C 1 j = z
        · rw [if_pos z1, if_pos (show (o = -1 ∨ cdx s C 0 j = o) ∧ (z = -1 ∨ cdx s C 1 j = z) from ⟨Or.inl o1, z1⟩)]
        · rw [if_neg z1, if_neg (show ¬ ((o = -1 ∨ cdx s C 0 j = o) ∧ (z = -1 ∨ cdx s C 1 j = z)) from fun u => z1 u.2)]
      · rw [e0]
        by_cases o2 : cdx s C 0 j = o
        · simp (disch := first | omega | decide) only [if_pos, if_neg, Option.bind_some]
          rw [t31]
          congr 2
          unfold ind
          by_cases z1 : z = -1 ∨ cdx s C 1 j = z
          · rw [if_pos z1, if_pos (show (o = -1 ∨ cdx s C 0 j = o) ∧ (z = -1 ∨ cdx s C 1 j = z) from ⟨Or.inr o2, z1⟩)]
          · rw [if_neg z1, if_neg (show ¬ ((o = -1 ∨ cdx s C 0 j = o) ∧ (z = -1 ∨ cdx s C 1 j = z)) from fun u => z1 u.2)]
        · simp (disch := first | omega | decide) only [if_pos, if_neg, Option.bind_some]
          rw [t52 0 (Or.inl rfl)]
          simp (disch := first | omega | decide) only [if_pos, if_neg]
          congr 2
          unfold ind
          rw [if_neg fun u => u.1.elim o1 o2]
    · have e : j = R * C := by omega
      subst e
      simp (disch := first | omega | decide) only [if_pos]
theorem sp_157 {s : gx_S} {R C : Nat} (h : mz s R C) (hc : cok s R C) (g : Nat) (o z : Int) (b : Bool) (hg : g < 3) (ho : -1 ≤ o ∧ o ≤ 8) (hz : -1 ≤ z ∧ z ≤ 8) : gm_157 g o z (gb b) s = some (sg (ind s C g o z b) (R * C), s) := by
  have hm2 : R * C ≤ 96 := Nat.le_trans (Nat.mul_le_mul h.2.2.1 h.2.2.2) (by omega)
  exact sl_157 h hc g o z b hg ho hz 100000 0 (by omega) (by omega)
end
section
/-! THE REFERENCE'S TABLE: laid, cut -/
theorem gw1_1 (s : gx_S) (k j : Nat) (x : Int) (a b : Nat) : (gw1 s k j x).1 a b = if a = k ∧ b = j then x else s.1 a b := rfl
theorem gw1_2 (s : gx_S) (k j : Nat) (x : Int) : (gw1 s k j x).2 = s.2 := rfl
theorem gw2_2 (s : gx_S) (k j : Nat) (x : Int) (a b : Nat) : (gw2 s k j x).2 a b = if a = k ∧ b = j then x else s.2 a b := rfl
theorem gw2_1 (s : gx_S) (k j : Nat) (x : Int) : (gw2 s k j x).1 = s.1 := rfl
def bg (s : gx_S) (n : Nat) : gx_S := (fun k j => if k = 222 ∧ j < n then 0 else s.1 k j, fun k j => if (k = 224 ∨ k = 225) ∧ j < n then 0 else s.2 k j)
theorem bg_0 (s : gx_S) : bg s 0 = s := by
  refine Prod.ext (funext fun k => funext fun j => ?_) (funext fun k => funext fun j => ?_)
  · show (if k = 222 ∧ j < 0 then 0 else s.1 k j) = _
    rw [if_neg (by omega)]
  · show (if (k = 224 ∨ k = 225) ∧ j < 0 then 0 else s.2 k j) = _
    rw [if_neg (by omega)]
theorem bg_s (s : gx_S) (n : Nat) : gw2 (gw2 (gw1 (bg s n) 222 n 0) 224 n 0) 225 n 0 = bg s (n + 1) := by
  refine Prod.ext (funext fun k => funext fun j => ?_) (funext fun k => funext fun j => ?_)
  · simp only [bg, gw1, gw2]
    grind
  · simp only [bg, gw1, gw2]
    grind
theorem sl_159 (s : gx_S) : ∀ (n j : Nat), j ≤ 72 → 72 - j < n → gm_159_12 n j (bg s j) = some (bg s 72) := by
  intro n
  induction n with
  | zero => intro j h1 h2; omega
  | succ n ih =>
    intro j h1 h2
    rw [gm_159_12]
    by_cases q : j < 72
    · have e1 := ih (j + 1) (by omega) (by omega)
      rw [show ((j + 1 : Nat) : Int) = (j : Int) + 1 by omega] at e1
      simp (disch := first | omega | decide) only [if_pos, if_neg]
      rw [Int.toNat_natCast, bg_s]
      exact e1
    · have e : j = 72 := by omega
      subst e
      simp (disch := first | omega | decide) only [if_pos]
theorem sp_159 (a b : Int) (s : gx_S) : gm_159 a b s = some (bg (gw1 (gw1 s 215 17 a) 215 18 b) 72) := by
  unfold gm_159
  have e := sl_159 (gw1 (gw1 s 215 17 a) 215 18 b) 100000 0 (by omega) (by omega)
  rw [bg_0] at e
  exact e
/-- a row's parts together -/
theorem sl_161 {s : gx_S} {r m : Nat} (hr : r < 8) (hm : m ≤ 9) (h : s.1 215 18 = m) : ∀ (n j : Nat), j ≤ m → m - j < n → gm_161_4 n r (sg (fun c => s.1 222 (9 * r + c)) j) j s = some (sg (fun c => s.1 222 (9 * r + c)) m, gw1 s 223 r (sg (fun c => s.1 222 (9 * r + c)) m)) := by
  intro n
  induction n with
  | zero => intro j h1 h2; omega
  | succ n ih =>
    intro j h1 h2
    rw [gm_161_4]
    by_cases q : j < m
    · have e1 := ih (j + 1) (by omega) (by omega)
      rw [show ((j + 1 : Nat) : Int) = (j : Int) + 1 by omega] at e1
      simp (disch := first | omega | decide) only [if_pos, if_neg, sp_160, Option.bind_some]
      rw [← e1, show (9 * (r : Int) + (j : Int)).toNat = 9 * r + j by omega]
      simp only [sg]
    · have e : j = m := by omega
      subst e
      simp (disch := first | omega | decide) only [if_pos]
      rw [Int.toNat_natCast]
theorem sp_161 {s : gx_S} {r m : Nat} (hr : r < 8) (hm : m ≤ 9) (h : s.1 215 18 = m) : gm_161 r s = some (sg (fun c => s.1 222 (9 * r + c)) m, gw1 s 223 r (sg (fun c => s.1 222 (9 * r + c)) m)) := sl_161 hr hm h 100000 0 (by omega) (by omega)
/-- a row cut: floors and rests of its first n entries -/
def ct (s : gx_S) (r n : Nat) : gx_S := (s.1, fun k j => if k = 224 ∧ 9 * r ≤ j ∧ j < 9 * r + n then (if s.1 223 r = 0 then 0 else s.2 221 r * s.1 222 j / s.1 223 r) else if k = 225 ∧ 9 * r ≤ j ∧ j < 9 * r + n then (if s.1 223 r = 0 then 0 else s.2 221 r * s.1 222 j % s.1 223 r) else s.2 k j)
theorem ct_0 (s : gx_S) (r : Nat) : ct s r 0 = s := by
  refine Prod.ext rfl (funext fun k => funext fun j => ?_)
  simp only [ct]
  grind
theorem ct_s (s : gx_S) (r n : Nat) : gw2 (gw2 (ct s r n) 224 (9 * r + n) (if s.1 223 r = 0 then 0 else s.2 221 r * s.1 222 (9 * r + n) / s.1 223 r)) 225 (9 * r + n) (if s.1 223 r = 0 then 0 else s.2 221 r * s.1 222 (9 * r + n) % s.1 223 r) = ct s r (n + 1) := by
  refine Prod.ext rfl (funext fun k => funext fun j => ?_)
  simp only [ct, gw2]
  grind
theorem sl_162 {s : gx_S} {r m : Nat} (hr : r < 8) (hm : m ≤ 9) (h : s.1 215 18 = m) (hp : 0 ≤ s.2 221 r ∧ s.2 221 r ≤ 1000000000) (ha : ∀ c, c < m → 0 ≤ s.1 222 (9 * r + c) ∧ s.1 222 (9 * r + c) ≤ 1000000) (hw : 0 ≤ s.1 223 r ∧ s.1 223 r ≤ 10000000) : ∀ (n j : Nat) (x : Int), j ≤ m → m - j < n → x = s.2 221 r - sg (fun c => (ct s r m).2 224 (9 * r + c)) j → gm_162_10 n r x j (ct s r j) = some (if s.1 223 r = 0 then 0 else s.2 221 r - sg (fun c => (ct s r m).2 224 (9 * r + c)) m, ct s r m) := by
  intro n
  induction n with
  | zero => intro j x h1 h2; omega
  | succ n ih =>
    intro j x h1 h2 hx
    rw [gm_162_10]
    have e15 : (ct s r j).1 = s.1 := rfl
    have e21 : (ct s r j).2 221 r = s.2 221 r := by simp only [ct]; grind
    by_cases q : j < m
    · obtain ⟨a1, a2⟩ := ha j q
      have e1 := ih (j + 1) (x - (ct s r m).2 224 (9 * r + j)) (by omega) (by omega) (by rw [hx]; simp only [sg]; omega)
      rw [show ((j + 1 : Nat) : Int) = (j : Int) + 1 by omega, ← ct_s] at e1
      have em : (ct s r m).2 224 (9 * r + j) = if s.1 223 r = 0 then 0 else s.2 221 r * s.1 222 (9 * r + j) / s.1 223 r := by
        simp only [ct]
        grind
      rw [em] at e1
      have hpr : 0 ≤ s.2 221 r * s.1 222 (9 * r + j) := Int.mul_nonneg hp.1 a1
      have hpr2 : s.2 221 r * s.1 222 (9 * r + j) ≤ 1000000000 * 1000000 := Int.mul_le_mul hp.2 a2 a1 (by omega)
      have ei : (9 * (r : Int) + (j : Int)).toNat = 9 * r + j := by omega
      simp (disch := first | omega | decide) only [e15, Int.toNat_natCast, if_pos, if_neg, sp_160, Option.bind_some, ei, e21]
      by_cases w : s.1 223 r = 0
      · simp only [if_pos w] at e1 ⊢
        simp (disch := first | omega | decide) only [gw2_1, gw2_2, e15, if_pos, if_neg, gm_162_73, gm_162_107, sp_160, Option.bind_some, ei, Int.toNat_natCast, and_self, true_and]
        exact e1
      · simp only [if_neg w] at e1 ⊢
        simp (disch := first | omega | decide) only [gw2_1, gw2_2, e15, if_pos, if_neg, gm_162_73, gm_162_107, sp_160, Option.bind_some, ei, Int.toNat_natCast, and_self, true_and]
        exact e1
    · have e : j = m := by omega
      subst e
      simp (disch := first | omega | decide) only [e15, Int.toNat_natCast, if_pos]
      by_cases w : s.1 223 r = 0
      · simp (disch := first | omega | decide) only [if_pos, if_neg]
      · simp (disch := first | omega | decide) only [if_pos, if_neg]
        rw [hx]
theorem sp_162 {s : gx_S} {r m : Nat} (hr : r < 8) (hm : m ≤ 9) (h : s.1 215 18 = m) (hp : 0 ≤ s.2 221 r ∧ s.2 221 r ≤ 1000000000) (ha : ∀ c, c < m → 0 ≤ s.1 222 (9 * r + c) ∧ s.1 222 (9 * r + c) ≤ 1000000) (hw : 0 ≤ s.1 223 r ∧ s.1 223 r ≤ 10000000) : gm_162 r s = some (if s.1 223 r = 0 then 0 else s.2 221 r - sg (fun c => (ct s r m).2 224 (9 * r + c)) m, ct s r m) := by
  unfold gm_162
  simp (disch := first | omega | decide) only [if_pos, Int.toNat_natCast]
  have e := sl_162 hr hm h hp ha hw 100000 0 (s.2 221 r) (by omega) (by omega) (by simp only [sg]; omega)
  rw [ct_0] at e
  exact e
end
section
/-! THE REFERENCE: those left over, by the greatest rests -/
def bs (s : gx_S) (r : Nat) : Nat → Int
  | 0 => -1
  | c + 1 => if 0 < s.2 225 (9 * r + c) ∧ (bs s r c = -1 ∨ s.2 225 (9 * r + (bs s r c).toNat) < s.2 225 (9 * r + c)) then (c : Int) else bs s r c
theorem bs_r (s : gx_S) (r : Nat) : ∀ c : Nat, -1 ≤ bs s r c ∧ bs s r c < c
  | 0 => by simp only [bs]; omega
  | c + 1 => by
    have a := bs_r s r c
    simp only [bs]
    split <;> omega
def gv1 (s : gx_S) (r m : Nat) : gx_S := gw2 (gw2 s 224 (9 * r + (bs s r m).toNat) (s.2 224 (9 * r + (bs s r m).toNat) + 1)) 225 (9 * r + (bs s r m).toNat) 0
def gvn (s : gx_S) (r m : Nat) : Nat → gx_S
  | 0 => s
  | n + 1 => gvn (gv1 s r m) r m n
theorem sl_163 {s : gx_S} {r m : Nat} {x : Int} (k : Int → Int → gx_S → Option gx_S) (hr : r < 8) (hm : m ≤ 9) (h : s.1 215 18 = m) (hb : 0 ≤ bs s r m) (hs : ∀ c, c < m → -1000000000 ≤ s.2 225 (9 * r + c) ∧ s.2 225 (9 * r + c) ≤ 1000000000) : ∀ (n j : Nat), j ≤ m → m - j < n → gm_163_18 k n r x (bs s r j) j s = k r (x - 1) (gv1 s r m) := by
  intro n
  induction n with
  | zero => intro j h1 h2; omega
  | succ n ih =>
    intro j h1 h2
    rw [gm_163_18]
    have b1 := bs_r s r j
    by_cases q : j < m
    · obtain ⟨c1, c2⟩ := hs j q
      have e1 := ih (j + 1) (by omega) (by omega)
      rw [show ((j + 1 : Nat) : Int) = (j : Int) + 1 by omega] at e1
      have ei : (9 * (r : Int) + (j : Int)).toNat = 9 * r + j := by omega
      simp only [bs] at e1
      by_cases p : 0 < s.2 225 (9 * r + j)
      · by_cases b : bs s r j = -1
        · rw [if_pos ⟨p, Or.inl b⟩] at e1
          simp (disch := first | omega | decide) only [if_pos, if_neg, sp_160, Option.bind_some, ei, gm_163_75, gm_163_79]
          exact e1
        · have b2 : (9 * (r : Int) + bs s r j).toNat = 9 * r + (bs s r j).toNat := by omega
          obtain ⟨d1, d2⟩ := hs (bs s r j).toNat (by omega)
          by_cases g : s.2 225 (9 * r + (bs s r j).toNat) < s.2 225 (9 * r + j)
          · rw [if_pos ⟨p, Or.inr g⟩] at e1
            simp (disch := first | omega | decide) only [if_pos, if_neg, sp_160, Option.bind_some, ei, b2, gm_163_75, gm_163_79]
            exact e1
          · rw [if_neg (fun u => u.2.elim b g)] at e1
            simp (disch := first | omega | decide) only [if_pos, if_neg, sp_160, Option.bind_some, ei, b2, gm_163_75, gm_163_79]
            exact e1
      · rw [if_neg (fun u => p u.1)] at e1
        simp (disch := first | omega | decide) only [if_pos, if_neg, sp_160, Option.bind_some, ei, gm_163_79]
        exact e1
    · have e : j = m := by omega
      subst e
      have b2 : (9 * (r : Int) + bs s r j).toNat = 9 * r + (bs s r j).toNat := by omega
      simp (disch := first | omega | decide) only [if_pos, if_neg, sp_160, Option.bind_some, b2]
      rfl
theorem sl_163b {r m : Nat} (hr : r < 8) (hm : m ≤ 9) : ∀ (i : Nat) (s : gx_S) (n : Nat), i < n → (∀ j, j < i → (gvn s r m j).1 215 18 = m ∧ 0 ≤ bs (gvn s r m j) r m ∧ ∀ c, c < m → -1000000000 ≤ (gvn s r m j).2 225 (9 * r + c) ∧ (gvn s r m j).2 225 (9 * r + c) ≤ 1000000000) → i ≤ 1000000000 → gm_163_6 n r i s = some (gvn s r m i) := by
  intro i
  induction i with
  | zero =>
    intro s n h1 h2 h3
    obtain ⟨n', rfl⟩ : ∃ n', n = n' + 1 := ⟨n - 1, by omega⟩
    rw [gm_163_6]
    simp (disch := first | omega | decide) only [if_pos]
    rfl
  | succ i ih =>
    intro s n h1 h2 h3
    obtain ⟨n', rfl⟩ : ∃ n', n = n' + 1 := ⟨n - 1, by omega⟩
    rw [gm_163_6]
    simp (disch := first | omega | decide) only [if_pos, if_neg]
    obtain ⟨g1, g2, g3⟩ := h2 0 (by omega)
    have e := sl_163 (s := s) (x := ((i + 1 : Nat) : Int)) (gm_163_6 n') hr hm g1 g2 g3 100000 0 (by omega) (by omega)
    have e2 : bs s r 0 = -1 := rfl
    rw [e2] at e
    refine e.trans ?_
    rw [show ((i + 1 : Nat) : Int) - 1 = (i : Int) by omega]
    exact ih (gv1 s r m) n' (by omega) (fun j hj => h2 (j + 1) (by omega)) (by omega)
end
section
/-! REMAINDERS: there are rests enough -/
theorem sg_mul (x : Int) (f : Nat → Int) : ∀ n : Nat, sg (fun c => x * f c) n = x * sg f n
  | 0 => by simp only [sg, Int.mul_zero]
  | n + 1 => by simp only [sg, sg_mul x f n, Int.mul_add]
theorem sg_add (f g : Nat → Int) : ∀ n : Nat, sg (fun c => f c + g c) n = sg f n + sg g n
  | 0 => rfl
  | n + 1 => by simp only [sg, sg_add f g n]; omega
theorem sg_upd {f g : Nat → Int} {i : Nat} {x : Int} (hg : g i = f i + x) (ho : ∀ c, c ≠ i → g c = f c) : ∀ {n : Nat}, i < n → sg g n = sg f n + x
  | 0, h => absurd h (by omega)
  | n + 1, h => by
    simp only [sg]
    by_cases e : i = n
    · subst e
      rw [hg, sg_eq (f := g) (g := f) (n := i) fun k hk => ho k (by omega)]
      omega
    · rw [ho n (fun q => e q.symm), sg_upd (f := f) (g := g) hg ho (n := n) (by omega)]
      omega
theorem bs_none {s : gx_S} {r : Nat} : ∀ {m : Nat}, bs s r m = -1 → ∀ c, c < m → s.2 225 (9 * r + c) ≤ 0
  | 0, _, c, hc => absurd hc (by omega)
  | m + 1, h, c, hc => by
    simp only [bs] at h
    split at h
    · omega
    · rename_i g
      by_cases e : c = m
      · subst e
        rw [h] at g
        have := fun u => g ⟨u, Or.inl rfl⟩
        omega
      · exact bs_none h c (by omega)
/-- the best: positive, the greatest, the first of like ones -/
theorem bs_some {s : gx_S} {r : Nat} : ∀ {m : Nat}, 0 ≤ bs s r m → 0 < s.2 225 (9 * r + (bs s r m).toNat) ∧ (∀ c, c < m → s.2 225 (9 * r + c) ≤ s.2 225 (9 * r + (bs s r m).toNat)) ∧ ∀ c : Nat, (c : Int) < bs s r m → s.2 225 (9 * r + c) < s.2 225 (9 * r + (bs s r m).toNat)
  | 0, h => absurd h (by simp only [bs]; omega)
  | m + 1, h => by
    have b1 := bs_r s r m
    simp only [bs] at h ⊢
    by_cases g : 0 < s.2 225 (9 * r + m) ∧ (bs s r m = -1 ∨ s.2 225 (9 * r + (bs s r m).toNat) < s.2 225 (9 * r + m))
    · rw [if_pos g]
      rw [Int.toNat_natCast]
      have key : ∀ c, c < m → s.2 225 (9 * r + c) < s.2 225 (9 * r + m) := by
        intro c hc
        rcases g.2 with g2 | g2
        · have := bs_none g2 c hc
          omega
        · by_cases q : 0 ≤ bs s r m
          · have := (bs_some q).2.1 c hc
            omega
          · have := bs_none (show bs s r m = -1 by omega) c hc
            omega
      refine ⟨g.1, fun c hc => ?_, fun c hc => key c (by omega)⟩
      by_cases e : c = m
      · subst e; omega
      · have := key c (by omega); omega
    · rw [if_neg g] at h ⊢
      obtain ⟨h1, h2, h3⟩ := bs_some h
      refine ⟨h1, fun c hc => ?_, h3⟩
      by_cases e : c = m
      · subst e
        by_cases p : 0 < s.2 225 (9 * r + c)
        · have := fun u => g ⟨p, Or.inr u⟩
          omega
        · omega
      · exact h2 c (by omega)
/-- how many rests are left -/
def ps (s : gx_S) (r m : Nat) : Int := sg (fun c => bi (0 < s.2 225 (9 * r + c))) m
theorem bs_of_ps {s : gx_S} {r m : Nat} (h : 0 < ps s r m) : 0 ≤ bs s r m := by
  have b := bs_r s r m
  by_cases q : bs s r m = -1
  · have : ps s r m = 0 := sg_0 fun c hc => if_neg (by have := bs_none q c hc; omega)
    omega
  · omega
theorem ps_gv1 {s : gx_S} {r m : Nat} (h : 0 ≤ bs s r m) : ps (gv1 s r m) r m = ps s r m - 1 := by
  have b := bs_r s r m
  obtain ⟨h1, h2, h3⟩ := bs_some h
  have g0 : (gv1 s r m).2 225 (9 * r + (bs s r m).toNat) = 0 := by
    simp only [gv1, gw2_2]
    grind
  have g1 : ∀ c, c ≠ (bs s r m).toNat → (gv1 s r m).2 225 (9 * r + c) = s.2 225 (9 * r + c) := by
    intro c hc
    simp only [gv1, gw2_2]
    grind
  have e := sg_upd (f := fun c => bi (0 < s.2 225 (9 * r + c))) (g := fun c => bi (0 < (gv1 s r m).2 225 (9 * r + c))) (i := (bs s r m).toNat) (x := -1) (by
    show bi (0 < (gv1 s r m).2 225 (9 * r + (bs s r m).toNat)) = bi (0 < s.2 225 (9 * r + (bs s r m).toNat)) + -1
    rw [g0]
    simp only [bi]
    rw [if_neg (by omega), if_pos h1]
    rfl) (fun c hc => by
    show bi (0 < (gv1 s r m).2 225 (9 * r + c)) = bi (0 < s.2 225 (9 * r + c))
    rw [g1 c hc]) (n := m) (by omega)
  unfold ps
  omega
theorem gv1_1 (s : gx_S) (r m : Nat) : (gv1 s r m).1 = s.1 := rfl
theorem gv1_225 {s : gx_S} {r m c : Nat} {x : Int} (h : s.2 225 (9 * r + c) ≤ x) (hx : 0 ≤ x) : (gv1 s r m).2 225 (9 * r + c) ≤ x := by
  simp only [gv1, gw2_2]
  split
  · omega
  · rw [if_neg (by omega)]; exact h
theorem gv1_225n {s : gx_S} {r m c : Nat} (h : 0 ≤ s.2 225 (9 * r + c)) : 0 ≤ (gv1 s r m).2 225 (9 * r + c) := by
  simp only [gv1, gw2_2]
  split
  · omega
  · rw [if_neg (by omega)]; exact h
/-- as many as there are rests can be given -/
theorem sp_gvn {r m : Nat} (hr : r < 8) (hm : m ≤ 9) : ∀ (i : Nat) (s : gx_S), s.1 215 18 = m → (i : Int) ≤ ps s r m → (∀ c, c < m → 0 ≤ s.2 225 (9 * r + c) ∧ s.2 225 (9 * r + c) ≤ 1000000000) → ∀ j, j < i → (gvn s r m j).1 215 18 = m ∧ 0 ≤ bs (gvn s r m j) r m ∧ ∀ c, c < m → -1000000000 ≤ (gvn s r m j).2 225 (9 * r + c) ∧ (gvn s r m j).2 225 (9 * r + c) ≤ 1000000000 := by
  intro i
  induction i with
  | zero => intro s _ _ _ j hj; omega
  | succ i ih =>
    intro s h1 h2 h3 j hj
    have b0 := bs_of_ps (s := s) (r := r) (m := m) (by omega)
    cases j with
    | zero => exact ⟨h1, b0, fun c hc => ⟨by have := (h3 c hc).1; show -1000000000 ≤ s.2 225 (9 * r + c); omega, (h3 c hc).2⟩⟩
    | succ j => exact ih (gv1 s r m) h1 (by rw [ps_gv1 b0]; omega) (fun c hc => ⟨gv1_225n (h3 c hc).1, gv1_225 (h3 c hc).2 (by omega)⟩) j (by omega)
/-- a row cut by its parts: those left over are no more than its rests -/
theorem left_ps {p W : Int} {a : Nat → Int} {m : Nat} (hp : 0 ≤ p) (hW : 0 < W) (ha : ∀ c, c < m → 0 ≤ a c) (hs : sg a m = W) : 0 ≤ p - sg (fun c => p * a c / W) m ∧ p - sg (fun c => p * a c / W) m ≤ sg (fun c => bi (0 < p * a c % W)) m := by
  have e1 : sg (fun c => p * a c) m = W * sg (fun c => p * a c / W) m + sg (fun c => p * a c % W) m := by
    rw [← sg_mul W, ← sg_add]
    exact sg_eq fun c _ => (Int.mul_ediv_add_emod (p * a c) W).symm
  rw [sg_mul p a m, hs] at e1
  have e2 : 0 ≤ sg (fun c => p * a c % W) m := sg_nn fun c _ => Int.emod_nonneg _ (by omega)
  have e3 : sg (fun c => p * a c % W) m ≤ sg (fun c => (W - 1) * bi (0 < p * a c % W)) m := sg_le fun c _ => by
    have u := Int.emod_lt_of_pos (p * a c) hW
    have v := Int.emod_nonneg (p * a c) (show W ≠ 0 by omega)
    unfold bi
    by_cases q : 0 < p * a c % W
    · rw [if_pos q]; omega
    · rw [if_neg q]; omega
  rw [sg_mul (W - 1)] at e3
  have e4 : 0 ≤ sg (fun c => bi (0 < p * a c % W)) m := sg_nn fun c _ => (bi_r _).1
  generalize sg (fun c => p * a c / W) m = F at *
  generalize sg (fun c => p * a c % W) m = Z at *
  generalize sg (fun c => bi (0 < p * a c % W)) m = P at *
  have e5 : W * (p - F) = Z := by rw [Int.mul_sub, Int.mul_comm W p]; omega
  constructor
  · by_cases q : 0 ≤ p - F
    · exact q
    · have : W * (p - F) ≤ W * (-1) := Int.mul_le_mul_of_nonneg_left (by omega) (by omega)
      omega
  · by_cases q : p - F ≤ P
    · exact q
    · have h1 : W * (P + 1) ≤ W * (p - F) := Int.mul_le_mul_of_nonneg_left (by omega) (by omega)
      rw [Int.mul_add] at h1
      rw [Int.sub_mul] at e3
      omega
end
section
/-! THE REFERENCE: a row by remainders; THE CLASS's TABLE: sums, rows cut, those left over -/
theorem sp_163 {s : gx_S} {r m : Nat} (hr : r < 8) (hm : m ≤ 9) (h : s.1 215 18 = m) (hp : 0 ≤ s.2 221 r ∧ s.2 221 r ≤ 1000000000) (ha : ∀ c, c < m → 0 ≤ s.1 222 (9 * r + c) ∧ s.1 222 (9 * r + c) ≤ 1000000) (hw : s.1 223 r = sg (fun c => s.1 222 (9 * r + c)) m) : gm_163 r s = some (gvn (ct s r m) r m (if s.1 223 r = 0 then 0 else s.2 221 r - sg (fun c => s.2 221 r * s.1 222 (9 * r + c) / s.1 223 r) m).toNat) := by
  have w0 : 0 ≤ s.1 223 r := by rw [hw]; exact sg_nn fun c hc => (ha c hc).1
  have w1 : s.1 223 r ≤ 10000000 := by
    rw [hw]
    have e := sg_le (f := fun c => s.1 222 (9 * r + c)) (g := fun _ => 1000000) (n := m) fun c hc => (ha c hc).2
    have e2 : ∀ k : Nat, sg (fun _ => 1000000) k = 1000000 * (k : Int) := by
      intro k
      induction k with
      | zero => rfl
      | succ k ih => simp only [sg, ih]; omega
    rw [e2] at e
    omega
  have e := sp_162 hr hm h hp ha ⟨w0, w1⟩
  unfold gm_163
  rw [e]
  simp only [Option.bind_some]
  by_cases q : s.1 223 r = 0
  · rw [if_pos q, if_pos q]
    exact sl_163b hr hm 0 (ct s r m) 100000 (by omega) (fun j hj => by omega) (by omega)
  · rw [if_neg q, if_neg q]
    have e3 : sg (fun c => (ct s r m).2 224 (9 * r + c)) m = sg (fun c => s.2 221 r * s.1 222 (9 * r + c) / s.1 223 r) m := sg_eq fun c hc => by
      simp only [ct]
      grind
    rw [e3]
    obtain ⟨l1, l2⟩ := left_ps hp.1 (show 0 < s.1 223 r by omega) (fun c hc => (ha c hc).1) hw.symm
    have e4 : ps (ct s r m) r m = sg (fun c => bi (0 < s.2 221 r * s.1 222 (9 * r + c) % s.1 223 r)) m := sg_eq fun c hc => by
      have : (ct s r m).2 225 (9 * r + c) = s.2 221 r * s.1 222 (9 * r + c) % s.1 223 r := by
        simp only [ct]
        grind
      rw [this]
    have e5 : ∀ c, c < m → 0 ≤ (ct s r m).2 225 (9 * r + c) ∧ (ct s r m).2 225 (9 * r + c) ≤ 1000000000 := fun c hc => by
      have : (ct s r m).2 225 (9 * r + c) = s.2 221 r * s.1 222 (9 * r + c) % s.1 223 r := by
        simp only [ct]
        grind
      rw [this]
      have u := Int.emod_lt_of_pos (s.2 221 r * s.1 222 (9 * r + c)) (show 0 < s.1 223 r by omega)
      have v := Int.emod_nonneg (s.2 221 r * s.1 222 (9 * r + c)) q
      omega
    generalize hL : s.2 221 r - sg (fun c => s.2 221 r * s.1 222 (9 * r + c) / s.1 223 r) m = L at *
    have e6 : ((L.toNat : Nat) : Int) = L := by omega
    rw [← e6]
    have e7 : ps (ct s r m) r m ≤ 9 := by
      have e := sg_le (f := fun c => bi (0 < (ct s r m).2 225 (9 * r + c))) (g := fun _ => 1) (n := m) fun c hc => (bi_r _).2
      have e2 : ∀ k : Nat, sg (fun _ => 1) k = (k : Int) := by
        intro k
        induction k with
        | zero => rfl
        | succ k ih => simp only [sg, ih]; omega
      rw [e2] at e
      unfold ps
      omega
    have e8 := sl_163b hr hm L.toNat (ct s r m) 100000 (by omega) (sp_gvn hr hm L.toNat (ct s r m) h (by omega) e5) (by omega)
    rw [e8, Int.toNat_natCast]
theorem gx_a_p {k n : Nat} (h : gx_a 0 k n = true) : gx_p k = true ∧ (fx_sh k).2 = n := by
  have h' := h
  simp only [gx_a, Bool.and_eq_true] at h'
  have e := Nat.eq_of_beq_eq_true h'.1.2
  refine ⟨?_, e⟩
  unfold gx_p
  rw [e]
  exact h
theorem sl_72 {s : gx_S} {k r : Nat} (h : gx_a 0 k 72 = true) (hr : r < 8) : ∀ (n j : Nat), j ≤ 9 → 9 - j < n → gm_72_4 n k r (sg (fun c => s.1 k (9 * r + c)) j) j s = some (sg (fun c => s.1 k (9 * r + c)) 9, s) := by
  obtain ⟨h1, h2⟩ := gx_a_p h
  intro n
  induction n with
  | zero => intro j g1 g2; omega
  | succ n ih =>
    intro j g1 g2
    rw [gm_72_4]
    by_cases q : j < 9
    · have e1 := ih (j + 1) (by omega) (by omega)
      rw [show ((j + 1 : Nat) : Int) = (j : Int) + 1 by omega] at e1
      have ei : ((r : Int) * 9 + (j : Int)).toNat = 9 * r + j := by omega
      simp (disch := first | omega | assumption) only [if_pos, if_neg, ei]
      simp only [sg] at e1
      exact e1
    · have e : j = 9 := by omega
      subst e
      simp (disch := first | omega | assumption) only [if_pos]
theorem sp_72 {s : gx_S} {k r : Nat} (h : gx_a 0 k 72 = true) (hr : r < 8) : gm_72 k r s = some (sg (fun c => s.1 k (9 * r + c)) 9, s) := sl_72 h hr 100000 0 (by omega) (by omega)
end
section
/-! THE CLASS's TABLE: a row cut -/
def fl (s : gx_S) (t r : Nat) (W : Int) (j : Nat) : Int := if W ≤ 0 then 0 else s.1 (t + 1) r * s.1 (t + 4) j / W
def rs (s : gx_S) (t r : Nat) (W : Int) (j : Nat) : Int := if W ≤ 0 then 0 else s.1 (t + 1) r * s.1 (t + 4) j % W
def cr (s : gx_S) (t r : Nat) (W : Int) (n : Nat) : gx_S := (fun k j => if k = t + 6 ∧ 9 * r ≤ j ∧ j < 9 * r + n then fl s t r W j else if k = t + 7 ∧ 9 * r ≤ j ∧ j < 9 * r + n then rs s t r W j else if k = t + 8 ∧ 9 * r ≤ j ∧ j < 9 * r + n then fl s t r W j else s.1 k j, s.2)
theorem cr_0 (s : gx_S) (t r : Nat) (W : Int) : cr s t r W 0 = s := by
  refine Prod.ext (funext fun k => funext fun j => ?_) rfl
  simp only [cr]
  grind
theorem cr_s (s : gx_S) (t r : Nat) (W : Int) (n : Nat) : gw1 (gw1 (gw1 (cr s t r W n) (t + 6) (9 * r + n) (fl s t r W (9 * r + n))) (t + 7) (9 * r + n) (rs s t r W (9 * r + n))) (t + 8) (9 * r + n) (fl s t r W (9 * r + n)) = cr s t r W (n + 1) := by
  refine Prod.ext (funext fun k => funext fun j => ?_) rfl
  simp only [cr, gw1]
  by_cases hj : j = 9 * r + n
  · subst hj
    by_cases h6 : k = t + 6 <;> by_cases h7 : k = t + 7 <;> by_cases h8 : k = t + 8 <;> first | omega | (simp (disch := omega) only [if_pos, if_neg])
  · by_cases hq : 9 * r ≤ j ∧ j < 9 * r + n <;> by_cases h6 : k = t + 6 <;> by_cases h7 : k = t + 7 <;> by_cases h8 : k = t + 8 <;> first | omega | (simp (disch := omega) only [if_pos, if_neg])
theorem sl_71 {s : gx_S} {t r : Nat} {W : Int} (ht : fx_oc t 7 = true) (hr : r < 8) (hp : 0 ≤ s.1 (t + 1) r ∧ s.1 (t + 1) r ≤ 100000000) (ha : ∀ c, c < 9 → 0 ≤ s.1 (t + 4) (9 * r + c) ∧ s.1 (t + 4) (9 * r + c) ≤ 1000000) (hW : 0 ≤ W ∧ W ≤ 10000000) : ∀ (n j : Nat), j ≤ 9 → 9 - j < n → gm_71_5 n t r W ((9 * r + j : Nat) : Int) (cr s t r W j) = some (cr s t r W 9) := by
  obtain ⟨p6, l6⟩ := gx_a_p (ga_7_5 ht)
  obtain ⟨p7, l7⟩ := gx_a_p (ga_7_6 ht)
  have l6' : ((fx_sh (t + 6)).2 : Int) = 72 := by rw [l6]; rfl
  have l7' : ((fx_sh (t + 7)).2 : Int) = 72 := by rw [l7]; rfl
  intro n
  induction n with
  | zero => intro j g1 g2; omega
  | succ n ih =>
    intro j g1 g2
    rw [gm_71_5]
    by_cases q : j < 9
    · obtain ⟨a1, a2⟩ := ha j q
      have e1 := ih (j + 1) (by omega) (by omega)
      rw [show ((9 * r + (j + 1) : Nat) : Int) = ((9 * r + j : Nat) : Int) + 1 by omega, ← cr_s] at e1
      have ep : (cr s t r W j).1 (t + 1) r = s.1 (t + 1) r := by
        simp only [cr]
        grind
      have ea : (cr s t r W j).1 (t + 4) (9 * r + j) = s.1 (t + 4) (9 * r + j) := by
        simp only [cr]
        grind
      have hpr : 0 ≤ s.1 (t + 1) r * s.1 (t + 4) (9 * r + j) := Int.mul_nonneg hp.1 a1
      have hpr2 : s.1 (t + 1) r * s.1 (t + 4) (9 * r + j) ≤ 100000000 * 1000000 := Int.mul_le_mul hp.2 a2 a1 (by omega)
      by_cases w : W ≤ 0
      · have f1 : fl s t r W (9 * r + j) = 0 := if_pos w
        have f2 : rs s t r W (9 * r + j) = 0 := if_pos w
        rw [f1, f2] at e1
        simp (disch := first | omega | assumption) only [if_pos, if_neg, ep, ea, gm_71_52, gm_71_72, l6', l7', Int.toNat_natCast, gw1_1]
        first | exact e1 | (simp (disch := first | omega | trivial) only [if_pos, if_neg]; exact e1)
      · have f1 : fl s t r W (9 * r + j) = s.1 (t + 1) r * s.1 (t + 4) (9 * r + j) / W := if_neg w
        have f2 : rs s t r W (9 * r + j) = s.1 (t + 1) r * s.1 (t + 4) (9 * r + j) % W := if_neg w
        rw [f1, f2] at e1
        simp (disch := first | omega | assumption) only [if_pos, if_neg, ep, ea, gm_71_52, gm_71_72, l6', l7', Int.toNat_natCast, gw1_1]
        first | exact e1 | (simp (disch := first | omega | trivial) only [if_pos, if_neg]; exact e1)
    · have e : j = 9 := by omega
      subst e
      simp (disch := first | omega | assumption) only [if_pos]
theorem sp_71 {s : gx_S} {t r : Nat} {W : Int} (ht : fx_oc t 7 = true) (hr : r < 8) (hp : 0 ≤ s.1 (t + 1) r ∧ s.1 (t + 1) r ≤ 100000000) (ha : ∀ c, c < 9 → 0 ≤ s.1 (t + 4) (9 * r + c) ∧ s.1 (t + 4) (9 * r + c) ≤ 1000000) (hW : 0 ≤ W ∧ W ≤ 10000000) : gm_71 t r W s = some (cr s t r W 9) := by
  unfold gm_71
  rw [if_pos ht]
  have e := sl_71 ht hr hp ha hW 100000 0 (by omega) (by omega)
  rw [cr_0] at e
  rw [show (r : Int) * 9 = ((9 * r + 0 : Nat) : Int) by omega]
  exact e
end
section
/-! THE CLASS's TABLE: the greatest rest -/
/-- the best of values: the first of the greatest above 0 -/
def bst (v : Nat → Int) : Nat → Int
  | 0 => -1
  | c + 1 => if 0 < v c ∧ (bst v c = -1 ∨ v (bst v c).toNat < v c) then (c : Int) else bst v c
theorem bst_r (v : Nat → Int) : ∀ c : Nat, -1 ≤ bst v c ∧ bst v c < c
  | 0 => by simp only [bst]; omega
  | c + 1 => by
    have a := bst_r v c
    simp only [bst]
    split <;> omega
theorem bst_eq {v w : Nat → Int} : ∀ {m : Nat}, (∀ c, c < m → v c = w c) → bst v m = bst w m
  | 0, _ => rfl
  | m + 1, h => by
    have a := bst_eq (m := m) fun c hc => h c (by omega)
    have b := bst_r w m
    simp only [bst]
    rw [a, h m (by omega)]
    by_cases q : bst w m = -1
    · simp only [q, true_or]
    · rw [h (bst w m).toNat (by omega)]
theorem bs_bst (s : gx_S) (r : Nat) : ∀ m : Nat, bs s r m = bst (fun c => s.2 225 (9 * r + c)) m
  | 0 => rfl
  | m + 1 => by simp only [bs, bst, bs_bst s r m]
/-- what an entry still offers -/
def vc (s : gx_S) (t r c : Nat) : Int := if s.1 (t + 8) (9 * r + c) = s.1 (t + 6) (9 * r + c) then s.1 (t + 7) (9 * r + c) else 0
set_option maxHeartbeats 4000000 in
theorem sl_75 {s : gx_S} {t r : Nat} (V : Nat → Int) (hV : ∀ c, c < 9 → V c = if s.1 (t + 8) (9 * r + c) = s.1 (t + 6) (9 * r + c) then s.1 (t + 7) (9 * r + c) else 0) (hr : r < 8) (h7 : ∀ c, c < 9 → 0 ≤ s.1 (t + 7) (9 * r + c) ∧ s.1 (t + 7) (9 * r + c) ≤ 1000000000) (h8 : ∀ c, c < 9 → 0 ≤ s.1 (t + 8) (9 * r + c) ∧ s.1 (t + 8) (9 * r + c) ≤ 1000000000) (h6 : ∀ c, c < 9 → 0 ≤ s.1 (t + 6) (9 * r + c) ∧ s.1 (t + 6) (9 * r + c) ≤ 1000000000) : ∀ (n j : Nat) (b x : Int), j ≤ 9 → 9 - j < n → b = (if bst V j = -1 then -1 else 9 * (r : Int) + bst V j) → x = (if bst V j = -1 then 0 else V (bst V j).toNat) → gm_75_10 n t r b x ((9 * r + j : Nat) : Int) s = some (if bst V 9 = -1 then s else gw1 s (t + 8) (9 * r + (bst V 9).toNat) (s.1 (t + 8) (9 * r + (bst V 9).toNat) + 1)) := by
  intro n
  induction n with
  | zero => intro j b x g1 g2; omega
  | succ n ih =>
    intro j b x g1 g2 hb hx
    rw [gm_75_10]
    have b1 := bst_r V j
    by_cases q : j < 9
    · obtain ⟨c1, c2⟩ := h7 j q
      obtain ⟨d1, d2⟩ := h8 j q
      obtain ⟨e1, e2⟩ := h6 j q
      have x1 : 0 ≤ x ∧ x ≤ 1000000000 := by
        rw [hx]
        by_cases u : bst V j = -1
        · rw [if_pos u]; omega
        · rw [if_neg u]
          have v := h7 (bst V j).toNat (by omega)
          rw [hV _ (by omega)]
          split <;> omega
      have E := fun b' x' => ih (j + 1) b' x' (by omega) (by omega)
      rw [show ((9 * r + (j + 1) : Nat) : Int) = ((9 * r + j : Nat) : Int) + 1 by omega] at E
      have eb : bst V (j + 1) = if 0 < V j ∧ (bst V j = -1 ∨ V (bst V j).toNat < V j) then (j : Int) else bst V j := rfl
      simp only [eb] at E
      have ej := hV j q
      have key : (0 < V j ∧ (bst V j = -1 ∨ V (bst V j).toNat < V j)) ↔ x < V j := by
        rw [hx]
        by_cases u : bst V j = -1
        · rw [if_pos u]
          exact ⟨fun w => w.1, fun w => ⟨w, Or.inl u⟩⟩
        · rw [if_neg u]
          rw [if_neg u] at hx
          exact ⟨fun w => w.2.resolve_left u, fun w => ⟨by omega, Or.inr w⟩⟩
      by_cases p : s.1 (t + 7) (9 * r + j) ≤ x
      · have k1 : ¬ x < V j := by
          rw [ej]
          split <;> omega
        simp (disch := first | omega | assumption) only [if_pos, if_neg, gm_75_61, Int.toNat_natCast]
        have nk : ¬ (0 < V j ∧ (bst V j = -1 ∨ V (bst V j).toNat < V j)) := fun u => k1 (key.mp u)
        simp only [if_neg nk] at E
        exact E b x hb hx
      · by_cases g : s.1 (t + 8) (9 * r + j) = s.1 (t + 6) (9 * r + j)
        · have k1 : x < V j := by
            rw [ej, if_pos g]
            omega
          simp (disch := first | omega | assumption) only [if_pos, if_neg, gm_75_61, Int.toNat_natCast]
          have pk := key.mpr k1
          simp only [if_pos pk] at E
          refine E _ _ ?_ ?_
          · rw [if_neg (by omega)]; omega
          · rw [if_neg (by omega), Int.toNat_natCast, ej, if_pos g]
        · have k1 : ¬ x < V j := by
            rw [ej, if_neg g]
            omega
          simp (disch := first | omega | assumption) only [if_pos, if_neg, gm_75_61, Int.toNat_natCast]
          have nk : ¬ (0 < V j ∧ (bst V j = -1 ∨ V (bst V j).toNat < V j)) := fun u => k1 (key.mp u)
          simp only [if_neg nk] at E
          exact E b x hb hx
    · have e : j = 9 := by omega
      subst e
      by_cases u : bst V 9 = -1
      · rw [if_pos u] at hb
        rw [if_pos u]
        simp (disch := first | omega | assumption) only [if_pos, if_neg]
      · rw [if_neg u] at hb
        rw [if_neg u]
        simp (disch := first | omega | assumption) only [if_pos, if_neg]
        rw [show b.toNat = 9 * r + (bst V 9).toNat by omega]
theorem sp_75 {s : gx_S} {t r : Nat} (ht : fx_oc t 7 = true) (hr : r < 8) (h7 : ∀ c, c < 9 → 0 ≤ s.1 (t + 7) (9 * r + c) ∧ s.1 (t + 7) (9 * r + c) ≤ 1000000000) (h8 : ∀ c, c < 9 → 0 ≤ s.1 (t + 8) (9 * r + c) ∧ s.1 (t + 8) (9 * r + c) ≤ 1000000000) (h6 : ∀ c, c < 9 → 0 ≤ s.1 (t + 6) (9 * r + c) ∧ s.1 (t + 6) (9 * r + c) ≤ 1000000000) : gm_75 t r s = some (if bst (vc s t r) 9 = -1 then s else gw1 s (t + 8) (9 * r + (bst (vc s t r) 9).toNat) (s.1 (t + 8) (9 * r + (bst (vc s t r) 9).toNat) + 1)) := by
  unfold gm_75
  rw [if_pos ht, show (r : Int) * 9 = ((9 * r + 0 : Nat) : Int) by omega]
  exact sl_75 (vc s t r) (fun c _ => rfl) hr h7 h8 h6 100000 0 (-1) 0 (by omega) (by omega) rfl rfl
end
section
/-! THE CLASS's TABLE: those left over, as the reference gives them -/
def gc1 (s : gx_S) (t r : Nat) : gx_S := if bst (vc s t r) 9 = -1 then s else gw1 s (t + 8) (9 * r + (bst (vc s t r) 9).toNat) (s.1 (t + 8) (9 * r + (bst (vc s t r) 9).toNat) + 1)
def gcn (s : gx_S) (t r : Nat) : Nat → gx_S
  | 0 => s
  | n + 1 => gcn (gc1 s t r) t r n
/-- ranges of a row -/
def rg (s : gx_S) (t r : Nat) (B : Int) : Prop := ∀ c, c < 9 → (0 ≤ s.1 (t + 7) (9 * r + c) ∧ s.1 (t + 7) (9 * r + c) ≤ 1000000000) ∧ (0 ≤ s.1 (t + 6) (9 * r + c) ∧ s.1 (t + 6) (9 * r + c) ≤ 1000000000) ∧ (0 ≤ s.1 (t + 8) (9 * r + c) ∧ s.1 (t + 8) (9 * r + c) ≤ B)
theorem gc1_o (s : gx_S) (t r k j : Nat) (h : k ≠ t + 8) : (gc1 s t r).1 k j = s.1 k j := by
  unfold gc1
  split
  · rfl
  · rw [gw1_1, if_neg (fun q => h q.1)]
theorem gc1_2 (s : gx_S) (t r : Nat) : (gc1 s t r).2 = s.2 := by
  unfold gc1
  split <;> rfl
theorem gc1_8 (s : gx_S) (t r j : Nat) : s.1 (t + 8) j ≤ (gc1 s t r).1 (t + 8) j ∧ (gc1 s t r).1 (t + 8) j ≤ s.1 (t + 8) j + 1 := by
  unfold gc1
  split
  · omega
  · rw [gw1_1]
    split
    · rename_i h; rw [h.2]; omega
    · omega
theorem rg_1 {s : gx_S} {t r : Nat} {B : Int} (h : rg s t r B) : rg (gc1 s t r) t r (B + 1) := by
  intro c hc
  obtain ⟨h1, h2, h3⟩ := h c hc
  have a := gc1_8 s t r (9 * r + c)
  rw [gc1_o s t r (t + 7) _ (by omega), gc1_o s t r (t + 6) _ (by omega)]
  exact ⟨h1, h2, by omega, by omega⟩
theorem sl_74 {t r : Nat} (k : Nat → Int → gx_S → Option gx_S) (ht : fx_oc t 7 = true) (hr : r < 8) : ∀ (i n j : Nat) (s : gx_S) (B : Int), i < n → i + j ≤ 9 → rg s t r B → B + i ≤ 1000000000 → gm_74_16 k n t r ((i + j : Nat) : Int) j s = k t ((r : Int) + 1) (gcn s t r i) := by
  intro i
  induction i with
  | zero =>
    intro n j s B h1 h2 h3 h4
    obtain ⟨n', rfl⟩ : ∃ n', n = n' + 1 := ⟨n - 1, by omega⟩
    rw [gm_74_16]
    by_cases q : j = 9
    · subst q
      simp (disch := first | omega | assumption) only [if_pos, gm_74_38]
      rfl
    · simp (disch := first | omega | assumption) only [if_pos, if_neg, gm_74_38]
      rfl
  | succ i ih =>
    intro n j s B h1 h2 h3 h4
    obtain ⟨n', rfl⟩ : ∃ n', n = n' + 1 := ⟨n - 1, by omega⟩
    rw [gm_74_16]
    have e : gm_75 t r s = some (gc1 s t r) := sp_75 ht hr (fun c hc => (h3 c hc).1) (fun c hc => ⟨(h3 c hc).2.2.1, by have := (h3 c hc).2.2.2; omega⟩) (fun c hc => (h3 c hc).2.1)
    simp (disch := first | omega | assumption) only [if_pos, if_neg, e, Option.bind_some]
    have e1 := ih n' (j + 1) (gc1 s t r) (B + 1) (by omega) (by omega) (rg_1 h3) (by omega)
    rw [show i + (j + 1) = i + 1 + j by omega, show ((j + 1 : Nat) : Int) = (j : Int) + 1 by omega] at e1
    exact e1
/-- a row of the class's table beside one of the reference's -/
def rw_ (s u : gx_S) (t r m : Nat) : Prop := (∀ c, c < m → s.1 (t + 8) (9 * r + c) = u.2 224 (9 * r + c)) ∧ (∀ c, c < m → vc s t r c = u.2 225 (9 * r + c)) ∧ ∀ c, m ≤ c → c < 9 → vc s t r c = 0
theorem bst_0 {v : Nat → Int} {m : Nat} : ∀ {n : Nat}, (∀ c, m ≤ c → c < n → v c ≤ 0) → m ≤ n → bst v n = bst v m
  | 0, _, h => by rw [show m = 0 by omega]
  | n + 1, h, hm => by
    by_cases e : m = n + 1
    · rw [e]
    · have a := bst_0 (v := v) (m := m) (n := n) (fun c h1 h2 => h c h1 (by omega)) (by omega)
      have b := h n (by omega) (by omega)
      have eb : bst v (n + 1) = if 0 < v n ∧ (bst v n = -1 ∨ v (bst v n).toNat < v n) then (n : Int) else bst v n := rfl
      rw [eb, if_neg (fun q => by have := q.1; omega), a]
theorem bst_pos {v : Nat → Int} : ∀ {m : Nat}, 0 ≤ bst v m → 0 < v (bst v m).toNat
  | 0, h => absurd h (by simp only [bst]; omega)
  | m + 1, h => by
    have eb : bst v (m + 1) = if 0 < v m ∧ (bst v m = -1 ∨ v (bst v m).toNat < v m) then (m : Int) else bst v m := rfl
    rw [eb] at h ⊢
    by_cases g : 0 < v m ∧ (bst v m = -1 ∨ v (bst v m).toNat < v m)
    · rw [if_pos g, Int.toNat_natCast]; exact g.1
    · rw [if_neg g] at h ⊢
      exact bst_pos h
theorem rw_1 {s u : gx_S} {t r m : Nat} (hm : m ≤ 9) (h : rw_ s u t r m) (hb : 0 ≤ bs u r m) : rw_ (gc1 s t r) (gv1 u r m) t r m := by
  obtain ⟨h1, h2, h3⟩ := h
  have e0 : bst (vc s t r) 9 = bs u r m := by
    rw [bst_0 (m := m) (fun c c1 c2 => by rw [h3 c c1 c2]; omega) hm, bs_bst]
    exact bst_eq h2
  have br := bs_r u r m
  obtain ⟨b, hbb⟩ : ∃ b : Nat, bs u r m = b := ⟨(bs u r m).toNat, by omega⟩
  have hbm : b < m := by omega
  have ps0 : 0 < vc s t r b := by
    have := bst_pos (v := vc s t r) (m := 9) (by rw [e0]; exact hb)
    rw [e0, hbb, Int.toNat_natCast] at this
    exact this
  have hG : s.1 (t + 8) (9 * r + b) = s.1 (t + 6) (9 * r + b) := by
    by_cases q : s.1 (t + 8) (9 * r + b) = s.1 (t + 6) (9 * r + b)
    · exact q
    · unfold vc at ps0
      rw [if_neg q] at ps0
      omega
  have g1 : gc1 s t r = gw1 s (t + 8) (9 * r + b) (s.1 (t + 8) (9 * r + b) + 1) := by
    unfold gc1
    rw [e0, hbb, if_neg (by omega), Int.toNat_natCast]
  have v1 : gv1 u r m = gw2 (gw2 u 224 (9 * r + b) (u.2 224 (9 * r + b) + 1)) 225 (9 * r + b) 0 := by
    unfold gv1
    rw [hbb, Int.toNat_natCast]
  have a8 : ∀ c, c ≠ b → (gc1 s t r).1 (t + 8) (9 * r + c) = s.1 (t + 8) (9 * r + c) := by
    intro c hc
    rw [g1, gw1_1]
    exact if_neg (by omega)
  have a8b : (gc1 s t r).1 (t + 8) (9 * r + b) = s.1 (t + 8) (9 * r + b) + 1 := by
    rw [g1, gw1_1]
    exact if_pos ⟨rfl, rfl⟩
  have vc1 : ∀ c, c ≠ b → vc (gc1 s t r) t r c = vc s t r c := by
    intro c hc
    unfold vc
    rw [gc1_o s t r (t + 7) _ (by omega), gc1_o s t r (t + 6) _ (by omega), a8 c hc]
  have vcb : vc (gc1 s t r) t r b = 0 := by
    unfold vc
    rw [gc1_o s t r (t + 7) _ (by omega), gc1_o s t r (t + 6) _ (by omega), a8b]
    exact if_neg (by omega)
  refine ⟨fun c hc => ?_, fun c hc => ?_, fun c c1 c2 => ?_⟩
  · by_cases e : c = b
    · subst e
      rw [a8b, v1, gw2_2, gw2_2, h1 c hc]
      exact ((if_neg (by omega)).trans (if_pos ⟨rfl, rfl⟩)).symm
    · rw [a8 c e, v1, gw2_2, gw2_2, h1 c hc]
      exact ((if_neg (by omega)).trans (if_neg (by omega))).symm
  · by_cases e : c = b
    · subst e
      rw [vcb, v1, gw2_2]
      exact (if_pos ⟨rfl, rfl⟩).symm
    · rw [vc1 c e, h2 c hc, v1, gw2_2, gw2_2]
      exact ((if_neg (by omega)).trans (if_neg (by omega))).symm
  · rw [vc1 c (by omega), h3 c c1 c2]
theorem rw_n {t r m : Nat} (hm : m ≤ 9) : ∀ (i : Nat) (s u : gx_S), rw_ s u t r m → (i : Int) ≤ ps u r m → rw_ (gcn s t r i) (gvn u r m i) t r m := by
  intro i
  induction i with
  | zero => intro s u h _; exact h
  | succ i ih =>
    intro s u h hp
    have hb := bs_of_ps (s := u) (r := r) (m := m) (by omega)
    exact ih (gc1 s t r) (gv1 u r m) (rw_1 hm h hb) (by rw [ps_gv1 hb]; omega)
end
section
/-! CUTS of tables: what goes over the edge of a set of rows and columns -/
theorem sg_swap (f : Nat → Nat → Int) (n : Nat) : ∀ m : Nat, sg (fun r => sg (fun c => f r c) n) m = sg (fun c => sg (fun r => f r c) m) n
  | 0 => (sg_0 fun _ _ => rfl).symm
  | m + 1 => by
    have a := sg_swap f n m
    have e : (fun c => sg (fun r => f r c) (m + 1)) = fun c => sg (fun r => f r c) m + f m c := rfl
    rw [e, sg_add, ← a]
    rfl
theorem sg_neg (f : Nat → Int) : ∀ n : Nat, sg (fun c => - f c) n = - sg f n
  | 0 => rfl
  | n + 1 => by simp only [sg, sg_neg f n]; omega
/-- over the edge: out of the rows' set's outside into the columns' set, less the other way -/
theorem cut_id (y : Nat → Nat → Int) (R C : Nat → Bool) (m n : Nat) : sg (fun r => sg (fun c => if R r = false ∧ C c = true then y r c else 0) n) m - sg (fun r => sg (fun c => if R r = true ∧ C c = false then y r c else 0) n) m = sg (fun c => if C c = true then sg (fun r => y r c) m else 0) n - sg (fun r => if R r = true then sg (fun c => y r c) n else 0) m := by
  have e1 : sg (fun c => if C c = true then sg (fun r => y r c) m else 0) n = sg (fun r => sg (fun c => if C c = true then y r c else 0) n) m := by
    rw [sg_swap]
    refine sg_eq fun c _ => ?_
    by_cases q : C c = true
    · rw [if_pos q]
      exact sg_eq fun r _ => (if_pos q).symm
    · rw [if_neg q]
      exact (sg_0 fun r _ => if_neg q).symm
  have e2 : sg (fun r => if R r = true then sg (fun c => y r c) n else 0) m = sg (fun r => sg (fun c => if R r = true then y r c else 0) n) m := by
    refine sg_eq fun r _ => ?_
    by_cases q : R r = true
    · rw [if_pos q]
      exact sg_eq fun c _ => (if_pos q).symm
    · rw [if_neg q]
      exact (sg_0 fun c _ => if_neg q).symm
  have key : sg (fun r => sg (fun c => if R r = false ∧ C c = true then y r c else 0) n) m + sg (fun r => sg (fun c => if R r = true then y r c else 0) n) m = sg (fun r => sg (fun c => if R r = true ∧ C c = false then y r c else 0) n) m + sg (fun r => sg (fun c => if C c = true then y r c else 0) n) m := by
    rw [← sg_add, ← sg_add]
    refine sg_eq fun r _ => ?_
    rw [← sg_add, ← sg_add]
    refine sg_eq fun c _ => ?_
    cases R r <;> cases C c <;> simp
  rw [e1, e2]
  omega
theorem sg_pos {f : Nat → Int} {n i : Nat} (h : ∀ k, k < n → 0 ≤ f k) (hi : i < n) (hp : 0 < f i) : 0 < sg f n := by
  have := sg_at h i hi
  omega
/-- a table that differs by whole rows and by columns between bounds can't go one way alone over an edge that lets nothing back: hub tells whether the columns' own bounds lie within -/
theorem cut_hub {y : Nat → Nat → Int} {k : Nat → Int} {R C : Nat → Bool} {hub : Bool} {m n : Nat} (hr : ∀ r, r < m → sg (fun c => y r c) n = 0) (hk : ∀ c, c < n → sg (fun r => y r c) m = k c) (h1 : ∀ r c, r < m → c < n → R r = true → C c = false → y r c ≤ 0) (h2 : ∀ r c, r < m → c < n → R r = false → C c = true → 0 ≤ y r c) (h3 : hub = false → ∀ c, c < n → C c = true → k c ≤ 0) (h4 : hub = true → ∀ c, c < n → C c = false → 0 ≤ k c) : ∀ r c, r < m → c < n → R r = false → C c = true → y r c = 0 := by
  intro r0 c0 hr0 hc0 q1 q2
  have id := cut_id y R C m n
  have z : sg (fun r => if R r = true then sg (fun c => y r c) n else 0) m = 0 := sg_0 fun r hr' => by
    by_cases q : R r = true
    · rw [if_pos q]; exact hr r hr'
    · rw [if_neg q]
  have kk : sg (fun c => if C c = true then sg (fun r => y r c) m else 0) n = sg (fun c => if C c = true then k c else 0) n := sg_eq fun c hc => by rw [hk c hc]
  have tot : sg k n = 0 := by
    have a : sg k n = sg (fun c => sg (fun r => y r c) m) n := sg_eq fun c hc => (hk c hc).symm
    rw [a, ← sg_swap]
    exact sg_0 fun r hr' => hr r hr'
  have kle : sg (fun c => if C c = true then k c else 0) n ≤ 0 := by
    cases hub with
    | false =>
      have a := sg_le (f := fun c => if C c = true then k c else 0) (g := fun _ => 0) (n := n) fun c hc => by
        by_cases q : C c = true
        · rw [if_pos q]; exact h3 rfl c hc q
        · rw [if_neg q]; exact Int.le_refl 0
      rw [sg_0 (f := fun _ => 0) fun _ _ => rfl] at a
      exact a
    | true =>
      have a := sg_le (f := fun c => if C c = true then k c else 0) (g := k) (n := n) fun c hc => by
        by_cases q : C c = true
        · rw [if_pos q]; exact Int.le_refl _
        · rw [if_neg q]
          exact h4 rfl c hc (by cases e : C c with
            | true => exact absurd e q
            | false => rfl)
      omega
  have n2 : sg (fun r => sg (fun c => if R r = true ∧ C c = false then y r c else 0) n) m ≤ 0 := by
    have a := sg_le (f := fun r => sg (fun c => if R r = true ∧ C c = false then y r c else 0) n) (g := fun _ => 0) (n := m) fun r hr' => by
      have b := sg_le (f := fun c => if R r = true ∧ C c = false then y r c else 0) (g := fun _ => 0) (n := n) fun c hc => by
        by_cases q : R r = true ∧ C c = false
        · rw [if_pos q]; exact h1 r c hr' hc q.1 q.2
        · rw [if_neg q]; exact Int.le_refl 0
      rw [sg_0 (f := fun _ => 0) fun _ _ => rfl] at b
      exact b
    rw [sg_0 (f := fun _ => 0) fun _ _ => rfl] at a
    exact a
  have pos : ∀ r, r < m → 0 ≤ sg (fun c => if R r = false ∧ C c = true then y r c else 0) n := fun r hr' => sg_nn fun c hc => by
    by_cases q : R r = false ∧ C c = true
    · rw [if_pos q]; exact h2 r c hr' hc q.1 q.2
    · rw [if_neg q]; exact Int.le_refl 0
  have g0 := h2 r0 c0 hr0 hc0 q1 q2
  by_cases e : y r0 c0 = 0
  · exact e
  · have p1 : 0 < sg (fun c => if R r0 = false ∧ C c = true then y r0 c else 0) n := sg_pos (i := c0) (fun c hc => by
      by_cases q : R r0 = false ∧ C c = true
      · rw [if_pos q]; exact h2 r0 c hr0 hc q.1 q.2
      · rw [if_neg q]; exact Int.le_refl 0) hc0 (by rw [if_pos ⟨q1, q2⟩]; omega)
    have p2 := sg_pos (f := fun r => sg (fun c => if R r = false ∧ C c = true then y r c else 0) n) (i := r0) pos hr0 p1
    omega
/-- nothing below 0 comes in, nothing above 0 goes out: the columns' set has at least what its rows have -/
theorem cut_le {y : Nat → Nat → Int} {R C : Nat → Bool} {m n : Nat} (h1 : ∀ r c, r < m → c < n → R r = true → C c = false → y r c ≤ 0) (h2 : ∀ r c, r < m → c < n → R r = false → C c = true → 0 ≤ y r c) : sg (fun r => if R r = true then sg (fun c => y r c) n else 0) m ≤ sg (fun c => if C c = true then sg (fun r => y r c) m else 0) n := by
  have id := cut_id y R C m n
  have n2 : sg (fun r => sg (fun c => if R r = true ∧ C c = false then y r c else 0) n) m ≤ 0 := by
    have a := sg_le (f := fun r => sg (fun c => if R r = true ∧ C c = false then y r c else 0) n) (g := fun _ => 0) (n := m) fun r hr' => by
      have b := sg_le (f := fun c => if R r = true ∧ C c = false then y r c else 0) (g := fun _ => 0) (n := n) fun c hc => by
        by_cases q : R r = true ∧ C c = false
        · rw [if_pos q]; exact h1 r c hr' hc q.1 q.2
        · rw [if_neg q]; exact Int.le_refl 0
      rw [sg_0 (f := fun _ => 0) fun _ _ => rfl] at b
      exact b
    rw [sg_0 (f := fun _ => 0) fun _ _ => rfl] at a
    exact a
  have pos : 0 ≤ sg (fun r => sg (fun c => if R r = false ∧ C c = true then y r c else 0) n) m := sg_nn fun r hr' => sg_nn fun c hc => by
    by_cases q : R r = false ∧ C c = true
    · rw [if_pos q]; exact h2 r c hr' hc q.1 q.2
    · rw [if_neg q]; exact Int.le_refl 0
  omega
end
section
/-! THE CLASS's SEARCH for a way: nodes 0 .. 7 rows, 8 .. 16 columns, 17 the hub; 12 from, 13 queue, (6, 7) queued; 7 free, 8 more, 9 least, 10 most, 11 come -/
def arc (s : gx_S) (u v : Nat) : Prop := (u < 8 ∧ 8 ≤ v ∧ v < 17 ∧ s.1 7 (9 * u + (v - 8)) = 1 ∧ s.1 8 (9 * u + (v - 8)) = 0) ∨ (8 ≤ u ∧ u < 17 ∧ v < 8 ∧ s.1 7 (9 * v + (u - 8)) = 1 ∧ s.1 8 (9 * v + (u - 8)) = 1) ∨ (8 ≤ u ∧ u < 17 ∧ v = 17 ∧ s.1 11 (u - 8) < s.1 10 (u - 8)) ∨ (u = 17 ∧ 8 ≤ v ∧ v < 17 ∧ s.1 9 (v - 8) < s.1 11 (v - 8))
/-- what has been found: q nodes -/
def BF (s : gx_S) (st q : Nat) : Prop := s.1 6 7 = q ∧ (q : Int) = sg (fun v => bi (s.1 12 v ≠ -1)) 18 ∧ (∀ v, v < 18 → -1 ≤ s.1 12 v ∧ s.1 12 v < 18) ∧ (∀ i, i < q → ∃ v : Nat, v < 18 ∧ s.1 13 i = (v : Int) ∧ s.1 12 v ≠ -1) ∧ (∀ v : Nat, v < 18 → s.1 12 v ≠ -1 → ∃ i : Nat, i < q ∧ s.1 13 i = (v : Int)) ∧ (∀ i j, i < q → j < q → s.1 13 i = s.1 13 j → i = j) ∧ 0 < q ∧ s.1 13 0 = st ∧ (∀ i, 0 < i → i < q → ∃ j u v : Nat, j < i ∧ u < 18 ∧ v < 18 ∧ s.1 13 j = u ∧ s.1 13 i = v ∧ s.1 12 v = u ∧ arc s u v)
/-- found so far stays; all else is as it was -/
def ext (s t : gx_S) : Prop := t.2 = s.2 ∧ (∀ k j, k ≠ 12 → k ≠ 13 → ¬ (k = 6 ∧ j = 7) → t.1 k j = s.1 k j) ∧ (∀ v, v < 18 → s.1 12 v ≠ -1 → t.1 12 v = s.1 12 v) ∧ ∀ i : Nat, (i : Int) < s.1 6 7 → t.1 13 i = s.1 13 i
theorem ext_rf (s : gx_S) : ext s s := ⟨rfl, fun _ _ _ _ _ => rfl, fun _ _ _ => rfl, fun _ _ => rfl⟩
theorem ext_tr {s t u : gx_S} (a : ext s t) (b : ext t u) (h : s.1 6 7 ≤ t.1 6 7) : ext s u := ⟨b.1.trans a.1, fun k j h1 h2 h3 => (b.2.1 k j h1 h2 h3).trans (a.2.1 k j h1 h2 h3), fun v hv h1 => (b.2.2.1 v hv (by rw [a.2.2.1 v hv h1]; exact h1)).trans (a.2.2.1 v hv h1), fun i hi => (b.2.2.2 i (by omega)).trans (a.2.2.2 i hi)⟩
theorem arc_ext {s t : gx_S} (h : ext s t) (u v : Nat) : arc t u v ↔ arc s u v := by
  unfold arc
  rw [h.2.1 7 _ (by omega) (by omega) (by omega), h.2.1 8 _ (by omega) (by omega) (by omega), h.2.1 7 _ (by omega) (by omega) (by omega), h.2.1 8 _ (by omega) (by omega) (by omega), h.2.1 11 _ (by omega) (by omega) (by omega), h.2.1 10 _ (by omega) (by omega) (by omega), h.2.1 9 _ (by omega) (by omega) (by omega), h.2.1 11 _ (by omega) (by omega) (by omega)]
/-- reach(v, by u): u found, an arc from u to v -/
theorem sp_47 {s : gx_S} {st q u v j : Nat} (B : BF s st q) (hv : v < 18) (hu : u < 18) (hj : j < q) (hq : s.1 13 j = u) (ha : arc s u v) : ∃ (t : gx_S) (q' : Nat), gm_47 v u s = some t ∧ BF t st q' ∧ q ≤ q' ∧ ext s t ∧ t.1 12 v ≠ -1 := by
  obtain ⟨b1, b2, b3, b4, b5, b6, b7, b8, b9⟩ := id B
  have cle : ∀ f : Nat → Int, (∀ k, k < 18 → f k ≤ 1) → sg f 18 ≤ 18 := by
    intro f hf
    have a := sg_le (f := f) (g := fun _ => 1) (n := 18) hf
    exact a
  have q18 : (q : Int) ≤ 18 := by rw [b2]; exact cle _ fun k _ => (bi_r _).2
  obtain ⟨f1, f2⟩ := b3 v hv
  unfold gm_47
  by_cases g : s.1 12 v = -1
  · have b0 : bi (s.1 12 v ≠ -1) = 0 := if_neg fun h => h g
    have bu : bi ((u : Int) ≠ -1) = 1 := if_pos (by omega)
    have q17 : (q : Int) < 18 := by
      rw [b2]
      have a := sg_upd (f := fun v => bi (s.1 12 v ≠ -1)) (g := fun w => if w = v then 1 else bi (s.1 12 w ≠ -1)) (i := v) (x := 1) (by
        show (if v = v then 1 else bi (s.1 12 v ≠ -1)) = bi (s.1 12 v ≠ -1) + 1
        rw [if_pos rfl, b0]
        rfl) (fun c hc => if_neg hc) (n := 18) hv
      have c := cle (fun w => if w = v then 1 else bi (s.1 12 w ≠ -1)) fun k _ => by
        have := (bi_r (s.1 12 k ≠ -1)).2
        show (if k = v then 1 else bi (s.1 12 k ≠ -1)) ≤ 1
        split <;> omega
      omega
    have x12 : (gw1 s 12 v u).1 6 7 = q := by rw [gw1_1, if_neg (by omega), b1]
    have x13 : (gw1 (gw1 s 12 v u) 13 q v).1 6 7 = q := by rw [gw1_1, if_neg (by omega), x12]
    refine ⟨gw1 (gw1 (gw1 s 12 v u) 13 q v) 6 7 ((q : Int) + 1), q + 1, ?_, ?_, by omega, ?_, ?_⟩
    · simp (disch := first | omega | assumption) only [Int.toNat_natCast, if_pos, if_neg, b1, x12, x13]
    · have t12 : ∀ w, (gw1 (gw1 (gw1 s 12 v u) 13 q v) 6 7 ((q : Int) + 1)).1 12 w = if w = v then (u : Int) else s.1 12 w := by
        intro w
        rw [gw1_1, if_neg (by omega), gw1_1, if_neg (by omega), gw1_1]
        by_cases e : w = v
        · rw [if_pos ⟨rfl, e⟩, if_pos e]
        · rw [if_neg (fun h => e h.2), if_neg e]
      have t13 : ∀ w, (gw1 (gw1 (gw1 s 12 v u) 13 q v) 6 7 ((q : Int) + 1)).1 13 w = if w = q then (v : Int) else s.1 13 w := by
        intro w
        rw [gw1_1, if_neg (by omega), gw1_1]
        by_cases e : w = q
        · rw [if_pos ⟨rfl, e⟩, if_pos e]
        · rw [if_neg (fun h => e h.2), if_neg e, gw1_1, if_neg (by omega)]
      have ex : ext s (gw1 (gw1 (gw1 s 12 v u) 13 q v) 6 7 ((q : Int) + 1)) := by
        refine ⟨rfl, fun k j h1 h2 h3 => ?_, fun w hw h1 => ?_, fun i hi => ?_⟩
        · rw [gw1_1, if_neg h3, gw1_1, if_neg (fun h => h2 h.1), gw1_1, if_neg (fun h => h1 h.1)]
        · rw [t12, if_neg (fun h => h1 (by rw [h]; exact g))]
        · rw [t13, if_neg (by omega)]
      refine ⟨?_, ?_, fun w hw => ?_, fun i hi => ?_, fun w hw h1 => ?_, fun i k hi hk h => ?_, by omega, ?_, fun i hi hi2 => ?_⟩
      · rw [gw1_1, if_pos ⟨rfl, rfl⟩]
        omega
      · have a := sg_upd (f := fun v => bi (s.1 12 v ≠ -1)) (g := fun w => bi ((gw1 (gw1 (gw1 s 12 v u) 13 q v) 6 7 ((q : Int) + 1)).1 12 w ≠ -1)) (i := v) (x := 1) (by
          show bi ((gw1 (gw1 (gw1 s 12 v u) 13 q v) 6 7 ((q : Int) + 1)).1 12 v ≠ -1) = bi (s.1 12 v ≠ -1) + 1
          rw [t12, if_pos rfl, b0, bu]
          rfl) (fun c hc => by
          show bi ((gw1 (gw1 (gw1 s 12 v u) 13 q v) 6 7 ((q : Int) + 1)).1 12 c ≠ -1) = bi (s.1 12 c ≠ -1)
          rw [t12, if_neg hc]) (n := 18) hv
        omega
      · rw [t12]
        split
        · omega
        · exact b3 w hw
      · by_cases e : i = q
        · refine ⟨v, hv, by rw [t13, if_pos e], by rw [t12, if_pos rfl]; omega⟩
        · obtain ⟨w, w1, w2, w3⟩ := b4 i (by omega)
          refine ⟨w, w1, by rw [t13, if_neg e]; exact w2, ?_⟩
          rw [t12]
          split
          · omega
          · exact w3
      · by_cases e : w = v
        · exact ⟨q, by omega, by rw [t13, if_pos rfl, e]⟩
        · rw [t12, if_neg e] at h1
          obtain ⟨i, i1, i2⟩ := b5 w hw h1
          exact ⟨i, by omega, by rw [t13, if_neg (by omega)]; exact i2⟩
      · rw [t13, t13] at h
        by_cases e1 : i = q
        · by_cases e2 : k = q
          · omega
          · rw [if_pos e1, if_neg e2] at h
            obtain ⟨w, w1, w2, w3⟩ := b4 k (by omega)
            rw [← h] at w2
            have : v = w := by omega
            subst this
            exact absurd g w3
        · by_cases e2 : k = q
          · rw [if_neg e1, if_pos e2] at h
            obtain ⟨w, w1, w2, w3⟩ := b4 i (by omega)
            rw [h] at w2
            have : v = w := by omega
            subst this
            exact absurd g w3
          · rw [if_neg e1, if_neg e2] at h
            exact b6 i k (by omega) (by omega) h
      · rw [t13, if_neg (by omega)]
        exact b8
      · by_cases e : i = q
        · refine ⟨j, u, v, by omega, hu, hv, by rw [t13, if_neg (by omega)]; exact hq, by rw [t13, if_pos e], by rw [t12, if_pos rfl], (arc_ext ex u v).mpr ha⟩
        · obtain ⟨j', u', v', w1, w2, w3, w4, w5, w6, w7⟩ := b9 i hi (by omega)
          refine ⟨j', u', v', w1, w2, w3, by rw [t13, if_neg (by omega)]; exact w4, by rw [t13, if_neg e]; exact w5, ?_, (arc_ext ex u' v').mpr w7⟩
          rw [t12, if_neg (fun h => ?_)]
          · exact w6
          · rw [h, g] at w6
            omega
    · refine ⟨rfl, fun k j h1 h2 h3 => ?_, fun w hw h1 => ?_, fun i hi => ?_⟩
      · rw [gw1_1, if_neg h3, gw1_1, if_neg (fun h => h2 h.1), gw1_1, if_neg (fun h => h1 h.1)]
      · rw [gw1_1, if_neg (by omega), gw1_1, if_neg (by omega), gw1_1, if_neg (fun h => h1 (by rw [h.2]; exact g))]
      · rw [gw1_1, if_neg (by omega), gw1_1, if_neg (by omega), gw1_1, if_neg (by omega)]
    · rw [gw1_1, if_neg (by omega), gw1_1, if_neg (by omega), gw1_1, if_pos ⟨rfl, rfl⟩]
      omega
  · refine ⟨s, q, ?_, B, Nat.le_refl q, ext_rf s, g⟩
    simp (disch := first | omega | assumption) only [Int.toNat_natCast, if_pos, if_neg]
end
section
/-! THE CLASS's SEARCH: what is spread from a row, a column, the hub -/
def i32 (x : Int) : Prop := -2147483648 ≤ x ∧ x ≤ 2147483647
def RG (s : gx_S) : Prop := (∀ j, j < 72 → (s.1 7 j = 0 ∨ s.1 7 j = 1) ∧ (s.1 8 j = 0 ∨ s.1 8 j = 1)) ∧ ∀ c, c < 9 → i32 (s.1 9 c) ∧ i32 (s.1 10 c) ∧ i32 (s.1 11 c)
theorem RG_ext {s t : gx_S} (h : ext s t) (R : RG s) : RG t := by
  refine ⟨fun j hj => ?_, fun c hc => ?_⟩
  · rw [h.2.1 7 _ (by omega) (by omega) (by omega), h.2.1 8 _ (by omega) (by omega) (by omega)]
    exact R.1 j hj
  · rw [h.2.1 9 _ (by omega) (by omega) (by omega), h.2.1 10 _ (by omega) (by omega) (by omega), h.2.1 11 _ (by omega) (by omega) (by omega)]
    exact R.2 c hc
theorem sl_48 {st u : Nat} (hu : u < 8) : ∀ (n c : Nat) (s : gx_S) (q j : Nat), BF s st q → RG s → j < q → s.1 13 j = u → 9 < n + c → c ≤ 9 → (∀ v, arc s u v → v < 8 + c → s.1 12 v ≠ -1) → ∃ (t : gx_S) (q' : Nat), gm_48_2 n u c s = some t ∧ BF t st q' ∧ q ≤ q' ∧ ext s t ∧ ∀ v, arc s u v → t.1 12 v ≠ -1 := by
  intro n
  induction n with
  | zero => intro c s q j B R hj hq hn hc hd; omega
  | succ n ih =>
    intro c s q j B R hj hq hn hc hd
    by_cases e : c = 9
    · refine ⟨s, q, ?_, B, Nat.le_refl _, ext_rf s, fun v hv => hd v hv (by unfold arc at hv; omega)⟩
      rw [gm_48_2]
      simp (disch := omega) only [if_pos]
    · have i1 : ((u : Int) * 9 + c).toNat = 9 * u + c := by omega
      have i2 : (8 : Int) + c = ((8 + c : Nat) : Int) := by omega
      have i3 : ((c : Int) + 1) = ((c + 1 : Nat) : Int) := by omega
      have i4 : 8 + c - 8 = c := by omega
      obtain ⟨r1, r2⟩ := R.1 (9 * u + c) (by omega)
      have ae : arc s u (8 + c) ↔ s.1 7 (9 * u + c) = 1 ∧ s.1 8 (9 * u + c) = 0 := by
        unfold arc
        rw [i4]
        constructor
        · rintro (⟨_, _, _, h1, h2⟩ | h | h | h)
          · exact ⟨h1, h2⟩
          · omega
          · omega
          · omega
        · intro h
          exact .inl ⟨hu, by omega, by omega, h.1, h.2⟩
      by_cases a : arc s u (8 + c)
      · obtain ⟨a7, a8⟩ := ae.mp a
        obtain ⟨t, q', t1, t2, t3, t4, t5⟩ := sp_47 (v := 8 + c) B (by omega) (by omega) hj hq a
        obtain ⟨w, q2, w1, w2, w3, w4, w5⟩ := ih (c + 1) t q' j t2 (RG_ext t4 R) (by omega) ((t4.2.2.2 j (by rw [B.1]; omega)).trans hq) (by omega) (by omega) (fun v hv h => by
          by_cases ev : v = 8 + c
          · rw [ev]; exact t5
          · have h1 := hd v ((arc_ext t4 u v).mp hv) (by omega)
            rw [t4.2.2.1 v (by omega) h1]
            exact h1)
        refine ⟨w, q2, ?_, w2, by omega, ext_tr t4 w4 (by rw [B.1, t2.1]; omega), fun v hv => w5 v ((arc_ext t4 u v).mpr hv)⟩
        rw [gm_48_2, i1, a7, a8, i2, t1]
        simp (disch := omega) only [if_pos, if_neg, Option.bind_some, gm_48_43, i3]
        exact w1
      · obtain ⟨w, q2, w1, w2, w3, w4, w5⟩ := ih (c + 1) s q j B R hj hq (by omega) (by omega) (fun v hv h => by
          by_cases ev : v = 8 + c
          · rw [ev] at hv; exact absurd hv a
          · exact hd v hv (by omega))
        refine ⟨w, q2, ?_, w2, w3, w4, w5⟩
        rw [gm_48_2, i1]
        by_cases a7 : s.1 7 (9 * u + c) = 1
        · have a8 : s.1 8 (9 * u + c) = 1 := by
            have : ¬ s.1 8 (9 * u + c) = 0 := fun h => a (ae.mpr ⟨a7, h⟩)
            omega
          rw [a7, a8]
          simp (disch := omega) only [if_pos, if_neg, Option.bind_some, gm_48_43, i3]
          exact w1
        · simp (disch := omega) only [if_pos, if_neg, Option.bind_some, gm_48_43, i3]
          exact w1
theorem sp_48 {s : gx_S} {st q u j : Nat} (B : BF s st q) (R : RG s) (hu : u < 8) (hj : j < q) (hq : s.1 13 j = u) : ∃ (t : gx_S) (q' : Nat), gm_48 u s = some t ∧ BF t st q' ∧ q ≤ q' ∧ ext s t ∧ ∀ v, arc s u v → t.1 12 v ≠ -1 := sl_48 hu 100000 0 s q j B R hj hq (by omega) (by omega) (fun v hv h => by unfold arc at hv; omega)
theorem sl_50 {st : Nat} : ∀ (n c : Nat) (s : gx_S) (q j : Nat), BF s st q → RG s → j < q → s.1 13 j = 17 → 9 < n + c → c ≤ 9 → (∀ v, arc s 17 v → v < 8 + c → s.1 12 v ≠ -1) → ∃ (t : gx_S) (q' : Nat), gm_50_2 n c s = some t ∧ BF t st q' ∧ q ≤ q' ∧ ext s t ∧ ∀ v, arc s 17 v → t.1 12 v ≠ -1 := by
  intro n
  induction n with
  | zero => intro c s q j B R hj hq hn hc hd; omega
  | succ n ih =>
    intro c s q j B R hj hq hn hc hd
    by_cases e : c = 9
    · refine ⟨s, q, ?_, B, Nat.le_refl _, ext_rf s, fun v hv => hd v hv (by unfold arc at hv; omega)⟩
      rw [gm_50_2]
      simp (disch := omega) only [if_pos]
    · have i2 : (8 : Int) + c = ((8 + c : Nat) : Int) := by omega
      have i3 : ((c : Int) + 1) = ((c + 1 : Nat) : Int) := by omega
      have i4 : 8 + c - 8 = c := by omega
      have i5 : ((c : Int)).toNat = c := by omega
      obtain ⟨r1, r2, r3⟩ := R.2 c (by omega)
      unfold i32 at r1 r2 r3
      have ae : arc s 17 (8 + c) ↔ s.1 9 c < s.1 11 c := by
        unfold arc
        rw [i4]
        omega
      by_cases a : arc s 17 (8 + c)
      · have a7 := ae.mp a
        obtain ⟨t, q', t1, t2, t3, t4, t5⟩ := sp_47 (v := 8 + c) (u := 17) B (by omega) (by omega) hj hq a
        obtain ⟨w, q2, w1, w2, w3, w4, w5⟩ := ih (c + 1) t q' j t2 (RG_ext t4 R) (by omega) ((t4.2.2.2 j (by rw [B.1]; omega)).trans hq) (by omega) (by omega) (fun v hv h => by
          by_cases ev : v = 8 + c
          · rw [ev]; exact t5
          · have h1 := hd v ((arc_ext t4 17 v).mp hv) (by omega)
            rw [t4.2.2.1 v (by omega) h1]
            exact h1)
        refine ⟨w, q2, ?_, w2, by omega, ext_tr t4 w4 (by rw [B.1, t2.1]; omega), fun v hv => w5 v ((arc_ext t4 17 v).mpr hv)⟩
        rw [gm_50_2, i5, i2, show ((17 : Nat) : Int) = 17 from rfl] at *
        simp (disch := omega) only [if_pos, if_neg]
        rw [t1]
        simp only [Option.bind_some, gm_50_33, i3]
        exact w1
      · have a7 : ¬ s.1 9 c < s.1 11 c := fun h => a (ae.mpr h)
        obtain ⟨w, q2, w1, w2, w3, w4, w5⟩ := ih (c + 1) s q j B R hj hq (by omega) (by omega) (fun v hv h => by
          by_cases ev : v = 8 + c
          · rw [ev] at hv; exact absurd hv a
          · exact hd v hv (by omega))
        refine ⟨w, q2, ?_, w2, w3, w4, w5⟩
        rw [gm_50_2, i5]
        simp (disch := omega) only [if_pos, if_neg, gm_50_33, i3]
        exact w1
theorem sp_50 {s : gx_S} {st q j : Nat} (B : BF s st q) (R : RG s) (hj : j < q) (hq : s.1 13 j = 17) : ∃ (t : gx_S) (q' : Nat), gm_50 s = some t ∧ BF t st q' ∧ q ≤ q' ∧ ext s t ∧ ∀ v, arc s 17 v → t.1 12 v ≠ -1 := sl_50 100000 0 s q j B R hj hq (by omega) (by omega) (fun v hv h => by unfold arc at hv; omega)
end
section
/-! THE CLASS's SEARCH: what is spread from a column; the whole search -/
theorem sl_49 {st u : Nat} (hu : u < 9) : ∀ (n c : Nat) (s : gx_S) (q j : Nat), BF s st q → RG s → j < q → s.1 13 j = ((8 + u : Nat) : Int) → 8 < n + c → c ≤ 8 → (∀ v, arc s (8 + u) v → (v < c ∨ v = 17) → s.1 12 v ≠ -1) → ∃ (t : gx_S) (q' : Nat), gm_49_27 n u c s = some t ∧ BF t st q' ∧ q ≤ q' ∧ ext s t ∧ ∀ v, arc s (8 + u) v → t.1 12 v ≠ -1 := by
  intro n
  induction n with
  | zero => intro c s q j B R hj hq hn hc hd; omega
  | succ n ih =>
    intro c s q j B R hj hq hn hc hd
    by_cases e : c = 8
    · refine ⟨s, q, ?_, B, Nat.le_refl _, ext_rf s, fun v hv => hd v hv (by unfold arc at hv; omega)⟩
      rw [gm_49_27]
      simp (disch := omega) only [if_pos]
    · have i1 : ((c : Int) * 9 + u).toNat = 9 * c + u := by omega
      have i2 : (8 : Int) + u = ((8 + u : Nat) : Int) := by omega
      have i3 : ((c : Int) + 1) = ((c + 1 : Nat) : Int) := by omega
      have i4 : 8 + u - 8 = u := by omega
      obtain ⟨r1, r2⟩ := R.1 (9 * c + u) (by omega)
      have ae : arc s (8 + u) c ↔ s.1 7 (9 * c + u) = 1 ∧ s.1 8 (9 * c + u) = 1 := by
        unfold arc
        rw [i4]
        constructor
        · rintro (h | ⟨_, _, _, h1, h2⟩ | h | h)
          · omega
          · exact ⟨h1, h2⟩
          · omega
          · omega
        · intro h
          exact .inr (.inl ⟨by omega, by omega, by omega, h.1, h.2⟩)
      by_cases a : arc s (8 + u) c
      · obtain ⟨a7, a8⟩ := ae.mp a
        obtain ⟨t, q', t1, t2, t3, t4, t5⟩ := sp_47 (v := c) B (by omega) (by omega) hj hq a
        obtain ⟨w, q2, w1, w2, w3, w4, w5⟩ := ih (c + 1) t q' j t2 (RG_ext t4 R) (by omega) ((t4.2.2.2 j (by rw [B.1]; omega)).trans hq) (by omega) (by omega) (fun v hv h => by
          by_cases ev : v = c
          · rw [ev]; exact t5
          · have hv1 := (arc_ext t4 (8 + u) v).mp hv
            have h1 := hd v hv1 (by omega)
            rw [t4.2.2.1 v (by unfold arc at hv1; omega) h1]
            exact h1)
        refine ⟨w, q2, ?_, w2, by omega, ext_tr t4 w4 (by rw [B.1, t2.1]; omega), fun v hv => w5 v ((arc_ext t4 (8 + u) v).mpr hv)⟩
        rw [gm_49_27, i1, a7, a8, i2, t1]
        simp (disch := omega) only [if_pos, if_neg, Option.bind_some, gm_49_69, i3]
        exact w1
      · obtain ⟨w, q2, w1, w2, w3, w4, w5⟩ := ih (c + 1) s q j B R hj hq (by omega) (by omega) (fun v hv h => by
          by_cases ev : v = c
          · rw [ev] at hv; exact absurd hv a
          · exact hd v hv (by omega))
        refine ⟨w, q2, ?_, w2, w3, w4, w5⟩
        rw [gm_49_27, i1]
        by_cases a7 : s.1 7 (9 * c + u) = 1
        · have a8 : s.1 8 (9 * c + u) = 0 := by
            have : ¬ s.1 8 (9 * c + u) = 1 := fun h => a (ae.mpr ⟨a7, h⟩)
            omega
          rw [a7, a8]
          simp (disch := omega) only [if_pos, if_neg, Option.bind_some, gm_49_69, i3]
          exact w1
        · simp (disch := omega) only [if_pos, if_neg, Option.bind_some, gm_49_69, i3]
          exact w1
theorem sp_49 {s : gx_S} {st q u j : Nat} (B : BF s st q) (R : RG s) (hu : u < 9) (hj : j < q) (hq : s.1 13 j = ((8 + u : Nat) : Int)) : ∃ (t : gx_S) (q' : Nat), gm_49 u s = some t ∧ BF t st q' ∧ q ≤ q' ∧ ext s t ∧ ∀ v, arc s (8 + u) v → t.1 12 v ≠ -1 := by
  have i2 : (8 : Int) + u = ((8 + u : Nat) : Int) := by omega
  have i4 : 8 + u - 8 = u := by omega
  have i5 : ((u : Int)).toNat = u := by omega
  obtain ⟨r1, r2, r3⟩ := R.2 u hu
  unfold i32 at r1 r2 r3
  have ae : arc s (8 + u) 17 ↔ s.1 11 u < s.1 10 u := by
    unfold arc
    rw [i4]
    omega
  by_cases a : arc s (8 + u) 17
  · have a7 := ae.mp a
    obtain ⟨t, q', t1, t2, t3, t4, t5⟩ := sp_47 (v := 17) B (by omega) (by omega) hj hq a
    obtain ⟨w, q2, w1, w2, w3, w4, w5⟩ := sl_49 hu 100000 0 t q' j t2 (RG_ext t4 R) (by omega) ((t4.2.2.2 j (by rw [B.1]; omega)).trans hq) (by omega) (by omega) (fun v hv h => by
      have : v = 17 := by omega
      rw [this]
      exact t5)
    refine ⟨w, q2, ?_, w2, by omega, ext_tr t4 w4 (by rw [B.1, t2.1]; omega), fun v hv => w5 v ((arc_ext t4 (8 + u) v).mpr hv)⟩
    unfold gm_49
    rw [i5, i2]
    simp (disch := omega) only [if_pos, if_neg]
    rw [show (17 : Int) = ((17 : Nat) : Int) from rfl, t1]
    simp only [Option.bind_some, gm_49_25]
    exact w1
  · have a7 : ¬ s.1 11 u < s.1 10 u := fun h => a (ae.mpr h)
    obtain ⟨w, q2, w1, w2, w3, w4, w5⟩ := sl_49 hu 100000 0 s q j B R hj hq (by omega) (by omega) (fun v hv h => by
      have : v = 17 := by omega
      rw [this] at hv
      exact absurd hv a)
    refine ⟨w, q2, ?_, w2, w3, w4, w5⟩
    unfold gm_49
    rw [i5]
    simp (disch := omega) only [if_pos, if_neg, gm_49_25]
    exact w1
/-- any found node is spread by one of the three -/
theorem sp_spread {s : gx_S} {st q u j : Nat} (B : BF s st q) (R : RG s) (hu : u < 18) (hj : j < q) (hq : s.1 13 j = u) : ∃ (t : gx_S) (q' : Nat), (if 8 ≤ (u : Int) then (if 17 ≤ (u : Int) then gm_50 s else gm_49 ((u : Int) - 8) s) else gm_48 u s) = some t ∧ BF t st q' ∧ q ≤ q' ∧ ext s t ∧ ∀ v, arc s u v → t.1 12 v ≠ -1 := by
  by_cases h1 : u < 8
  · obtain ⟨t, q', h⟩ := sp_48 B R h1 hj hq
    exact ⟨t, q', by rw [if_neg (by omega)]; exact h.1, h.2⟩
  · by_cases h2 : u = 17
    · subst h2
      obtain ⟨t, q', h⟩ := sp_50 B R hj hq
      exact ⟨t, q', by rw [if_pos (by omega), if_pos (by omega)]; exact h.1, h.2⟩
    · obtain ⟨c, rfl⟩ : ∃ c, u = 8 + c := ⟨u - 8, by omega⟩
      obtain ⟨t, q', h⟩ := sp_49 (u := c) B R (by omega) hj hq
      exact ⟨t, q', by rw [if_pos (by omega), if_neg (by omega), show ((8 + c : Nat) : Int) - 8 = c by omega]; exact h.1, h.2⟩
theorem sl_46 {st g : Nat} (hg : g < 18) : ∀ (n i : Nat) (s : gx_S) (q : Nat), BF s st q → RG s → 18 < n + i → i ≤ q → (∀ j (u : Nat), j < i → s.1 13 j = (u : Int) → ∀ v, arc s u v → s.1 12 v ≠ -1) → ∃ (t : gx_S) (q' : Nat) (b : Bool), gm_46_21 n g i s = some (b, t) ∧ BF t st q' ∧ q ≤ q' ∧ ext s t ∧ (b = true ↔ t.1 12 g ≠ -1) ∧ (b = false → ∀ u v : Nat, u < 18 → t.1 12 u ≠ -1 → arc s u v → t.1 12 v ≠ -1) := by
  intro n
  induction n with
  | zero =>
    intro i s q B R hn hi
    have : (q : Int) ≤ 18 := by
      rw [B.2.1]
      exact sg_le (f := fun v => bi (s.1 12 v ≠ -1)) (g := fun _ => 1) (n := 18) fun k _ => (bi_r _).2
    omega
  | succ n ih =>
    intro i s q B R hn hi hd
    have q18 : (q : Int) ≤ 18 := by
      rw [B.2.1]
      exact sg_le (f := fun v => bi (s.1 12 v ≠ -1)) (g := fun _ => 1) (n := 18) fun k _ => (bi_r _).2
    obtain ⟨g1, g2⟩ := B.2.2.1 g hg
    have i5 : ((g : Int)).toNat = g := by omega
    have e92 : gm_46_92 g s = some (decide (s.1 12 g ≠ -1), s) := by
      unfold gm_46_92
      rw [i5]
      by_cases h : s.1 12 g = -1
      · rw [h]
        simp (disch := omega) only [if_pos]
        rfl
      · simp (disch := omega) only [if_pos, if_neg]
        rw [decide_eq_true h]
    by_cases e : i = q
    · refine ⟨s, q, decide (s.1 12 g ≠ -1), ?_, B, Nat.le_refl _, ext_rf s, decide_eq_true_iff, fun _ u v hu h a => ?_⟩
      · rw [gm_46_21, B.1]
        simp (disch := omega) only [if_pos]
        exact e92
      · obtain ⟨j, j1, j2⟩ := B.2.2.2.2.1 u hu h
        exact hd j u (by omega) j2 v a
    · by_cases h : s.1 12 g = -1
      · obtain ⟨u, u1, u2, u3⟩ := B.2.2.2.1 i (by omega)
        obtain ⟨t, q', t1, t2, t3, t4, t5⟩ := sp_spread B R u1 (j := i) (by omega) u2
        obtain ⟨w, q2, b, w1, w2, w3, w4, w5, w6⟩ := ih (i + 1) t q' t2 (RG_ext t4 R) (by omega) (by omega) (fun j x hj hx v hv => by
          have hv1 := (arc_ext t4 x v).mp hv
          rw [t4.2.2.2 j (by rw [B.1]; omega)] at hx
          by_cases ej : j = i
          · rw [ej, u2] at hx
            have : u = x := by omega
            subst this
            exact t5 v hv1
          · have h1 := hd j x (by omega) hx v hv1
            rw [t4.2.2.1 v (by unfold arc at hv1; omega) h1]
            exact h1)
        refine ⟨w, q2, b, ?_, w2, by omega, ext_tr t4 w4 (by rw [B.1, t2.1]; omega), w5, fun hb x v hx h a => w6 hb x v hx h ((arc_ext t4 x v).mpr a)⟩
        have i6 : ((i : Int)).toNat = i := by omega
        have i3 : ((i : Int) + 1) = ((i + 1 : Nat) : Int) := by omega
        rw [gm_46_21, B.1, i5, i6, h, u2]
        rw [← i3] at w1
        by_cases c1 : u < 8
        · rw [if_neg (by omega)] at t1
          rw [t1]
          simp (disch := omega) only [if_pos, if_neg, Option.bind_some, gm_46_86]
          exact w1
        · rw [if_pos (by omega)] at t1
          by_cases c2 : u = 17
          · rw [if_pos (by omega)] at t1
            rw [t1]
            simp (disch := omega) only [if_pos, if_neg, Option.bind_some, gm_46_86]
            exact w1
          · rw [if_neg (by omega)] at t1
            rw [t1]
            simp (disch := omega) only [if_pos, if_neg, Option.bind_some, gm_46_86]
            exact w1
      · refine ⟨s, q, true, ?_, B, Nat.le_refl _, ext_rf s, ⟨fun _ => h, fun _ => rfl⟩, fun h => absurd h (by decide)⟩
        rw [decide_eq_true h] at e92
        rw [gm_46_21, B.1, i5]
        simp (disch := omega) only [if_pos, if_neg]
        exact e92
end
section
/-! THE CLASS's SEARCH: findWay -/
/-- only the search's own cells (12, 13, (6, 7)) change -/
def oth (s t : gx_S) : Prop := t.2 = s.2 ∧ ∀ k j, k ≠ 12 → k ≠ 13 → ¬ (k = 6 ∧ j = 7) → t.1 k j = s.1 k j
theorem oth_tr {s t u : gx_S} (a : oth s t) (b : oth t u) : oth s u := ⟨b.1.trans a.1, fun k j h1 h2 h3 => (b.2 k j h1 h2 h3).trans (a.2 k j h1 h2 h3)⟩
theorem ext_oth {s t : gx_S} (h : ext s t) : oth s t := ⟨h.1, h.2.1⟩
theorem arc_oth {s t : gx_S} (h : oth s t) (u v : Nat) : arc t u v ↔ arc s u v := by
  unfold arc
  rw [h.2 7 _ (by omega) (by omega) (by omega), h.2 8 _ (by omega) (by omega) (by omega), h.2 7 _ (by omega) (by omega) (by omega), h.2 8 _ (by omega) (by omega) (by omega), h.2 11 _ (by omega) (by omega) (by omega), h.2 10 _ (by omega) (by omega) (by omega), h.2 9 _ (by omega) (by omega) (by omega), h.2 11 _ (by omega) (by omega) (by omega)]
theorem RG_oth {s t : gx_S} (h : oth s t) (R : RG s) : RG t := by
  refine ⟨fun j hj => ?_, fun c hc => ?_⟩
  · rw [h.2 7 _ (by omega) (by omega) (by omega), h.2 8 _ (by omega) (by omega) (by omega)]
    exact R.1 j hj
  · rw [h.2 9 _ (by omega) (by omega) (by omega), h.2 10 _ (by omega) (by omega) (by omega), h.2 11 _ (by omega) (by omega) (by omega)]
    exact R.2 c hc
theorem sl_235 : ∀ (n i : Nat) (s : gx_S), 18 < n + i → i ≤ 18 → ∃ t : gx_S, gm_235_5 n 12 (-1) i 18 s = some t ∧ t.2 = s.2 ∧ (∀ k j, k ≠ 12 → t.1 k j = s.1 k j) ∧ (∀ j, j < 18 → i ≤ j → t.1 12 j = -1) ∧ ∀ j, j < i → t.1 12 j = s.1 12 j := by
  intro n
  induction n with
  | zero => intro i s hn hi; omega
  | succ n ih =>
    intro i s hn hi
    by_cases e : i = 18
    · refine ⟨s, ?_, rfl, fun _ _ _ => rfl, fun j h1 h2 => by omega, fun _ _ => rfl⟩
      rw [gm_235_5]
      simp (disch := omega) only [if_pos]
    · obtain ⟨t, t1, t2, t3, t4, t5⟩ := ih (i + 1) (gw1 s 12 i (-1)) (by omega) (by omega)
      have i3 : ((i : Int) + 1) = ((i + 1 : Nat) : Int) := by omega
      have i5 : ((i : Int)).toNat = i := by omega
      have p : gx_p 12 = true := by decide
      have z : (fx_sh 12).2 = 18 := by decide
      refine ⟨t, ?_, t2, fun k j h => (t3 k j h).trans (by rw [gw1_1, if_neg (fun x => h x.1)]), fun j h1 h2 => ?_, fun j h => (t5 j (by omega)).trans (by rw [gw1_1, if_neg (by omega)])⟩
      · rw [gm_235_5, z, i5, i3]
        simp (disch := first | omega | assumption) only [if_pos, if_neg]
        exact t1
      · by_cases ej : j = i
        · rw [t5 j (by omega), gw1_1, if_pos ⟨rfl, ej⟩]
        · exact t4 j h1 (by omega)
theorem sp_235 (s : gx_S) : ∃ t : gx_S, gm_235 12 (-1) s = some t ∧ t.2 = s.2 ∧ (∀ k j, k ≠ 12 → t.1 k j = s.1 k j) ∧ ∀ j, j < 18 → t.1 12 j = -1 := by
  obtain ⟨t, t1, t2, t3, t4, t5⟩ := sl_235 100000 0 s (by omega) (by omega)
  have z : (fx_sh 12).2 = 18 := by decide
  refine ⟨t, ?_, t2, t3, fun j h => t4 j h (by omega)⟩
  unfold gm_235
  rw [if_pos (by decide), z]
  exact t1
theorem sg_z {f : Nat → Int} : ∀ {n : Nat}, (∀ k, k < n → f k = 0) → sg f n = 0 := by
  intro n h
  have a := sg_le (f := f) (g := fun _ => 0) (n := n) fun k hk => by rw [h k hk]; exact Int.le_refl 0
  have b := sg_nn (f := f) (n := n) fun k hk => by rw [h k hk]; exact Int.le_refl 0
  have c : ∀ n, sg (fun _ => (0 : Int)) n = 0 := by
    intro n
    induction n with
    | zero => rfl
    | succ n ih => show sg (fun _ => (0 : Int)) n + 0 = 0; rw [ih]; rfl
  rw [c] at a
  omega
/-- findWay: the way's end is found, or what is found is closed -/
theorem sp_46 {s : gx_S} {st g : Nat} (R : RG s) (hs : st < 18) (hg : g < 18) : ∃ (t : gx_S) (q : Nat) (b : Bool), gm_46 st g s = some (b, t) ∧ BF t st q ∧ oth s t ∧ t.1 12 st = st ∧ (b = true ↔ t.1 12 g ≠ -1) ∧ (b = false → ∀ u v : Nat, u < 18 → t.1 12 u ≠ -1 → arc s u v → t.1 12 v ≠ -1) := by
  obtain ⟨a, a1, a2, a3, a4⟩ := sp_235 s
  have x6 : ∀ j, (gw1 a 6 7 0).1 12 j = a.1 12 j := fun j => by rw [gw1_1, if_neg (by omega)]
  have b1 : (gw1 a 6 7 0).1 6 7 = 0 := by rw [gw1_1, if_pos ⟨rfl, rfl⟩]
  have b2 : (gw1 a 6 7 0).1 12 st = -1 := by rw [x6]; exact a4 st hs
  have x12 : (gw1 (gw1 a 6 7 0) 12 st st).1 6 7 = 0 := by rw [gw1_1, if_neg (by omega), b1]
  have x13 : (gw1 (gw1 (gw1 a 6 7 0) 12 st st) 13 0 st).1 6 7 = 0 := by rw [gw1_1, if_neg (by omega), x12]
  have e47 : gm_47 st st (gw1 a 6 7 0) = some (gw1 (gw1 (gw1 (gw1 a 6 7 0) 12 st st) 13 0 st) 6 7 1) := by
    unfold gm_47
    rw [show ((st : Int)).toNat = st by omega, b2, b1]
    simp (disch := omega) only [if_pos, if_neg, x12, x13, show (0 : Int).toNat = 0 from rfl, show (0 : Int) + 1 = 1 from rfl]
    exact if_neg (fun h => h trivial)
  have t12 : ∀ w, w < 18 → (gw1 (gw1 (gw1 (gw1 a 6 7 0) 12 st st) 13 0 st) 6 7 1).1 12 w = if w = st then (st : Int) else -1 := by
    intro w hw
    rw [gw1_1, if_neg (by omega), gw1_1, if_neg (by omega), gw1_1]
    by_cases e : w = st
    · rw [if_pos ⟨rfl, e⟩, if_pos e]
    · rw [if_neg (fun h => e h.2), if_neg e, x6, a4 w hw]
  have t13 : (gw1 (gw1 (gw1 (gw1 a 6 7 0) 12 st st) 13 0 st) 6 7 1).1 13 0 = (st : Int) := by
    rw [gw1_1, if_neg (by omega), gw1_1, if_pos ⟨rfl, rfl⟩]
  have B : BF (gw1 (gw1 (gw1 (gw1 a 6 7 0) 12 st st) 13 0 st) 6 7 1) st 1 := by
    refine ⟨by rw [gw1_1, if_pos ⟨rfl, rfl⟩]; rfl, ?_, fun v hv => ?_, fun i hi => ⟨st, hs, ?_, ?_⟩, fun v hv h => ⟨0, by omega, ?_⟩, fun i j hi hj _ => by omega, by omega, t13, fun i h1 h2 => by omega⟩
    · have c := sg_upd (f := fun v => if v = st then 0 else bi ((gw1 (gw1 (gw1 (gw1 a 6 7 0) 12 st st) 13 0 st) 6 7 1).1 12 v ≠ -1)) (g := fun v => bi ((gw1 (gw1 (gw1 (gw1 a 6 7 0) 12 st st) 13 0 st) 6 7 1).1 12 v ≠ -1)) (i := st) (x := 1) (by
        show bi ((gw1 (gw1 (gw1 (gw1 a 6 7 0) 12 st st) 13 0 st) 6 7 1).1 12 st ≠ -1) = (if st = st then 0 else _) + 1
        rw [t12 st hs, if_pos rfl, if_pos rfl]
        exact if_pos (by omega)) (fun c hc => (if_neg hc).symm) (n := 18) hs
      rw [sg_z (f := fun v => if v = st then 0 else bi ((gw1 (gw1 (gw1 (gw1 a 6 7 0) 12 st st) 13 0 st) 6 7 1).1 12 v ≠ -1)) (fun c c18 => by
        show (if c = st then 0 else _) = (0 : Int)
        by_cases e : c = st
        · rw [if_pos e]
        · rw [if_neg e, t12 c c18, if_neg e]
          exact if_neg (fun h => h rfl))] at c
      omega
    · rw [t12 v hv]
      split <;> omega
    · rw [show i = 0 by omega]
      exact t13
    · rw [t12 st hs, if_pos rfl]
      omega
    · rw [t12 v hv] at h
      by_cases e : v = st
      · rw [t13, e]
      · rw [if_neg e] at h
        exact absurd rfl h
  have o : oth s (gw1 (gw1 (gw1 (gw1 a 6 7 0) 12 st st) 13 0 st) 6 7 1) := by
    refine ⟨a2, fun k j h1 h2 h3 => ?_⟩
    rw [gw1_1, if_neg h3, gw1_1, if_neg (fun h => h2 h.1), gw1_1, if_neg (fun h => h1 h.1), gw1_1, if_neg h3]
    exact a3 k j h1
  obtain ⟨t, q, b, w1, w2, w3, w4, w5, w6⟩ := sl_46 hg 100000 0 _ 1 B (RG_oth o R) (by omega) (by omega) (fun j u h => by omega)
  refine ⟨t, q, b, ?_, w2, oth_tr o (ext_oth w4), ?_, w5, fun hb u v hu h hv => w6 hb u v hu h ((arc_oth o u v).mpr hv)⟩
  · unfold gm_46
    rw [a1, Option.bind_some, e47, Option.bind_some]
    exact w1
  · have z : (gw1 (gw1 (gw1 (gw1 a 6 7 0) 12 st st) 13 0 st) 6 7 1).1 12 st = st := by rw [t12 st hs, if_pos rfl]
    rw [w4.2.2.1 st hs (by rw [z]; omega), z]
end
section
/-! THE CLASS's TURN of a way: a node's measure; what a turn changes -/
theorem sg_updn {f g : Nat → Int} {i n : Nat} {x : Int} (hi : i < n) (hg : g i = f i + x) (ho : ∀ c, c < n → c ≠ i → g c = f c) : sg g n = sg f n + x := by
  have a : sg g n = sg (fun c => f c + if c = i then x else 0) n := sg_eq fun c hc => by
    by_cases e : c = i
    · rw [e, if_pos rfl]; exact hg
    · rw [if_neg e]
      have := ho c hc e
      omega
  have b := sg_upd (f := fun _ => 0) (g := fun c => if c = i then x else 0) (i := i) (x := x) (by show (if i = i then x else 0) = 0 + x; rw [if_pos rfl]; omega) (fun c hc => if_neg hc) hi
  rw [a, sg_add, b, sg_0 (f := fun _ => 0) fun _ _ => rfl]
  omega
def ph (s : gx_S) (v : Nat) : Int := if v < 8 then sg (fun c => s.1 8 (9 * v + c)) 9 else if v < 17 then s.1 11 (v - 8) - sg (fun r => s.1 8 (9 * r + (v - 8))) 8 else - sg (fun c => s.1 11 c) 9
theorem ph_w8 {s : gx_S} {r0 c0 : Nat} {x d : Int} (hr : r0 < 8) (hc : c0 < 9) (hx : x = s.1 8 (9 * r0 + c0) + d) (v : Nat) : ph (gw1 s 8 (9 * r0 + c0) x) v = ph s v + (if v = r0 then d else 0) - (if v = 8 + c0 then d else 0) := by
  have z11 : ∀ j, (gw1 s 8 (9 * r0 + c0) x).1 11 j = s.1 11 j := fun j => by rw [gw1_1, if_neg (by omega)]
  have z8 : ∀ j, (gw1 s 8 (9 * r0 + c0) x).1 8 j = if j = 9 * r0 + c0 then x else s.1 8 j := fun j => by
    rw [gw1_1]
    by_cases e : j = 9 * r0 + c0
    · rw [if_pos ⟨rfl, e⟩, if_pos e]
    · rw [if_neg (fun h => e h.2), if_neg e]
  unfold ph
  by_cases h1 : v < 8
  · rw [if_pos h1, if_pos h1, if_neg (show ¬ v = 8 + c0 by omega)]
    by_cases e : v = r0
    · rw [if_pos e, sg_updn (f := fun c => s.1 8 (9 * v + c)) (i := c0) (x := d) hc (by
        show (gw1 s 8 (9 * r0 + c0) x).1 8 (9 * v + c0) = s.1 8 (9 * v + c0) + d
        rw [z8, e, if_pos rfl, hx]) (fun c h2 h3 => by
        show (gw1 s 8 (9 * r0 + c0) x).1 8 (9 * v + c) = s.1 8 (9 * v + c)
        rw [z8, if_neg (by omega)])]
      omega
    · rw [if_neg e, sg_eq (g := fun c => s.1 8 (9 * v + c)) fun c h2 => by
        show (gw1 s 8 (9 * r0 + c0) x).1 8 (9 * v + c) = s.1 8 (9 * v + c)
        rw [z8, if_neg (by omega)]]
      omega
  · rw [if_neg h1, if_neg h1, if_neg (show ¬ v = r0 by omega)]
    by_cases h2 : v < 17
    · rw [if_pos h2, if_pos h2, z11]
      by_cases e : v = 8 + c0
      · rw [if_pos e, sg_updn (f := fun r => s.1 8 (9 * r + (v - 8))) (i := r0) (x := d) hr (by
          show (gw1 s 8 (9 * r0 + c0) x).1 8 (9 * r0 + (v - 8)) = s.1 8 (9 * r0 + (v - 8)) + d
          rw [z8, show v - 8 = c0 by omega, if_pos rfl, hx]) (fun c h2 h3 => by
          show (gw1 s 8 (9 * r0 + c0) x).1 8 (9 * c + (v - 8)) = s.1 8 (9 * c + (v - 8))
          rw [z8, if_neg (by omega)])]
        omega
      · rw [if_neg e, sg_eq (g := fun r => s.1 8 (9 * r + (v - 8))) fun c h3 => by
          show (gw1 s 8 (9 * r0 + c0) x).1 8 (9 * c + (v - 8)) = s.1 8 (9 * c + (v - 8))
          rw [z8, if_neg (by omega)]]
        omega
    · rw [if_neg h2, if_neg h2, if_neg (show ¬ v = 8 + c0 by omega), sg_eq (g := fun c => s.1 11 c) fun c _ => z11 c]
      omega
theorem ph_w11 {s : gx_S} {c0 : Nat} {x d : Int} (hc : c0 < 9) (hx : x = s.1 11 c0 + d) {v : Nat} (hv : v < 18) : ph (gw1 s 11 c0 x) v = ph s v + (if v = 8 + c0 then d else 0) - (if v = 17 then d else 0) := by
  have z8 : ∀ j, (gw1 s 11 c0 x).1 8 j = s.1 8 j := fun j => by rw [gw1_1, if_neg (by omega)]
  have z11 : ∀ j, (gw1 s 11 c0 x).1 11 j = if j = c0 then x else s.1 11 j := fun j => by
    rw [gw1_1]
    by_cases e : j = c0
    · rw [if_pos ⟨rfl, e⟩, if_pos e]
    · rw [if_neg (fun h => e h.2), if_neg e]
  unfold ph
  by_cases h1 : v < 8
  · rw [if_pos h1, if_pos h1, if_neg (show ¬ v = 8 + c0 by omega), if_neg (show ¬ v = 17 by omega), sg_eq (g := fun c => s.1 8 (9 * v + c)) fun c _ => z8 _]
    omega
  · rw [if_neg h1, if_neg h1]
    by_cases h2 : v < 17
    · rw [if_pos h2, if_pos h2, if_neg (show ¬ v = 17 by omega), sg_eq (f := fun r => (gw1 s 11 c0 x).1 8 (9 * r + (v - 8))) (g := fun r => s.1 8 (9 * r + (v - 8))) fun c _ => z8 _, z11]
      by_cases e : v = 8 + c0
      · rw [if_pos e, if_pos (show v - 8 = c0 by omega), show v - 8 = c0 by omega, hx]
        omega
      · rw [if_neg e, if_neg (show ¬ v - 8 = c0 by omega)]
        omega
    · rw [if_neg h2, if_neg h2, if_neg (show ¬ v = 8 + c0 by omega), if_pos (show v = 17 by omega), sg_updn (f := fun c => s.1 11 c) (i := c0) (x := d) hc (by
        show (gw1 s 11 c0 x).1 11 c0 = s.1 11 c0 + d
        rw [z11, if_pos rfl, hx]) (fun c h2 h3 => by
        show (gw1 s 11 c0 x).1 11 c = s.1 11 c
        rw [z11, if_neg h3])]
      omega
theorem arc_w8 {s : gx_S} {r0 c0 a b : Nat} {x : Int} (hr : r0 < 8) (hc : c0 < 9) (h : ¬ (a = r0 ∧ b = 8 + c0)) (h' : ¬ (a = 8 + c0 ∧ b = r0)) : arc (gw1 s 8 (9 * r0 + c0) x) a b ↔ arc s a b := by
  have zo : ∀ k j, k ≠ 8 → (gw1 s 8 (9 * r0 + c0) x).1 k j = s.1 k j := fun k j hk => by rw [gw1_1, if_neg (fun h => hk h.1)]
  unfold arc
  refine or_congr (and_congr_right fun h1 => and_congr_right fun h2 => and_congr_right fun h3 => ?_) (or_congr (and_congr_right fun h1 => and_congr_right fun h2 => and_congr_right fun h3 => ?_) (or_congr ?_ ?_))
  · rw [zo 7 _ (by omega), gw1_1, if_neg (by omega)]
  · rw [zo 7 _ (by omega), gw1_1, if_neg (by omega)]
  · rw [zo 11 _ (by omega), zo 10 _ (by omega)]
  · rw [zo 11 _ (by omega), zo 9 _ (by omega)]
theorem arc_w11 {s : gx_S} {c0 a b : Nat} {x : Int} (h : ¬ (a = 8 + c0 ∧ b = 17)) (h' : ¬ (a = 17 ∧ b = 8 + c0)) : arc (gw1 s 11 c0 x) a b ↔ arc s a b := by
  have zo : ∀ k j, k ≠ 11 → (gw1 s 11 c0 x).1 k j = s.1 k j := fun k j hk => by rw [gw1_1, if_neg (fun h => hk h.1)]
  unfold arc
  refine or_congr ?_ (or_congr ?_ (or_congr (and_congr_right fun h1 => and_congr_right fun h2 => and_congr_right fun h3 => ?_) (and_congr_right fun h1 => and_congr_right fun h2 => and_congr_right fun h3 => ?_)))
  · rw [zo 7 _ (by omega), zo 8 _ (by omega)]
  · rw [zo 7 _ (by omega), zo 8 _ (by omega)]
  · rw [zo 10 _ (by omega), gw1_1, if_neg (by omega)]
  · rw [zo 9 _ (by omega), gw1_1, if_neg (by omega)]
/-- what a turn may change: free entries' more, come within bounds -/
def tn (s t : gx_S) : Prop := t.2 = s.2 ∧ (∀ k j, k ≠ 8 → k ≠ 11 → t.1 k j = s.1 k j) ∧ (∀ j, j < 72 → t.1 8 j = s.1 8 j ∨ (s.1 7 j = 1 ∧ (t.1 8 j = 0 ∨ t.1 8 j = 1))) ∧ ∀ c, c < 9 → (s.1 11 c ≤ t.1 11 c ∨ s.1 9 c ≤ t.1 11 c) ∧ (t.1 11 c ≤ s.1 11 c ∨ t.1 11 c ≤ s.1 10 c)
theorem tn_rf (s : gx_S) : tn s s := ⟨rfl, fun _ _ _ _ => rfl, fun _ _ => .inl rfl, fun _ _ => ⟨.inl (Int.le_refl _), .inl (Int.le_refl _)⟩⟩
theorem tn_tr {s t u : gx_S} (a : tn s t) (b : tn t u) : tn s u := by
  refine ⟨b.1.trans a.1, fun k j h1 h2 => (b.2.1 k j h1 h2).trans (a.2.1 k j h1 h2), fun j hj => ?_, fun c hc => ?_⟩
  · have x := a.2.2.1 j hj
    have y := b.2.2.1 j hj
    have z := a.2.1 7 j (by omega) (by omega)
    omega
  · have x := a.2.2.2 c hc
    have y := b.2.2.2 c hc
    have z := a.2.1 9 c (by omega) (by omega)
    have z' := a.2.1 10 c (by omega) (by omega)
    omega
end
section
/-! THE CLASS's TURN of a step and of a way -/
theorem sp_52 {s : gx_S} {u v : Nat} (a : arc s u v) : ∃ t : gx_S, gm_52 u v s = some t ∧ tn s t ∧ (∀ x y, x ≠ v → y ≠ v → (arc t x y ↔ arc s x y)) ∧ (∀ w, w < 18 → ph t w = ph s w + (if w = u then 1 else 0) - (if w = v then 1 else 0)) ∧ ∀ c, ¬ (u = 8 + c ∧ v = 17) → ¬ (u = 17 ∧ v = 8 + c) → t.1 11 c = s.1 11 c := by
  unfold gm_52
  rcases id a with ⟨h1, h2, h3, h4, h5⟩ | ⟨h1, h2, h3, h4, h5⟩ | ⟨h1, h2, h3, h4⟩ | ⟨h1, h2, h3, h4⟩
  · obtain ⟨c, rfl⟩ : ∃ c, v = 8 + c := ⟨v - 8, by omega⟩
    have i1 : ((((u : Int) * 9) + ((8 + c : Nat) : Int)) - 8).toNat = 9 * u + c := by omega
    rw [show 8 + c - 8 = c by omega] at h4 h5
    refine ⟨gw1 s 8 (9 * u + c) 1, ?_, ⟨rfl, fun k j q1 q2 => by rw [gw1_1, if_neg (fun h => q1 h.1)], fun j hj => ?_, fun c' hc' => ?_⟩, fun x y hx hy => arc_w8 (by omega) (by omega) (by omega) (by omega), fun w hw => ph_w8 (by omega) (by omega) (by omega) w, fun c' _ _ => by rw [gw1_1, if_neg (by omega)]⟩
    · rw [i1]
      simp (disch := omega) only [if_pos, if_neg]
    · rw [gw1_1]
      by_cases e : j = 9 * u + c
      · rw [if_pos ⟨rfl, e⟩, e]
        exact .inr ⟨h4, .inr rfl⟩
      · exact .inl (if_neg fun h => e h.2)
    · rw [gw1_1, if_neg (by omega)]
      omega
  · obtain ⟨c, rfl⟩ : ∃ c, u = 8 + c := ⟨u - 8, by omega⟩
    have i1 : ((((v : Int) * 9) + ((8 + c : Nat) : Int)) - 8).toNat = 9 * v + c := by omega
    rw [show 8 + c - 8 = c by omega] at h4 h5
    refine ⟨gw1 s 8 (9 * v + c) 0, ?_, ⟨rfl, fun k j q1 q2 => by rw [gw1_1, if_neg (fun h => q1 h.1)], fun j hj => ?_, fun c' hc' => ?_⟩, fun x y hx hy => arc_w8 (by omega) (by omega) (by omega) (by omega), fun w hw => ?_, fun c' _ _ => by rw [gw1_1, if_neg (by omega)]⟩
    · rw [i1]
      simp (disch := omega) only [if_pos, if_neg]
    · rw [gw1_1]
      by_cases e : j = 9 * v + c
      · rw [if_pos ⟨rfl, e⟩, e]
        exact .inr ⟨h4, .inl rfl⟩
      · exact .inl (if_neg fun h => e h.2)
    · rw [gw1_1, if_neg (by omega)]
      omega
    · rw [ph_w8 (d := -1) h3 (by omega) (by omega) w]
      split <;> split <;> omega
  · obtain ⟨c, rfl⟩ : ∃ c, u = 8 + c := ⟨u - 8, by omega⟩
    subst h3
    have i1 : (((8 + c : Nat) : Int) - 8).toNat = c := by omega
    rw [show 8 + c - 8 = c by omega] at h4
    refine ⟨gw1 s 11 c (s.1 11 c + 1), ?_, ⟨rfl, fun k j q1 q2 => by rw [gw1_1, if_neg (fun h => q2 h.1)], fun j hj => ?_, fun c' hc' => ?_⟩, fun x y hx hy => arc_w11 (by omega) (by omega), fun w hw => ph_w11 (by omega) rfl hw, fun c' _ _ => by rw [gw1_1, if_neg (by omega)]⟩
    · rw [i1]
      simp (disch := omega) only [if_pos, if_neg]
    · rw [gw1_1, if_neg (by omega)]
      exact .inl rfl
    · rw [gw1_1]
      by_cases e : c' = c
      · rw [if_pos ⟨rfl, e⟩, e]
        omega
      · rw [if_neg (fun h => e h.2)]
        omega
  · obtain ⟨c, rfl⟩ : ∃ c, v = 8 + c := ⟨v - 8, by omega⟩
    subst h1
    have i1 : (((8 + c : Nat) : Int) - 8).toNat = c := by omega
    rw [show 8 + c - 8 = c by omega] at h4
    refine ⟨gw1 s 11 c (s.1 11 c - 1), ?_, ⟨rfl, fun k j q1 q2 => by rw [gw1_1, if_neg (fun h => q2 h.1)], fun j hj => ?_, fun c' hc' => ?_⟩, fun x y hx hy => arc_w11 (by omega) (by omega), fun w hw => ?_, fun c' _ _ => by rw [gw1_1, if_neg (by omega)]⟩
    · rw [i1]
      simp (disch := omega) only [if_pos, if_neg]
    · rw [gw1_1, if_neg (by omega)]
      exact .inl rfl
    · rw [gw1_1]
      by_cases e : c' = c
      · rw [if_pos ⟨rfl, e⟩, e]
        omega
      · rw [if_neg (fun h => e h.2)]
        omega
    · rw [ph_w11 (d := -1) (by omega) (by omega) hw]
      split <;> split <;> omega
theorem sl_51 {s0 : gx_S} {st q : Nat} (B : BF s0 st q) : ∀ (n i x v : Nat) (s : gx_S), (∀ j, s.1 12 j = s0.1 12 j) → i < q → s0.1 13 i = v → v < 18 → i < n → x + i ≤ 17 → (∀ (a b i1 i2 : Nat), i1 ≤ i → i2 ≤ i → s0.1 13 i1 = (a : Int) → s0.1 13 i2 = (b : Int) → (arc s a b ↔ arc s0 a b)) → ∃ t : gx_S, gm_51_5 n st v x s = some t ∧ tn s t ∧ (∀ w, w < 18 → ph t w = ph s w + (if w = st then 1 else 0) - (if w = v then 1 else 0)) ∧ (∀ c : Nat, (∀ k, k ≤ i → s0.1 13 k ≠ ((8 + c : Nat) : Int)) → t.1 11 c = s.1 11 c) ∧ ∀ c, c < 9 → v = 8 + c → s.1 11 c ≤ s.1 9 c → t.1 11 c = s.1 11 c := by
  intro n
  induction n with
  | zero => intro i x v s h1 hi hv v18 hn; omega
  | succ n ih =>
    intro i x v s h1 hi hv v18 hn hx ha
    obtain ⟨b1, b2, b3, b4, b5, b6, b7, b8, b9⟩ := id B
    by_cases e : v = st
    · refine ⟨s, ?_, tn_rf s, fun w hw => by rw [e]; omega, fun _ _ => rfl, fun _ _ _ _ => rfl⟩
      rw [gm_51_5, e]
      have hs : st < 18 := by omega
      simp (disch := omega) only [if_pos, if_neg]
      exact if_pos trivial
    · have i0 : 0 < i := by
        rcases Nat.eq_zero_or_pos i with h | h
        · rw [h, b8] at hv
          omega
        · exact h
      obtain ⟨j, u, v', w1, w2, w3, w4, w5, w6, w7⟩ := b9 i i0 hi
      have : v' = v := by omega
      subst this
      have au : arc s u v' := (ha u v' j i (by omega) (Nat.le_refl i) w4 w5).mpr w7
      obtain ⟨t, t1, t2, t3, t4, t5⟩ := sp_52 au
      have t12 : ∀ k, t.1 12 k = s0.1 12 k := fun k => (t2.2.1 12 k (by omega) (by omega)).trans (h1 k)
      obtain ⟨w, y1, y2, y3, y4, y5⟩ := ih j (x + 1) u t t12 (by omega) w4 w2 (by omega) (by omega) (fun a b i1 i2 h1 h2 h3 h4 => by
        have na : a ≠ v' := fun h => by
          have := b6 i1 i (by omega) hi (by rw [h3, hv, h])
          omega
        have nb : b ≠ v' := fun h => by
          have := b6 i2 i (by omega) hi (by rw [h4, hv, h])
          omega
        exact (t3 a b na nb).trans (ha a b i1 i2 (by omega) (by omega) h3 h4))
      have b18 := b3 st
      refine ⟨w, ?_, tn_tr t2 y2, fun k hk => ?_, fun c hc => ?_, fun c c9 hc hl => ?_⟩
      · have i5 : ((v' : Int)).toNat = v' := by omega
        have i3 : ((x : Int) + 1) = ((x + 1 : Nat) : Int) := by omega
        have st18 : (st : Int) < 18 := by
          obtain ⟨z, z1, z2, z3⟩ := b4 0 b7
          rw [b8] at z2
          omega
        rw [gm_51_5, i5, h1, w6, t1, i3]
        simp (disch := omega) only [if_pos, if_neg, Option.bind_some, t12, w6]
        exact y1
      · rw [y3 k hk, t4 k hk]
        omega
      · rw [y4 c fun k hk => hc k (by omega)]
        exact t5 c (fun h => hc j (by omega) (by rw [w4, h.1])) (fun h => hc i (by omega) (by rw [hv, h.2]))
      · rw [y4 c fun k hk h => by
          have := b6 k i (by omega) hi (by rw [h, hv, hc])
          omega]
        refine t5 c (fun h => ?_) (fun h => ?_)
        · omega
        · obtain ⟨h, h'⟩ := h
          subst h
          rw [h'] at au
          unfold arc at au
          rw [show 8 + c - 8 = c by omega] at au
          rcases au with z | z | z | z
          · omega
          · omega
          · omega
          · have := z.2.2.2
            omega
/-- turnWay: where the search has found the way's end -/
theorem sp_51 {s : gx_S} {st q g : Nat} (B : BF s st q) (hg : g < 18) (h : s.1 12 g ≠ -1) : ∃ t : gx_S, gm_51 st g s = some t ∧ tn s t ∧ (∀ w, w < 18 → ph t w = ph s w + (if w = st then 1 else 0) - (if w = g then 1 else 0)) ∧ ∀ c, c < 9 → g = 8 + c → s.1 11 c ≤ s.1 9 c → t.1 11 c = s.1 11 c := by
  obtain ⟨i, i1, i2⟩ := B.2.2.2.2.1 g hg h
  have q18 : (q : Int) ≤ 18 := by
    rw [B.2.1]
    exact sg_le (f := fun v => bi (s.1 12 v ≠ -1)) (g := fun _ => 1) (n := 18) fun k _ => (bi_r _).2
  obtain ⟨t, t1, t2, t3, t4, t5⟩ := sl_51 B 100000 i 0 g s (fun _ => rfl) i1 i2 hg (by omega) (by omega) (fun _ _ _ _ _ _ _ _ => Iff.rfl)
  exact ⟨t, t1, t2, t3, t5⟩
end
section
/-! THE CLASS's BALANCED TABLE: rows are filled -/
def scr (s t : gx_S) : Prop := t.2 = s.2 ∧ ∀ k j, k ≠ 8 → k ≠ 11 → k ≠ 12 → k ≠ 13 → ¬ (k = 6 ∧ j = 7) → t.1 k j = s.1 k j
theorem scr_rf (s : gx_S) : scr s s := ⟨rfl, fun _ _ _ _ _ _ _ => rfl⟩
theorem scr_tr {s t u : gx_S} (a : scr s t) (b : scr t u) : scr s u := ⟨b.1.trans a.1, fun k j h1 h2 h3 h4 h5 => (b.2 k j h1 h2 h3 h4 h5).trans (a.2 k j h1 h2 h3 h4 h5)⟩
theorem oth_scr {s t : gx_S} (a : oth s t) : scr s t := ⟨a.1, fun k j _ _ h3 h4 h5 => a.2 k j h3 h4 h5⟩
theorem tn_scr {s t : gx_S} (a : tn s t) : scr s t := ⟨a.1, fun k j h1 h2 _ _ _ => a.2.1 k j h1 h2⟩
theorem ph_eq {s t : gx_S} (h8 : ∀ j, t.1 8 j = s.1 8 j) (h11 : ∀ j, t.1 11 j = s.1 11 j) (v : Nat) : ph t v = ph s v := by
  unfold ph
  simp only [h8, h11]
theorem ph_r {s : gx_S} {r : Nat} (h : r < 8) : ph s r = sg (fun c => s.1 8 (9 * r + c)) 9 := if_pos h
theorem ph_c {s : gx_S} {c : Nat} (h : c < 9) : ph s (8 + c) = s.1 11 c - sg (fun r => s.1 8 (9 * r + c)) 8 := by
  unfold ph
  rw [if_neg (by omega), if_pos (by omega), show 8 + c - 8 = c by omega]
theorem ph_oth {s t : gx_S} (o : oth s t) (v : Nat) : ph t v = ph s v := ph_eq (fun j => o.2 8 j (by omega) (by omega) (by omega)) (fun j => o.2 11 j (by omega) (by omega) (by omega)) v
def FL (s : gx_S) : Prop := (∀ j, j < 72 → (s.1 7 j = 0 ∨ s.1 7 j = 1) ∧ (s.1 8 j = 0 ∨ s.1 8 j = 1)) ∧ (∀ c, c < 9 → 0 ≤ s.1 9 c ∧ s.1 9 c ≤ s.1 10 c ∧ s.1 10 c ≤ 9 ∧ 0 ≤ s.1 11 c ∧ s.1 11 c ≤ s.1 10 c) ∧ ∀ c, c < 9 → ph s (8 + c) = 0
def MF (s : gx_S) : Prop := ∀ j, j < 72 → s.1 8 j ≤ s.1 7 j
theorem FL_RG {s : gx_S} (F : FL s) : RG s := ⟨F.1, fun c hc => by
  have := F.2.1 c hc
  unfold i32
  omega⟩
theorem FL_oth {s t : gx_S} (o : oth s t) (F : FL s) : FL t := by
  refine ⟨fun j hj => ?_, fun c hc => ?_, fun c hc => ?_⟩
  · rw [o.2 7 _ (by omega) (by omega) (by omega), o.2 8 _ (by omega) (by omega) (by omega)]
    exact F.1 j hj
  · rw [o.2 9 _ (by omega) (by omega) (by omega), o.2 10 _ (by omega) (by omega) (by omega), o.2 11 _ (by omega) (by omega) (by omega)]
    exact F.2.1 c hc
  · rw [ph_oth o]
    exact F.2.2 c hc
theorem MF_oth {s t : gx_S} (o : oth s t) (M : MF s) : MF t := fun j hj => by
  rw [o.2 7 _ (by omega) (by omega) (by omega), o.2 8 _ (by omega) (by omega) (by omega)]
  exact M j hj
theorem FL_tn {s t : gx_S} (a : tn s t) (F : FL s) (h : ∀ c, c < 9 → ph t (8 + c) = 0) : FL t := by
  refine ⟨fun j hj => ?_, fun c hc => ?_, h⟩
  · rw [a.2.1 7 _ (by omega) (by omega)]
    have x := F.1 j hj
    have y := a.2.2.1 j hj
    omega
  · rw [a.2.1 9 _ (by omega) (by omega), a.2.1 10 _ (by omega) (by omega)]
    have x := F.2.1 c hc
    have y := a.2.2.2 c hc
    omega
theorem MF_tn {s t : gx_S} (a : tn s t) (F : FL s) (M : MF s) : MF t := fun j hj => by
  rw [a.2.1 7 _ (by omega) (by omega)]
  have x := F.1 j hj
  have y := a.2.2.1 j hj
  have z := M j hj
  omega
theorem sg_lt {f g : Nat → Int} {n i : Nat} (h : ∀ k, k < n → f k ≤ g k) (hi : i < n) (hp : f i < g i) : sg f n < sg g n := by
  have a := sg_le (f := fun k => f k + if k = i then 1 else 0) (g := g) (n := n) fun k hk => by
    show f k + (if k = i then 1 else 0) ≤ g k
    by_cases e : k = i
    · rw [if_pos e, e]; omega
    · rw [if_neg e]; have := h k hk; omega
  have b := sg_upd (f := fun _ => 0) (g := fun c => if c = i then 1 else 0) (i := i) (x := 1) (by show (if i = i then 1 else 0) = 0 + 1; rw [if_pos rfl]; omega) (fun c hc => if_neg hc) hi
  rw [sg_add, b, sg_0 (f := fun _ => 0) fun _ _ => rfl] at a
  omega
/-- no cut of the free entries is too narrow for the rows' numbers -/
def CA (s : gx_S) (W : Nat → Int) : Prop := ∀ R C : Nat → Bool, sg (fun r => if R r = true then W r else 0) 8 ≤ sg (fun c => if C c = true then s.1 10 c else 0) 9 + sg (fun r => sg (fun c => if R r = true ∧ C c = false then s.1 7 (9 * r + c) else 0) 9) 8
/-- nor for the columns' least -/
def CB (s : gx_S) (W : Nat → Int) : Prop := ∀ R C : Nat → Bool, sg (fun c => if C c = false then s.1 9 c else 0) 9 ≤ sg (fun r => sg (fun c => if R r = true ∧ C c = false then s.1 7 (9 * r + c) else 0) 9) 8 + sg (fun r => if R r = false then W r else 0) 8
theorem CA_scr {s t : gx_S} {W : Nat → Int} (o : scr s t) (h : CA s W) : CA t W := fun R C => by
  have := h R C
  have z7 : ∀ j, t.1 7 j = s.1 7 j := fun j => o.2 7 j (by omega) (by omega) (by omega) (by omega) (by omega)
  have z10 : ∀ j, t.1 10 j = s.1 10 j := fun j => o.2 10 j (by omega) (by omega) (by omega) (by omega) (by omega)
  simp only [z7, z10]
  exact this
theorem CB_scr {s t : gx_S} {W : Nat → Int} (o : scr s t) (h : CB s W) : CB t W := fun R C => by
  have := h R C
  have z7 : ∀ j, t.1 7 j = s.1 7 j := fun j => o.2 7 j (by omega) (by omega) (by omega) (by omega) (by omega)
  have z9 : ∀ j, t.1 9 j = s.1 9 j := fun j => o.2 9 j (by omega) (by omega) (by omega) (by omega) (by omega)
  simp only [z7, z9]
  exact this
/-- what the found nodes' cut looks like, where nothing more is reached -/
theorem clo_cut {s t : gx_S} (F : FL s) (M : MF s) (cl : ∀ u v : Nat, u < 18 → t.1 12 u ≠ -1 → arc s u v → t.1 12 v ≠ -1) : sg (fun c => if decide (t.1 12 (8 + c) ≠ -1) = true then s.1 11 c else 0) 9 + sg (fun r => sg (fun c => if decide (t.1 12 r ≠ -1) = true ∧ decide (t.1 12 (8 + c) ≠ -1) = false then s.1 7 (9 * r + c) else 0) 9) 8 = sg (fun r => if decide (t.1 12 r ≠ -1) = true then ph s r else 0) 8 := by
  have a := cut_id (fun r c => s.1 8 (9 * r + c)) (fun r => decide (t.1 12 r ≠ -1)) (fun c => decide (t.1 12 (8 + c) ≠ -1)) 8 9
  have e1 : sg (fun r => sg (fun c => if decide (t.1 12 r ≠ -1) = false ∧ decide (t.1 12 (8 + c) ≠ -1) = true then s.1 8 (9 * r + c) else 0) 9) 8 = 0 := sg_0 fun r hr => sg_0 fun c hc => by
    show (if _ then _ else _) = (0 : Int)
    split
    · rename_i h
      have h1 := of_decide_eq_false h.1
      have h2 := of_decide_eq_true h.2
      rcases (F.1 (9 * r + c) (by omega)).2 with h3 | h3
      · exact h3
      · refine absurd (cl (8 + c) r (by omega) h2 (.inr (.inl ⟨by omega, by omega, hr, ?_, ?_⟩))) h1
        · have := M (9 * r + c) (by omega)
          have := (F.1 (9 * r + c) (by omega)).1
          rw [show 8 + c - 8 = c by omega]
          omega
        · rw [show 8 + c - 8 = c by omega]
          exact h3
    · rfl
  have e2 : sg (fun r => sg (fun c => if decide (t.1 12 r ≠ -1) = true ∧ decide (t.1 12 (8 + c) ≠ -1) = false then s.1 8 (9 * r + c) else 0) 9) 8 = sg (fun r => sg (fun c => if decide (t.1 12 r ≠ -1) = true ∧ decide (t.1 12 (8 + c) ≠ -1) = false then s.1 7 (9 * r + c) else 0) 9) 8 := sg_eq fun r hr => sg_eq fun c hc => by
    show (if _ then _ else _) = (if _ then _ else (0 : Int))
    split
    · rename_i h
      have h1 := of_decide_eq_true h.1
      have h2 := of_decide_eq_false h.2
      have m := M (9 * r + c) (by omega)
      have f := F.1 (9 * r + c) (by omega)
      by_cases h3 : s.1 7 (9 * r + c) = 1
      · by_cases h4 : s.1 8 (9 * r + c) = 0
        · refine absurd (cl r (8 + c) (by omega) h1 (.inl ⟨hr, by omega, by omega, ?_, ?_⟩)) h2
          · rw [show 8 + c - 8 = c by omega]
            exact h3
          · rw [show 8 + c - 8 = c by omega]
            exact h4
        · omega
      · omega
    · rfl
  have e3 : sg (fun c => if decide (t.1 12 (8 + c) ≠ -1) = true then sg (fun r => s.1 8 (9 * r + c)) 8 else 0) 9 = sg (fun c => if decide (t.1 12 (8 + c) ≠ -1) = true then s.1 11 c else 0) 9 := sg_eq fun c hc => by
    show (if _ then _ else _) = (if _ then _ else (0 : Int))
    split
    · have := F.2.2 c hc
      rw [ph_c hc] at this
      omega
    · rfl
  have e4 : sg (fun r => if decide (t.1 12 r ≠ -1) = true then sg (fun c => s.1 8 (9 * r + c)) 9 else 0) 8 = sg (fun r => if decide (t.1 12 r ≠ -1) = true then ph s r else 0) 8 := sg_eq fun r hr => by
    show (if _ then _ else _) = (if _ then _ else (0 : Int))
    rw [ph_r hr]
  rw [e1, e2, e3, e4] at a
  omega
/-- a row that has too few gets one more -/
theorem way_row {s : gx_S} {row : Nat} {W : Nat → Int} (F : FL s) (M : MF s) (hA : CA s W) (hW : ∀ r, r < 8 → ph s r ≤ W r) (hr : row < 8) (hlt : ph s row < W row) : ∃ t u : gx_S, gm_46 row 17 s = some (true, t) ∧ gm_51 row 17 t = some u ∧ FL u ∧ MF u ∧ scr s u ∧ ∀ r, r < 8 → ph u r = ph s r + if r = row then 1 else 0 := by
  obtain ⟨t, q, b, t1, t2, t3, t4, t5, t6⟩ := sp_46 (st := row) (g := 17) (FL_RG F) (by omega) (by omega)
  cases b with
  | true =>
    obtain ⟨u, u1, u2, u3, u4⟩ := sp_51 t2 (g := 17) (by omega) (t5.mp rfl)
    refine ⟨t, u, t1, u1, FL_tn u2 (FL_oth t3 F) (fun c hc => ?_), MF_tn u2 (FL_oth t3 F) (MF_oth t3 M), scr_tr (oth_scr t3) (tn_scr u2), fun r h => ?_⟩
    · rw [u3 _ (by omega), ph_oth t3, F.2.2 c hc, if_neg (by omega), if_neg (by omega)]
      rfl
    · rw [u3 _ (by omega), ph_oth t3, if_neg (show ¬ r = 17 by omega)]
      omega
  | false =>
    exfalso
    have cl := t6 rfl
    have h17 : ¬ t.1 12 17 ≠ -1 := fun h => absurd (t5.mpr h) (by decide)
    have cc := clo_cut F M cl
    have a := hA (fun r => decide (t.1 12 r ≠ -1)) (fun c => decide (t.1 12 (8 + c) ≠ -1))
    have b := sg_le (f := fun c => if decide (t.1 12 (8 + c) ≠ -1) = true then s.1 10 c else 0) (g := fun c => if decide (t.1 12 (8 + c) ≠ -1) = true then s.1 11 c else 0) (n := 9) fun c hc => by
      show (if _ then _ else (0 : Int)) ≤ (if _ then _ else (0 : Int))
      split
      · rename_i h
        have h1 := of_decide_eq_true h
        by_cases h2 : s.1 11 c < s.1 10 c
        · exact absurd (cl (8 + c) 17 (by omega) h1 (.inr (.inr (.inl ⟨by omega, by omega, rfl, by rw [show 8 + c - 8 = c by omega]; exact h2⟩)))) h17
        · omega
      · omega
    have hrow : decide (t.1 12 row ≠ -1) = true := decide_eq_true (by rw [t4]; omega)
    have d := sg_lt (f := fun r => if decide (t.1 12 r ≠ -1) = true then ph s r else 0) (g := fun r => if decide (t.1 12 r ≠ -1) = true then W r else 0) (n := 8) (i := row) (fun r h => by
      show (if _ then _ else (0 : Int)) ≤ (if _ then _ else (0 : Int))
      split
      · exact hW r h
      · omega) hr (by
      show (if _ then _ else (0 : Int)) < (if _ then _ else (0 : Int))
      rw [if_pos hrow, if_pos hrow]
      exact hlt)
    omega
end
section
/-! THE CLASS's BALANCED TABLE: fillRow, fillColumn -/
theorem sl_43 {row : Nat} {W : Nat → Int} {w : Nat} (hr : row < 8) (hw : W row = w) (w9 : w ≤ 9) : ∀ (n k : Nat) (s : gx_S), FL s → MF s → CA s W → (∀ r, r < 8 → ph s r ≤ W r) → ph s row = k → k ≤ w → 9 < n + k → ∃ t : gx_S, gm_43_2 n row w k s = some t ∧ FL t ∧ MF t ∧ scr s t ∧ ph t row = w ∧ ∀ r, r < 8 → r ≠ row → ph t r = ph s r := by
  intro n
  induction n with
  | zero => intro k s F M hA hW hk kw hn; omega
  | succ n ih =>
    intro k s F M hA hW hk kw hn
    by_cases e : k = w
    · refine ⟨s, ?_, F, M, scr_rf s, by rw [hk, e], fun _ _ _ => rfl⟩
      rw [gm_43_2]
      simp (disch := omega) only [if_pos]
    · obtain ⟨t, u, t1, u1, F', M', o, p⟩ := way_row F M hA hW hr (by omega)
      obtain ⟨x, x1, x2, x3, x4, x5, x6⟩ := ih (k + 1) u F' M' (CA_scr o hA) (fun r h => by
        rw [p r h]
        have := hW r h
        by_cases er : r = row
        · rw [if_pos er, er]; omega
        · rw [if_neg er]; omega) (by rw [p row hr, if_pos rfl, hk]; omega) (by omega) (by omega)
      refine ⟨x, ?_, x2, x3, scr_tr o x4, x5, fun r h h' => by rw [x6 r h h', p r h, if_neg h']; omega⟩
      have i3 : ((k : Int) + 1) = ((k + 1 : Nat) : Int) := by omega
      rw [gm_43_2, t1]
      simp (disch := first | omega | decide) only [if_pos, if_neg, Option.bind_some, u1, gm_43_30, i3]
      exact x1
theorem sp_43 {s : gx_S} {row : Nat} {W : Nat → Int} {w : Nat} (F : FL s) (M : MF s) (hA : CA s W) (hW : ∀ r, r < 8 → ph s r ≤ W r) (hr : row < 8) (hw : W row = w) (w9 : w ≤ 9) (h0 : ph s row = 0) : ∃ t : gx_S, gm_43 row w s = some t ∧ FL t ∧ MF t ∧ scr s t ∧ ph t row = w ∧ ∀ r, r < 8 → r ≠ row → ph t r = ph s r := sl_43 hr hw w9 100000 0 s F M hA hW h0 (by omega) (by omega)
/-- a column that has too few gets one more, the rows' numbers stay -/
theorem way_col {s : gx_S} {col : Nat} {W : Nat → Int} (F : FL s) (M : MF s) (hB : CB s W) (hW : ∀ r, r < 8 → ph s r = W r) (hc : col < 9) (hlt : s.1 11 col < s.1 9 col) : ∃ t u : gx_S, gm_46 17 ((8 + col : Nat) : Int) s = some (true, t) ∧ gm_51 17 ((8 + col : Nat) : Int) t = some u ∧ u.1 11 col = s.1 11 col ∧ FL (gw1 u 11 col (u.1 11 col + 1)) ∧ MF (gw1 u 11 col (u.1 11 col + 1)) ∧ scr s (gw1 u 11 col (u.1 11 col + 1)) ∧ (∀ r, r < 8 → ph (gw1 u 11 col (u.1 11 col + 1)) r = W r) ∧ ∀ c, c < 9 → s.1 9 c ≤ s.1 11 c → s.1 9 c ≤ (gw1 u 11 col (u.1 11 col + 1)).1 11 c := by
  obtain ⟨t, q, b, t1, t2, t3, t4, t5, t6⟩ := sp_46 (st := 17) (g := 8 + col) (FL_RG F) (by omega) (by omega)
  cases b with
  | true =>
    obtain ⟨u, u1, u2, u3, u4⟩ := sp_51 t2 (g := 8 + col) (by omega) (t5.mp rfl)
    have y9 : ∀ j, t.1 9 j = s.1 9 j := fun j => t3.2 9 j (by omega) (by omega) (by omega)
    have y10 : ∀ j, t.1 10 j = s.1 10 j := fun j => t3.2 10 j (by omega) (by omega) (by omega)
    have y11 : ∀ j, t.1 11 j = s.1 11 j := fun j => t3.2 11 j (by omega) (by omega) (by omega)
    have z11 : u.1 11 col = s.1 11 col := (u4 col hc rfl (by rw [y9, y11]; omega)).trans (y11 col)
    have z9 : ∀ j, u.1 9 j = s.1 9 j := fun j => (u2.2.1 9 j (by omega) (by omega)).trans (y9 j)
    have z10 : ∀ j, u.1 10 j = s.1 10 j := fun j => (u2.2.1 10 j (by omega) (by omega)).trans (y10 j)
    have p : ∀ v, v < 18 → ph (gw1 u 11 col (u.1 11 col + 1)) v = ph s v := fun v hv => by
      rw [ph_w11 (d := 1) hc rfl hv, u3 v hv, ph_oth t3]
      split <;> split <;> omega
    have fc := F.2.1 col hc
    have g : ∀ k j, k ≠ 11 → (gw1 u 11 col (u.1 11 col + 1)).1 k j = u.1 k j := fun k j h => by rw [gw1_1, if_neg (fun x => h x.1)]
    have Fo := FL_oth t3 F
    have Mu := MF_tn u2 Fo (MF_oth t3 M)
    refine ⟨t, u, t1, u1, z11, ⟨fun j hj => ?_, fun c h => ?_, fun c h => by rw [p _ (by omega)]; exact F.2.2 c h⟩, fun j hj => ?_, scr_tr (scr_tr (oth_scr t3) (tn_scr u2)) ⟨rfl, fun k j _ h2 _ _ _ => g k j h2⟩, fun r h => by rw [p r (by omega)]; exact hW r h, fun c h h' => ?_⟩
    · rw [g 7 j (by omega), g 8 j (by omega), u2.2.1 7 j (by omega) (by omega)]
      have x := Fo.1 j hj
      have y := u2.2.2.1 j hj
      omega
    · rw [g 9 c (by omega), g 10 c (by omega), z9, z10, gw1_1]
      have x := F.2.1 c h
      have y := u2.2.2.2 c h
      rw [y9, y10, y11] at y
      by_cases e : c = col
      · rw [if_pos ⟨rfl, e⟩, z11, e]
        omega
      · rw [if_neg (fun x => e x.2)]
        omega
    · rw [g 7 j (by omega), g 8 j (by omega)]
      exact Mu j hj
    · rw [gw1_1]
      have y := u2.2.2.2 c h
      rw [y9, y10, y11] at y
      by_cases e : c = col
      · rw [e] at h'
        omega
      · rw [if_neg (fun x => e x.2)]
        omega
  | false =>
    exfalso
    have cl := t6 rfl
    have hg : ¬ t.1 12 (8 + col) ≠ -1 := fun h => absurd (t5.mpr h) (by decide)
    have h17 : t.1 12 17 ≠ -1 := by rw [t4]; omega
    have cc := clo_cut F M cl
    have a := hB (fun r => decide (t.1 12 r ≠ -1)) (fun c => decide (t.1 12 (8 + c) ≠ -1))
    have hcol : decide (t.1 12 (8 + col) ≠ -1) = false := decide_eq_false hg
    have d := sg_lt (f := fun c => if decide (t.1 12 (8 + c) ≠ -1) = false then s.1 11 c else 0) (g := fun c => if decide (t.1 12 (8 + c) ≠ -1) = false then s.1 9 c else 0) (n := 9) (i := col) (fun c h => by
      show (if _ then _ else (0 : Int)) ≤ (if _ then _ else (0 : Int))
      split
      · rename_i h1
        have h1 := of_decide_eq_false h1
        by_cases h2 : s.1 9 c < s.1 11 c
        · exact absurd (cl 17 (8 + c) (by omega) h17 (.inr (.inr (.inr ⟨rfl, by omega, by omega, by rw [show 8 + c - 8 = c by omega]; exact h2⟩)))) h1
        · omega
      · omega) hc (by
      show (if _ then _ else (0 : Int)) < (if _ then _ else (0 : Int))
      rw [if_pos hcol, if_pos hcol]
      exact hlt)
    have tot : sg (fun c => s.1 11 c) 9 = sg (fun r => W r) 8 := by
      rw [sg_eq (f := fun c => s.1 11 c) (g := fun c => sg (fun r => s.1 8 (9 * r + c)) 8) fun c h => by
        have := F.2.2 c h
        rw [ph_c h] at this
        show s.1 11 c = _
        omega, ← sg_swap (fun r c => s.1 8 (9 * r + c)) 9 8]
      exact sg_eq fun r h => by
        have := hW r h
        rw [ph_r h] at this
        exact this
    have spc : ∀ (b : Nat → Bool) (f : Nat → Int) (n : Nat), sg (fun c => if b c = true then f c else 0) n + sg (fun c => if b c = false then f c else 0) n = sg f n := fun b f n => by
      rw [← sg_add]
      exact sg_eq fun c _ => by
        show (if _ then _ else (0 : Int)) + (if _ then _ else (0 : Int)) = _
        cases b c with
        | true => rw [if_pos rfl, if_neg (by decide)]; omega
        | false => rw [if_neg (by decide), if_pos rfl]; omega
    have s1 := spc (fun c => decide (t.1 12 (8 + c) ≠ -1)) (fun c => s.1 11 c) 9
    have s2 := spc (fun r => decide (t.1 12 r ≠ -1)) (fun r => W r) 8
    have s3 : sg (fun r => if decide (t.1 12 r ≠ -1) = true then ph s r else 0) 8 = sg (fun r => if decide (t.1 12 r ≠ -1) = true then W r else 0) 8 := sg_eq fun r h => by
      show (if _ then _ else (0 : Int)) = (if _ then _ else (0 : Int))
      rw [hW r h]
    rw [s3] at cc
    omega
theorem sl_44 {col : Nat} {W : Nat → Int} (hc : col < 9) : ∀ (n k : Nat) (s : gx_S), FL s → MF s → CB s W → (∀ r, r < 8 → ph s r = W r) → (k : Int) ≤ s.1 11 col → s.1 9 col ≤ 8 → 9 < n + k → ∃ t : gx_S, gm_44_2 n col k s = some t ∧ FL t ∧ MF t ∧ scr s t ∧ (∀ r, r < 8 → ph t r = W r) ∧ s.1 9 col ≤ t.1 11 col ∧ ∀ c, c < 9 → s.1 9 c ≤ s.1 11 c → s.1 9 c ≤ t.1 11 c := by
  intro n
  induction n with
  | zero =>
    intro k s F M hB hW hk h8 hn
    have := F.2.1 col hc
    omega
  | succ n ih =>
    intro k s F M hB hW hk h8 hn
    have fc := F.2.1 col hc
    have i5 : ((col : Int)).toNat = col := by omega
    by_cases e : s.1 9 col ≤ s.1 11 col
    · refine ⟨s, ?_, F, M, scr_rf s, hW, e, fun _ _ h => h⟩
      rw [gm_44_2, i5]
      by_cases h : 8 ≤ (k : Int)
      · simp (disch := omega) only [if_pos]
      · simp (disch := omega) only [if_pos, if_neg]
    · obtain ⟨t, u, t1, u1, z, F', M', o, p, r⟩ := way_col F M hB hW hc (by omega)
      have i9 : (gw1 u 11 col (u.1 11 col + 1)).1 9 col = s.1 9 col := o.2 9 col (by omega) (by omega) (by omega) (by omega) (by omega)
      have i11 : (gw1 u 11 col (u.1 11 col + 1)).1 11 col = s.1 11 col + 1 := by rw [gw1_1, if_pos ⟨rfl, rfl⟩, z]
      obtain ⟨x, x1, x2, x3, x4, x5, x6, x7⟩ := ih (k + 1) _ F' M' (CB_scr o hB) p (by rw [i11]; omega) (by rw [i9]; exact h8) (by omega)
      rw [i9] at x6
      refine ⟨x, ?_, x2, x3, scr_tr o x4, x5, x6, fun c h h' => ?_⟩
      · have i3 : ((k : Int) + 1) = ((k + 1 : Nat) : Int) := by omega
        have i2 : (8 : Int) + col = ((8 + col : Nat) : Int) := by omega
        rw [gm_44_2, i5, i2, t1]
        simp (disch := first | omega | decide) only [if_pos, if_neg, Option.bind_some, u1, gm_44_56, i3]
        exact x1
      · have i9' : (gw1 u 11 col (u.1 11 col + 1)).1 9 c = s.1 9 c := o.2 9 c (by omega) (by omega) (by omega) (by omega) (by omega)
        have := x7 c h (by rw [i9']; exact r c h h')
        rw [i9'] at this
        exact this
theorem sp_44 {s : gx_S} {col : Nat} {W : Nat → Int} (F : FL s) (M : MF s) (hB : CB s W) (hW : ∀ r, r < 8 → ph s r = W r) (hc : col < 9) (h8 : s.1 9 col ≤ 8) : ∃ t : gx_S, gm_44 col s = some t ∧ FL t ∧ MF t ∧ scr s t ∧ (∀ r, r < 8 → ph t r = W r) ∧ s.1 9 col ≤ t.1 11 col ∧ ∀ c, c < 9 → s.1 9 c ≤ s.1 11 c → s.1 9 c ≤ t.1 11 c := sl_44 hc 100000 0 s F M hB hW (F.2.1 col hc).2.2.2.1 h8 (by omega)
end
section
/-! THE CLASS's BALANCED TABLE: fix; what is fixed is the first of all that come right -/
/-- T comes right: free entries' ones, the rows' numbers W, the columns' between L and O -/
def FE (L O F0 W T : Nat → Int) : Prop := (∀ i, i < 72 → (T i = 0 ∨ T i = 1) ∧ T i ≤ F0 i) ∧ (∀ r, r < 8 → sg (fun c => T (9 * r + c)) 9 = W r) ∧ ∀ c, c < 9 → L c ≤ sg (fun r => T (9 * r + c)) 8 ∧ sg (fun r => T (9 * r + c)) 8 ≤ O c
def FX (L O F0 W : Nat → Int) (s : gx_S) (e : Nat) : Prop := FL s ∧ (∀ c, c < 9 → s.1 9 c = L c ∧ s.1 10 c = O c ∧ L c ≤ s.1 11 c) ∧ (∀ r, r < 8 → ph s r = W r) ∧ (∀ i, i < 72 → s.1 8 i ≤ F0 i) ∧ (∀ i, i < 72 → e ≤ i → s.1 7 i = F0 i) ∧ (∀ i, i < 72 → i < e → s.1 7 i = 0) ∧ ∀ T, FE L O F0 W T → ∀ j, j < 72 → j < e → (∀ i, i < j → T i = s.1 8 i) → T j ≤ s.1 8 j
/-- an entry that isn't free is fixed as it is -/
theorem FX_skip {L O F0 W : Nat → Int} {s : gx_S} {e : Nat} (X : FX L O F0 W s e) (he : e < 72) (h0 : s.1 7 e = 0) : FX L O F0 W s (e + 1) := by
  obtain ⟨x1, x2, x3, x4, x5, x6, x7⟩ := X
  refine ⟨x1, x2, x3, x4, fun i hi h => x5 i hi (by omega), fun i hi h => ?_, fun T hT j hj h hi => ?_⟩
  · by_cases q : i = e
    · rw [q]; exact h0
    · exact x6 i hi (by omega)
  · by_cases q : j = e
    · have a := (hT.1 e he).2
      have b := x5 e he (Nat.le_refl e)
      have c := (x1.1 e he).2
      rw [q]
      omega
    · exact x7 T hT j hj (by omega) hi
/-- all but the search's own cells, free, more and come stay -/
def sc7 (s t : gx_S) : Prop := t.2 = s.2 ∧ ∀ k j, k ≠ 7 → k ≠ 8 → k ≠ 11 → k ≠ 12 → k ≠ 13 → ¬ (k = 6 ∧ j = 7) → t.1 k j = s.1 k j
theorem sc7_rf (s : gx_S) : sc7 s s := ⟨rfl, fun _ _ _ _ _ _ _ _ => rfl⟩
theorem sc7_tr {s t u : gx_S} (a : sc7 s t) (b : sc7 t u) : sc7 s u := ⟨b.1.trans a.1, fun k j h0 h1 h2 h3 h4 h5 => (b.2 k j h0 h1 h2 h3 h4 h5).trans (a.2 k j h0 h1 h2 h3 h4 h5)⟩
theorem scr_sc7 {s t : gx_S} (a : scr s t) : sc7 s t := ⟨a.1, fun k j _ h1 h2 h3 h4 h5 => a.2 k j h1 h2 h3 h4 h5⟩
theorem sp_45 {L O F0 W : Nat → Int} {s : gx_S} {e : Nat} (X : FX L O F0 W s e) (he : e < 72) (hf : s.1 7 e = 1) : ∃ t : gx_S, gm_45 e s = some t ∧ FX L O F0 W t (e + 1) ∧ sc7 s t ∧ ∀ i, i < e → t.1 8 i = s.1 8 i := by
  obtain ⟨x1, x2, x3, x4, x5, x6, x7⟩ := id X
  obtain ⟨r0, c0, hr, hc, rfl⟩ : ∃ r0 c0, r0 < 8 ∧ c0 < 9 ∧ e = 9 * r0 + c0 := ⟨e / 9, e % 9, by omega, by omega, by omega⟩
  have i1 : (((9 * r0 + c0 : Nat) : Int)).toNat = 9 * r0 + c0 := by omega
  have i2 : (8 : Int) + ((9 * r0 + c0 : Nat) : Int) % 9 = ((8 + c0 : Nat) : Int) := by omega
  have i3 : ((9 * r0 + c0 : Nat) : Int) / 9 = (r0 : Int) := by omega
  have g : ∀ k j, k ≠ 7 → (gw1 s 7 (9 * r0 + c0) 0).1 k j = s.1 k j := fun k j h => by rw [gw1_1, if_neg (fun x => h x.1)]
  have g7 : ∀ j, (gw1 s 7 (9 * r0 + c0) 0).1 7 j = if j = 9 * r0 + c0 then 0 else s.1 7 j := fun j => by
    rw [gw1_1]
    by_cases q : j = 9 * r0 + c0
    · rw [if_pos ⟨rfl, q⟩, if_pos q]
    · rw [if_neg (fun h => q h.2), if_neg q]
  have pg : ∀ v, ph (gw1 s 7 (9 * r0 + c0) 0) v = ph s v := fun v => ph_eq (fun j => g 8 j (by omega)) (fun j => g 11 j (by omega)) v
  have F0' : FL (gw1 s 7 (9 * r0 + c0) 0) := by
    refine ⟨fun j hj => ?_, fun c h => ?_, fun c h => by rw [pg]; exact x1.2.2 c h⟩
    · rw [g7, g 8 j (by omega)]
      have := x1.1 j hj
      split <;> omega
    · rw [g 9 c (by omega), g 10 c (by omega), g 11 c (by omega)]
      exact x1.2.1 c h
  have o7 : sc7 s (gw1 s 7 (9 * r0 + c0) 0) := ⟨rfl, fun k j h _ _ _ _ _ => g k j h⟩
  have q01 := (x1.1 (9 * r0 + c0) he).2
  have m1 : 1 ≤ F0 (9 * r0 + c0) := by rw [← x5 _ he (Nat.le_refl _), hf]; omega
  unfold gm_45
  rw [i1, i2, i3, g 8 (9 * r0 + c0) (by omega)]
  by_cases h8 : s.1 8 (9 * r0 + c0) = 0
  · obtain ⟨t, q, b, t1, t2, t3, t4, t5, t6⟩ := sp_46 (st := 8 + c0) (g := r0) (FL_RG F0') (by omega) (by omega)
    have y7 : ∀ j, t.1 7 j = if j = 9 * r0 + c0 then 0 else s.1 7 j := fun j => (t3.2 7 j (by omega) (by omega) (by omega)).trans (g7 j)
    have y8 : ∀ j, t.1 8 j = s.1 8 j := fun j => (t3.2 8 j (by omega) (by omega) (by omega)).trans (g 8 j (by omega))
    have y9 : ∀ j, t.1 9 j = s.1 9 j := fun j => (t3.2 9 j (by omega) (by omega) (by omega)).trans (g 9 j (by omega))
    have y10 : ∀ j, t.1 10 j = s.1 10 j := fun j => (t3.2 10 j (by omega) (by omega) (by omega)).trans (g 10 j (by omega))
    have y11 : ∀ j, t.1 11 j = s.1 11 j := fun j => (t3.2 11 j (by omega) (by omega) (by omega)).trans (g 11 j (by omega))
    have pt : ∀ v, ph t v = ph s v := fun v => (ph_oth t3 v).trans (pg v)
    have Ft := FL_oth t3 F0'
    have ot : sc7 s t := sc7_tr o7 (scr_sc7 (oth_scr t3))
    cases b with
    | true =>
      obtain ⟨u, u1, u2, u3, u4⟩ := sp_51 t2 (g := r0) (by omega) (t5.mp rfl)
      have z8 : ∀ i, i < 72 → i ≤ 9 * r0 + c0 → u.1 8 i = s.1 8 i := fun i hi h => by
        have a := u2.2.2.1 i hi
        rw [y7, y8] at a
        by_cases q : i = 9 * r0 + c0
        · rw [if_pos q] at a
          omega
        · rw [if_neg q, x6 i hi (by omega)] at a
          omega
      have zu : (1 : Int) = u.1 8 (9 * r0 + c0) + 1 := by rw [z8 _ he (Nat.le_refl _), h8]; rfl
      have pu : ∀ v, v < 18 → ph (gw1 u 8 (9 * r0 + c0) 1) v = ph s v := fun v hv => by
        rw [ph_w8 (d := 1) hr hc zu v, u3 v hv, pt]
        split <;> split <;> omega
      have k : ∀ k j, k ≠ 8 → (gw1 u 8 (9 * r0 + c0) 1).1 k j = u.1 k j := fun k j h => by rw [gw1_1, if_neg (fun x => h x.1)]
      have k8 : ∀ j, (gw1 u 8 (9 * r0 + c0) 1).1 8 j = if j = 9 * r0 + c0 then 1 else u.1 8 j := fun j => by
        rw [gw1_1]
        by_cases q : j = 9 * r0 + c0
        · rw [if_pos ⟨rfl, q⟩, if_pos q]
        · rw [if_neg (fun h => q h.2), if_neg q]
      have w7 : ∀ j, (gw1 u 8 (9 * r0 + c0) 1).1 7 j = if j = 9 * r0 + c0 then 0 else s.1 7 j := fun j => by
        rw [k 7 j (by omega), u2.2.1 7 j (by omega) (by omega), y7]
      have w9 : ∀ j, (gw1 u 8 (9 * r0 + c0) 1).1 9 j = s.1 9 j := fun j => by
        rw [k 9 j (by omega), u2.2.1 9 j (by omega) (by omega), y9]
      have w10 : ∀ j, (gw1 u 8 (9 * r0 + c0) 1).1 10 j = s.1 10 j := fun j => by
        rw [k 10 j (by omega), u2.2.1 10 j (by omega) (by omega), y10]
      have w11 : ∀ c, c < 9 → L c ≤ (gw1 u 8 (9 * r0 + c0) 1).1 11 c ∧ (gw1 u 8 (9 * r0 + c0) 1).1 11 c ≤ O c := fun c h => by
        rw [k 11 c (by omega)]
        have a := u2.2.2.2 c h
        rw [y9, y10, y11] at a
        have b := x2 c h
        have d := x1.2.1 c h
        omega
      have w8 : ∀ j, j < 72 → (gw1 u 8 (9 * r0 + c0) 1).1 8 j = s.1 8 j ∨ (s.1 7 j = 1 ∧ ((gw1 u 8 (9 * r0 + c0) 1).1 8 j = 0 ∨ (gw1 u 8 (9 * r0 + c0) 1).1 8 j = 1)) := fun j hj => by
        rw [k8]
        by_cases q : j = 9 * r0 + c0
        · rw [if_pos q, q]
          exact .inr ⟨hf, .inr rfl⟩
        · have a := u2.2.2.1 j hj
          rw [y7, y8, if_neg q] at a
          rw [if_neg q]
          exact a
      have w8e : ∀ i, i < 9 * r0 + c0 → (gw1 u 8 (9 * r0 + c0) 1).1 8 i = s.1 8 i := fun i h => by
        rw [k8, if_neg (by omega)]
        exact z8 i (by omega) (by omega)
      refine ⟨gw1 u 8 (9 * r0 + c0) 1, ?_, ⟨⟨fun j hj => ?_, fun c h => ?_, fun c h => by rw [pu _ (by omega)]; exact x1.2.2 c h⟩, fun c h => ?_, fun r h => by rw [pu _ (by omega)]; exact x3 r h, fun i hi => ?_, fun i hi h => ?_, fun i hi h => ?_, fun T hT j hj h hi => ?_⟩, sc7_tr ot (sc7_tr (scr_sc7 (tn_scr u2)) ⟨rfl, fun a b _ h1 _ _ _ _ => k a b h1⟩), w8e⟩
      · rw [h8, t1]
        simp (disch := first | omega | decide) only [if_pos, if_neg, Option.bind_some, u1]
      · have a := w8 j hj
        have b := x1.1 j hj
        refine ⟨?_, by omega⟩
        rw [w7]
        split
        · exact .inl rfl
        · exact b.1
      · have a := w11 c h
        have b := x2 c h
        have d := x1.2.1 c h
        rw [w9, w10]
        omega
      · have a := w11 c h
        have b := x2 c h
        rw [w9, w10]
        exact ⟨b.1, b.2.1, a.1⟩
      · have a := w8 i hi
        have b := x4 i hi
        by_cases q : i < 9 * r0 + c0
        · rw [w8e i q]
          exact b
        · have := x5 i hi (by omega)
          omega
      · rw [w7, if_neg (by omega)]
        exact x5 i hi (by omega)
      · rw [w7]
        split
        · rfl
        · exact x6 i hi (by omega)
      · by_cases q : j = 9 * r0 + c0
        · have a := (hT.1 j hj).1
          rw [k8, if_pos q]
          omega
        · rw [w8e j (by omega)]
          exact x7 T hT j hj (by omega) fun i h' => by rw [hi i h', w8e i (by omega)]
    | false =>
      have cl := t6 rfl
      have hg : ¬ t.1 12 r0 ≠ -1 := fun h => absurd (t5.mpr h) (by decide)
      have a7 : ∀ j, j ≠ 9 * r0 + c0 → (gw1 s 7 (9 * r0 + c0) 0).1 7 j = s.1 7 j := fun j h => by rw [g7, if_neg h]
      refine ⟨t, ?_, ⟨Ft, fun c h => ?_, fun r h => by rw [pt]; exact x3 r h, fun i hi => by rw [y8]; exact x4 i hi, fun i hi h => ?_, fun i hi h => ?_, fun T hT j hj h hi => ?_⟩, ot, fun i _ => y8 i⟩
      · rw [h8, t1]
        simp (disch := first | omega | decide) only [if_pos, if_neg, Option.bind_some]
      · rw [y9, y10, y11]
        exact x2 c h
      · rw [y7, if_neg (by omega)]
        exact x5 i hi (by omega)
      · rw [y7]
        split
        · rfl
        · exact x6 i hi (by omega)
      · rw [y8]
        have hi' : ∀ i, i < j → T i = s.1 8 i := fun i h => by rw [hi i h, y8]
        by_cases q : j = 9 * r0 + c0
        · subst q
          have z := cut_hub (y := fun r c => T (9 * r + c) - s.1 8 (9 * r + c)) (k := fun c => sg (fun r => T (9 * r + c)) 8 - s.1 11 c) (R := fun r => decide (t.1 12 r ≠ -1)) (C := fun c => decide (t.1 12 (8 + c) ≠ -1)) (hub := decide (t.1 12 17 ≠ -1)) (m := 8) (n := 9) (fun r h => by
            have a := hT.2.1 r h
            have b := x3 r h
            rw [ph_r h] at b
            have d := sg_add (fun c => T (9 * r + c)) (fun c => - s.1 8 (9 * r + c)) 9
            rw [sg_neg] at d
            have f : sg (fun c => T (9 * r + c) - s.1 8 (9 * r + c)) 9 = sg (fun c => T (9 * r + c) + - s.1 8 (9 * r + c)) 9 := sg_eq fun c _ => by omega
            show sg (fun c => T (9 * r + c) - s.1 8 (9 * r + c)) 9 = 0
            omega) (fun c h => by
            have b := x1.2.2 c h
            rw [ph_c h] at b
            have d := sg_add (fun r => T (9 * r + c)) (fun r => - s.1 8 (9 * r + c)) 8
            rw [sg_neg] at d
            have f : sg (fun r => T (9 * r + c) - s.1 8 (9 * r + c)) 8 = sg (fun r => T (9 * r + c) + - s.1 8 (9 * r + c)) 8 := sg_eq fun c _ => by omega
            show sg (fun r => T (9 * r + c) - s.1 8 (9 * r + c)) 8 = sg (fun r => T (9 * r + c)) 8 - s.1 11 c
            omega) (fun r c h1 h2 h3 h4 => by
            have h3 := of_decide_eq_true h3
            have h4 := of_decide_eq_false h4
            show T (9 * r + c) - s.1 8 (9 * r + c) ≤ 0
            have e1 := hT.1 (9 * r + c) (by omega)
            have e2 := x1.1 (9 * r + c) (by omega)
            have ne : 9 * r + c ≠ 9 * r0 + c0 := fun h => by
              have : r = r0 := by omega
              rw [this] at h3
              exact hg h3
            by_cases e3 : 9 * r + c < 9 * r0 + c0
            · have := hi' _ e3
              omega
            · have e4 := x5 (9 * r + c) (by omega) (by omega)
              by_cases e5 : s.1 7 (9 * r + c) = 1
              · by_cases e6 : s.1 8 (9 * r + c) = 0
                · refine absurd (cl r (8 + c) (by omega) h3 (.inl ⟨h1, by omega, by omega, ?_, ?_⟩)) h4
                  · rw [show 8 + c - 8 = c by omega, a7 _ ne]
                    exact e5
                  · rw [show 8 + c - 8 = c by omega, g 8 _ (by omega)]
                    exact e6
                · omega
              · omega) (fun r c h1 h2 h3 h4 => by
            have h3 := of_decide_eq_false h3
            have h4 := of_decide_eq_true h4
            show 0 ≤ T (9 * r + c) - s.1 8 (9 * r + c)
            have e1 := hT.1 (9 * r + c) (by omega)
            have e2 := x1.1 (9 * r + c) (by omega)
            by_cases ne : 9 * r + c = 9 * r0 + c0
            · rw [ne] at e1
              rw [ne, h8]
              omega
            · by_cases e3 : 9 * r + c < 9 * r0 + c0
              · have := hi' _ e3
                omega
              · have e4 := x5 (9 * r + c) (by omega) (by omega)
                have e7 := x4 (9 * r + c) (by omega)
                by_cases e6 : s.1 8 (9 * r + c) = 1
                · refine absurd (cl (8 + c) r (by omega) h4 (.inr (.inl ⟨by omega, by omega, h1, ?_, ?_⟩))) h3
                  · rw [show 8 + c - 8 = c by omega, a7 _ ne]
                    omega
                  · rw [show 8 + c - 8 = c by omega, g 8 _ (by omega)]
                    exact e6
                · omega) (fun hh c h h4 => by
            have hh := of_decide_eq_false hh
            have h4 := of_decide_eq_true h4
            have a := (hT.2.2 c h).2
            have b := x2 c h
            show sg (fun r => T (9 * r + c)) 8 - s.1 11 c ≤ 0
            by_cases e6 : s.1 11 c < s.1 10 c
            · refine absurd (cl (8 + c) 17 (by omega) h4 (.inr (.inr (.inl ⟨by omega, by omega, rfl, ?_⟩)))) hh
              rw [show 8 + c - 8 = c by omega, g 11 _ (by omega), g 10 _ (by omega)]
              exact e6
            · omega) (fun hh c h h4 => by
            have hh := of_decide_eq_true hh
            have h4 := of_decide_eq_false h4
            have a := (hT.2.2 c h).1
            have b := x2 c h
            show 0 ≤ sg (fun r => T (9 * r + c)) 8 - s.1 11 c
            by_cases e6 : s.1 9 c < s.1 11 c
            · refine absurd (cl 17 (8 + c) (by omega) hh (.inr (.inr (.inr ⟨rfl, by omega, by omega, ?_⟩)))) h4
              rw [show 8 + c - 8 = c by omega, g 11 _ (by omega), g 9 _ (by omega)]
              exact e6
            · omega) r0 c0 hr hc (decide_eq_false hg) (decide_eq_true (by rw [t4]; omega))
          omega
        · exact x7 T hT j hj (by omega) hi'
  · have m : s.1 8 (9 * r0 + c0) = 1 := by omega
    refine ⟨gw1 s 7 (9 * r0 + c0) 0, ?_, ⟨F0', fun c h => ?_, fun r h => by rw [pg]; exact x3 r h, fun i hi => by rw [g 8 i (by omega)]; exact x4 i hi, fun i hi h => ?_, fun i hi h => ?_, fun T hT j hj h hi => ?_⟩, o7, fun i _ => g 8 i (by omega)⟩
    · rw [m]
      simp (disch := omega) only [if_pos, if_neg]
    · rw [g 9 c (by omega), g 10 c (by omega), g 11 c (by omega)]
      exact x2 c h
    · rw [g7, if_neg (by omega)]
      exact x5 i hi (by omega)
    · rw [g7]
      split
      · rfl
      · exact x6 i hi (by omega)
    · rw [g 8 j (by omega)]
      have hi' : ∀ i, i < j → T i = s.1 8 i := fun i h => by rw [hi i h, g 8 i (by omega)]
      by_cases q : j = 9 * r0 + c0
      · have a := (hT.1 j hj).1
        rw [q] at a ⊢
        omega
      · exact x7 T hT j hj (by omega) hi'
end
