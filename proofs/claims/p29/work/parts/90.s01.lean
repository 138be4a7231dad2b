/-! WHAT THE CLASS'S STATE ANSWERS: a is the address of a State -/
def cz (s : gx_S) (a R C : Nat) : Prop := fx_oc a 6 = true ∧ s.1 a 4 = R ∧ s.1 a 5 = C ∧ R ≤ 8 ∧ C ≤ 12
theorem sp_58 {s : gx_S} {a R C : Nat} (h : cz s a R C) : gm_58 a s = some (((R * C : Nat) : Int), s) := by
  obtain ⟨h0, h1, h2, h3, h4⟩ := h
  unfold gm_58
  rw [if_pos h0, h1, h2]
  simp
theorem sp_56 {s : gx_S} {a : Nat} (h0 : fx_oc a 6 = true) (l : Nat) (hl : l < 3) (h : 0 ≤ s.1 a 6 ∧ s.1 a 6 < 8) : gm_56 a l s = some (decide (s.1 a 6 / 2 ^ l % 2 = 1), s) := by
  obtain ⟨h1, h2⟩ := h
  unfold gm_56
  rw [if_pos h0]
  generalize s.1 a 6 = t at h1 h2
  have ht : t = 0 ∨ t = 1 ∨ t = 2 ∨ t = 3 ∨ t = 4 ∨ t = 5 ∨ t = 6 ∨ t = 7 := by omega
  have hl2 : l = 0 ∨ l = 1 ∨ l = 2 := by omega
  rcases ht with e | e | e | e | e | e | e | e <;> rcases hl2 with q | q | q <;> subst e <;> subst q <;> rfl
theorem sp_57 {s : gx_S} {a : Nat} (h0 : fx_oc a 6 = true) (h : 0 ≤ s.1 a 6 ∧ s.1 a 6 < 8) : gm_57 a s = some (decide (s.1 a 6 = 7), s) := by
  unfold gm_57
  by_cases q : s.1 a 6 = 7
  · simp (disch := first | omega | assumption) only [if_pos, if_neg]
    rw [decide_eq_true q]
  · simp (disch := first | omega | assumption) only [if_pos, if_neg]
    rw [decide_eq_false q]
theorem sp_60 {s : gx_S} {a : Nat} (h0 : fx_oc a 6 = true) (l k : Nat) (hl : l < 3) (hk : k < 96) : gm_60 a l k s = some (s.1 (a + 1) (96 * l + k), s) := by
  unfold gm_60
  rw [if_pos h0]
  simp (disch := omega) only [if_pos]
  rw [show ((l : Int) * 96 + (k : Int)).toNat = 96 * l + k by omega]
theorem sl_62 {s : gx_S} {a : Nat} (h0 : fx_oc a 6 = true) (l m : Nat) (z : Int) (hl : l < 3) (hm : m ≤ 96) (hz : -2147483648 ≤ z ∧ z ≤ 2147483647) (hc : ∀ k, k < m → -2147483648 ≤ s.1 (a + 1) (96 * l + k) ∧ s.1 (a + 1) (96 * l + k) ≤ 2147483647) : ∀ (n j : Nat), j ≤ m → m - j < n → gm_62_23 n a l z m (sg (fun k => bi (s.1 (a + 1) (96 * l + k) = z)) j) j s = some (sg (fun k => bi (s.1 (a + 1) (96 * l + k) = z)) m, s) := by
  intro n
  induction n with
  | zero => intro j h1 h2; omega
  | succ n ih =>
    intro j h1 h2
    rw [gm_62_23]
    by_cases q : j < m
    · obtain ⟨c1, c2⟩ := hc j q
      have e1 := ih (j + 1) (by omega) (by omega)
      rw [show ((j + 1 : Nat) : Int) = (j : Int) + 1 by omega] at e1
      rw [sp_60 h0 l j hl (by omega)]
      simp only [Option.bind_some, gm_62_43]
      by_cases e : s.1 (a + 1) (96 * l + j) = z
      · simp (disch := omega) only [if_pos, if_neg]
        rw [← e1]
        simp only [sg, bi, if_pos e]
      · simp (disch := omega) only [if_pos, if_neg]
        rw [← e1]
        simp only [sg, bi, if_neg e, Int.add_zero]
    · have : j = m := by omega
      subst this
      simp (disch := omega) only [if_pos]
theorem sp_62 {s : gx_S} {a R C : Nat} (h : cz s a R C) (l : Nat) (z : Int) (hl : l < 3) (ht : 0 ≤ s.1 a 6 ∧ s.1 a 6 < 8) (hz : -2147483648 ≤ z ∧ z ≤ 2147483647) (hc : ∀ k, k < R * C → -2147483648 ≤ s.1 (a + 1) (96 * l + k) ∧ s.1 (a + 1) (96 * l + k) ≤ 2147483647) : gm_62 a l z s = some (if s.1 a 6 / 2 ^ l % 2 = 1 then sg (fun k => bi (s.1 (a + 1) (96 * l + k) = z)) (R * C) else 0, s) := by
  have hm2 : R * C ≤ 96 := Nat.le_trans (Nat.mul_le_mul h.2.2.2.1 h.2.2.2.2) (by omega)
  unfold gm_62
  rw [if_pos h.1, sp_56 h.1 l hl ht]
  simp only [Option.bind_some]
  by_cases q : s.1 a 6 / 2 ^ l % 2 = 1
  · rw [decide_eq_true q, gbt, if_pos q, sp_58 h]
    simp (disch := omega) only [if_neg, Option.bind_some, gm_62_16]
    exact sl_62 h.1 l (R * C) z hl hm2 hz hc 100000 0 (by omega) (by omega)
  · rw [decide_eq_false q, gbf, if_neg q]
    simp (disch := omega) only [if_pos, Option.bind_some, gm_62_16]
    exact sl_62 (s := s) h.1 l 0 z hl (by omega) hz (fun k hk => absurd hk (by omega)) 100000 0 (by omega) (by omega)
theorem sl_66 {s : gx_S} {a : Nat} (g : Nat) (hg : g < 3) : ∀ (n j : Nat), j ≤ 9 → 9 - j < n → gm_66_4 n a g (sg (fun k => s.1 (a + 2) (9 * g + k)) j) j s = some (sg (fun k => s.1 (a + 2) (9 * g + k)) 9, s) := by
  intro n
  induction n with
  | zero => intro j h1 h2; omega
  | succ n ih =>
    intro j h1 h2
    rw [gm_66_4]
    by_cases q : j < 9
    · have e1 := ih (j + 1) (by omega) (by omega)
      rw [show ((j + 1 : Nat) : Int) = (j : Int) + 1 by omega] at e1
      simp (disch := omega) only [if_pos, if_neg]
      rw [← e1, show ((g : Int) * 9 + (j : Int)).toNat = 9 * g + j by omega]
      simp only [sg]
    · have : j = 9 := by omega
      subst this
      simp (disch := omega) only [if_pos]
theorem sp_66 {s : gx_S} {a : Nat} (h : fx_oc a 6 = true) (g : Nat) (hg : g < 3) : gm_66 a g s = some (sg (fun k => s.1 (a + 2) (9 * g + k)) 9, s) := by
  unfold gm_66
  rw [if_pos h]
  exact sl_66 g hg 100000 0 (by omega) (by omega)
