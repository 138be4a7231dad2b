/-! THE REFERENCE: those left over, by the greatest rests -/
def bs (s : gx_S) (r : Nat) : Nat → Int
  | 0 => -1
  | c + 1 => if 0 < s.2 225 (9 * r + c) ∧ (bs s r c = -1 ∨ s.2 225 (9 * r + (bs s r c).toNat) < s.2 225 (9 * r + c)) then (c : Int) else bs s r c
theorem bs_r (s : gx_S) (r : Nat) : ∀ c : Nat, -1 ≤ bs s r c ∧ bs s r c < c
  | 0 => by simp only [bs]; omega
  | c + 1 => by
    have a := bs_r s r c
    simp only [bs]
    split <;> omega
def gv1 (s : gx_S) (r m : Nat) : gx_S := gw2 (gw2 s 224 (9 * r + (bs s r m).toNat) (s.2 224 (9 * r + (bs s r m).toNat) + 1)) 225 (9 * r + (bs s r m).toNat) 0
def gvn (s : gx_S) (r m : Nat) : Nat → gx_S
  | 0 => s
  | n + 1 => gvn (gv1 s r m) r m n
theorem sl_163 {s : gx_S} {r m : Nat} {x : Int} (k : Int → Int → gx_S → Option gx_S) (hr : r < 8) (hm : m ≤ 9) (h : s.1 215 18 = m) (hb : 0 ≤ bs s r m) (hs : ∀ c, c < m → -1000000000 ≤ s.2 225 (9 * r + c) ∧ s.2 225 (9 * r + c) ≤ 1000000000) : ∀ (n j : Nat), j ≤ m → m - j < n → gm_163_18 k n r x (bs s r j) j s = k r (x - 1) (gv1 s r m) := by
  intro n
  induction n with
  | zero => intro j h1 h2; omega
  | succ n ih =>
    intro j h1 h2
    rw [gm_163_18]
    have b1 := bs_r s r j
    by_cases q : j < m
    · obtain ⟨c1, c2⟩ := hs j q
      have e1 := ih (j + 1) (by omega) (by omega)
      rw [show ((j + 1 : Nat) : Int) = (j : Int) + 1 by omega] at e1
      have ei : (9 * (r : Int) + (j : Int)).toNat = 9 * r + j := by omega
      simp only [bs] at e1
      by_cases p : 0 < s.2 225 (9 * r + j)
      · by_cases b : bs s r j = -1
        · rw [if_pos ⟨p, Or.inl b⟩] at e1
          simp (disch := first | omega | decide) only [if_pos, if_neg, sp_160, Option.bind_some, ei, gm_163_75, gm_163_79]
          exact e1
        · have b2 : (9 * (r : Int) + bs s r j).toNat = 9 * r + (bs s r j).toNat := by omega
          obtain ⟨d1, d2⟩ := hs (bs s r j).toNat (by omega)
          by_cases g : s.2 225 (9 * r + (bs s r j).toNat) < s.2 225 (9 * r + j)
          · rw [if_pos ⟨p, Or.inr g⟩] at e1
            simp (disch := first | omega | decide) only [if_pos, if_neg, sp_160, Option.bind_some, ei, b2, gm_163_75, gm_163_79]
            exact e1
          · rw [if_neg (fun u => u.2.elim b g)] at e1
            simp (disch := first | omega | decide) only [if_pos, if_neg, sp_160, Option.bind_some, ei, b2, gm_163_75, gm_163_79]
            exact e1
      · rw [if_neg (fun u => p u.1)] at e1
        simp (disch := first | omega | decide) only [if_pos, if_neg, sp_160, Option.bind_some, ei, gm_163_79]
        exact e1
    · have e : j = m := by omega
      subst e
      have b2 : (9 * (r : Int) + bs s r j).toNat = 9 * r + (bs s r j).toNat := by omega
      simp (disch := first | omega | decide) only [if_pos, if_neg, sp_160, Option.bind_some, b2]
      rfl
theorem sl_163b {r m : Nat} (hr : r < 8) (hm : m ≤ 9) : ∀ (i : Nat) (s : gx_S) (n : Nat), i < n → (∀ j, j < i → (gvn s r m j).1 215 18 = m ∧ 0 ≤ bs (gvn s r m j) r m ∧ ∀ c, c < m → -1000000000 ≤ (gvn s r m j).2 225 (9 * r + c) ∧ (gvn s r m j).2 225 (9 * r + c) ≤ 1000000000) → i ≤ 1000000000 → gm_163_6 n r i s = some (gvn s r m i) := by
  intro i
  induction i with
  | zero =>
    intro s n h1 h2 h3
    obtain ⟨n', rfl⟩ : ∃ n', n = n' + 1 := ⟨n - 1, by omega⟩
    rw [gm_163_6]
    simp (disch := first | omega | decide) only [if_pos]
    rfl
  | succ i ih =>
    intro s n h1 h2 h3
    obtain ⟨n', rfl⟩ : ∃ n', n = n' + 1 := ⟨n - 1, by omega⟩
    rw [gm_163_6]
    simp (disch := first | omega | decide) only [if_pos, if_neg]
    obtain ⟨g1, g2, g3⟩ := h2 0 (by omega)
    have e := sl_163 (s := s) (x := ((i + 1 : Nat) : Int)) (gm_163_6 n') hr hm g1 g2 g3 100000 0 (by omega) (by omega)
    have e2 : bs s r 0 = -1 := rfl
    rw [e2] at e
    refine e.trans ?_
    rw [show ((i + 1 : Nat) : Int) - 1 = (i : Int) by omega]
    exact ih (gv1 s r m) n' (by omega) (fun j hj => h2 (j + 1) (by omega)) (by omega)
