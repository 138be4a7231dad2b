/-! THE CLASS's TABLE: the greatest rest -/
/-- the best of values: the first of the greatest above 0 -/
def bst (v : Nat → Int) : Nat → Int
  | 0 => -1
  | c + 1 => if 0 < v c ∧ (bst v c = -1 ∨ v (bst v c).toNat < v c) then (c : Int) else bst v c
theorem bst_r (v : Nat → Int) : ∀ c : Nat, -1 ≤ bst v c ∧ bst v c < c
  | 0 => by simp only [bst]; omega
  | c + 1 => by
    have a := bst_r v c
    simp only [bst]
    split <;> omega
theorem bst_eq {v w : Nat → Int} : ∀ {m : Nat}, (∀ c, c < m → v c = w c) → bst v m = bst w m
  | 0, _ => rfl
  | m + 1, h => by
    have a := bst_eq (m := m) fun c hc => h c (by omega)
    have b := bst_r w m
    simp only [bst]
    rw [a, h m (by omega)]
    by_cases q : bst w m = -1
    · simp only [q, true_or]
    · rw [h (bst w m).toNat (by omega)]
theorem bs_bst (s : gx_S) (r : Nat) : ∀ m : Nat, bs s r m = bst (fun c => s.2 225 (9 * r + c)) m
  | 0 => rfl
  | m + 1 => by simp only [bs, bst, bs_bst s r m]
/-- what an entry still offers -/
def vc (s : gx_S) (t r c : Nat) : Int := if s.1 (t + 8) (9 * r + c) = s.1 (t + 6) (9 * r + c) then s.1 (t + 7) (9 * r + c) else 0
set_option maxHeartbeats 4000000 in
theorem sl_75 {s : gx_S} {t r : Nat} (V : Nat → Int) (hV : ∀ c, c < 9 → V c = if s.1 (t + 8) (9 * r + c) = s.1 (t + 6) (9 * r + c) then s.1 (t + 7) (9 * r + c) else 0) (hr : r < 8) (h7 : ∀ c, c < 9 → 0 ≤ s.1 (t + 7) (9 * r + c) ∧ s.1 (t + 7) (9 * r + c) ≤ 1000000000) (h8 : ∀ c, c < 9 → 0 ≤ s.1 (t + 8) (9 * r + c) ∧ s.1 (t + 8) (9 * r + c) ≤ 1000000000) (h6 : ∀ c, c < 9 → 0 ≤ s.1 (t + 6) (9 * r + c) ∧ s.1 (t + 6) (9 * r + c) ≤ 1000000000) : ∀ (n j : Nat) (b x : Int), j ≤ 9 → 9 - j < n → b = (if bst V j = -1 then -1 else 9 * (r : Int) + bst V j) → x = (if bst V j = -1 then 0 else V (bst V j).toNat) → gm_75_10 n t r b x ((9 * r + j : Nat) : Int) s = some (if bst V 9 = -1 then s else gw1 s (t + 8) (9 * r + (bst V 9).toNat) (s.1 (t + 8) (9 * r + (bst V 9).toNat) + 1)) := by
  intro n
  induction n with
  | zero => intro j b x g1 g2; omega
  | succ n ih =>
    intro j b x g1 g2 hb hx
    rw [gm_75_10]
    have b1 := bst_r V j
    by_cases q : j < 9
    · obtain ⟨c1, c2⟩ := h7 j q
      obtain ⟨d1, d2⟩ := h8 j q
      obtain ⟨e1, e2⟩ := h6 j q
      have x1 : 0 ≤ x ∧ x ≤ 1000000000 := by
        rw [hx]
        by_cases u : bst V j = -1
        · rw [if_pos u]; omega
        · rw [if_neg u]
          have v := h7 (bst V j).toNat (by omega)
          rw [hV _ (by omega)]
          split <;> omega
      have E := fun b' x' => ih (j + 1) b' x' (by omega) (by omega)
      rw [show ((9 * r + (j + 1) : Nat) : Int) = ((9 * r + j : Nat) : Int) + 1 by omega] at E
      have eb : bst V (j + 1) = if 0 < V j ∧ (bst V j = -1 ∨ V (bst V j).toNat < V j) then (j : Int) else bst V j := rfl
      simp only [eb] at E
      have ej := hV j q
      have key : (0 < V j ∧ (bst V j = -1 ∨ V (bst V j).toNat < V j)) ↔ x < V j := by
        rw [hx]
        by_cases u : bst V j = -1
        · rw [if_pos u]
          exact ⟨fun w => w.1, fun w => ⟨w, Or.inl u⟩⟩
        · rw [if_neg u]
          rw [if_neg u] at hx
          exact ⟨fun w => w.2.resolve_left u, fun w => ⟨by omega, Or.inr w⟩⟩
      by_cases p : s.1 (t + 7) (9 * r + j) ≤ x
      · have k1 : ¬ x < V j := by
          rw [ej]
          split <;> omega
        simp (disch := first | omega | assumption) only [if_pos, if_neg, gm_75_61, Int.toNat_natCast]
        have nk : ¬ (0 < V j ∧ (bst V j = -1 ∨ V (bst V j).toNat < V j)) := fun u => k1 (key.mp u)
        simp only [if_neg nk] at E
        exact E b x hb hx
      · by_cases g : s.1 (t + 8) (9 * r + j) = s.1 (t + 6) (9 * r + j)
        · have k1 : x < V j := by
            rw [ej, if_pos g]
            omega
          simp (disch := first | omega | assumption) only [if_pos, if_neg, gm_75_61, Int.toNat_natCast]
          have pk := key.mpr k1
          simp only [if_pos pk] at E
          refine E _ _ ?_ ?_
          · rw [if_neg (by omega)]; omega
          · rw [if_neg (by omega), Int.toNat_natCast, ej, if_pos g]
        · have k1 : ¬ x < V j := by
            rw [ej, if_neg g]
            omega
          simp (disch := first | omega | assumption) only [if_pos, if_neg, gm_75_61, Int.toNat_natCast]
          have nk : ¬ (0 < V j ∧ (bst V j = -1 ∨ V (bst V j).toNat < V j)) := fun u => k1 (key.mp u)
          simp only [if_neg nk] at E
          exact E b x hb hx
    · have e : j = 9 := by omega
      subst e
      by_cases u : bst V 9 = -1
      · rw [if_pos u] at hb
        rw [if_pos u]
        simp (disch := first | omega | assumption) only [if_pos, if_neg]
      · rw [if_neg u] at hb
        rw [if_neg u]
        simp (disch := first | omega | assumption) only [if_pos, if_neg]
        rw [show b.toNat = 9 * r + (bst V 9).toNat by omega]
theorem sp_75 {s : gx_S} {t r : Nat} (ht : fx_oc t 7 = true) (hr : r < 8) (h7 : ∀ c, c < 9 → 0 ≤ s.1 (t + 7) (9 * r + c) ∧ s.1 (t + 7) (9 * r + c) ≤ 1000000000) (h8 : ∀ c, c < 9 → 0 ≤ s.1 (t + 8) (9 * r + c) ∧ s.1 (t + 8) (9 * r + c) ≤ 1000000000) (h6 : ∀ c, c < 9 → 0 ≤ s.1 (t + 6) (9 * r + c) ∧ s.1 (t + 6) (9 * r + c) ≤ 1000000000) : gm_75 t r s = some (if bst (vc s t r) 9 = -1 then s else gw1 s (t + 8) (9 * r + (bst (vc s t r) 9).toNat) (s.1 (t + 8) (9 * r + (bst (vc s t r) 9).toNat) + 1)) := by
  unfold gm_75
  rw [if_pos ht, show (r : Int) * 9 = ((9 * r + 0 : Nat) : Int) by omega]
  exact sl_75 (vc s t r) (fun c _ => rfl) hr h7 h8 h6 100000 0 (-1) 0 (by omega) (by omega) rfl rfl
