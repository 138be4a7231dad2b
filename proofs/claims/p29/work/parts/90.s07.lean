/-! THE CLASS's TABLE: a row cut -/
def fl (s : gx_S) (t r : Nat) (W : Int) (j : Nat) : Int := if W ≤ 0 then 0 else s.1 (t + 1) r * s.1 (t + 4) j / W
def rs (s : gx_S) (t r : Nat) (W : Int) (j : Nat) : Int := if W ≤ 0 then 0 else s.1 (t + 1) r * s.1 (t + 4) j % W
def cr (s : gx_S) (t r : Nat) (W : Int) (n : Nat) : gx_S := (fun k j => if k = t + 6 ∧ 9 * r ≤ j ∧ j < 9 * r + n then fl s t r W j else if k = t + 7 ∧ 9 * r ≤ j ∧ j < 9 * r + n then rs s t r W j else if k = t + 8 ∧ 9 * r ≤ j ∧ j < 9 * r + n then fl s t r W j else s.1 k j, s.2)
theorem cr_0 (s : gx_S) (t r : Nat) (W : Int) : cr s t r W 0 = s := by
  refine Prod.ext (funext fun k => funext fun j => ?_) rfl
  simp only [cr]
  grind
theorem cr_s (s : gx_S) (t r : Nat) (W : Int) (n : Nat) : gw1 (gw1 (gw1 (cr s t r W n) (t + 6) (9 * r + n) (fl s t r W (9 * r + n))) (t + 7) (9 * r + n) (rs s t r W (9 * r + n))) (t + 8) (9 * r + n) (fl s t r W (9 * r + n)) = cr s t r W (n + 1) := by
  refine Prod.ext (funext fun k => funext fun j => ?_) rfl
  simp only [cr, gw1]
  by_cases hj : j = 9 * r + n
  · subst hj
    by_cases h6 : k = t + 6 <;> by_cases h7 : k = t + 7 <;> by_cases h8 : k = t + 8 <;> first | omega | (simp (disch := omega) only [if_pos, if_neg])
  · by_cases hq : 9 * r ≤ j ∧ j < 9 * r + n <;> by_cases h6 : k = t + 6 <;> by_cases h7 : k = t + 7 <;> by_cases h8 : k = t + 8 <;> first | omega | (simp (disch := omega) only [if_pos, if_neg])
theorem sl_71 {s : gx_S} {t r : Nat} {W : Int} (ht : fx_oc t 7 = true) (hr : r < 8) (hp : 0 ≤ s.1 (t + 1) r ∧ s.1 (t + 1) r ≤ 100000000) (ha : ∀ c, c < 9 → 0 ≤ s.1 (t + 4) (9 * r + c) ∧ s.1 (t + 4) (9 * r + c) ≤ 1000000) (hW : 0 ≤ W ∧ W ≤ 10000000) : ∀ (n j : Nat), j ≤ 9 → 9 - j < n → gm_71_5 n t r W ((9 * r + j : Nat) : Int) (cr s t r W j) = some (cr s t r W 9) := by
  obtain ⟨p6, l6⟩ := gx_a_p (ga_7_5 ht)
  obtain ⟨p7, l7⟩ := gx_a_p (ga_7_6 ht)
  have l6' : ((fx_sh (t + 6)).2 : Int) = 72 := by rw [l6]; rfl
  have l7' : ((fx_sh (t + 7)).2 : Int) = 72 := by rw [l7]; rfl
  intro n
  induction n with
  | zero => intro j g1 g2; omega
  | succ n ih =>
    intro j g1 g2
    rw [gm_71_5]
    by_cases q : j < 9
    · obtain ⟨a1, a2⟩ := ha j q
      have e1 := ih (j + 1) (by omega) (by omega)
      rw [show ((9 * r + (j + 1) : Nat) : Int) = ((9 * r + j : Nat) : Int) + 1 by omega, ← cr_s] at e1
      have ep : (cr s t r W j).1 (t + 1) r = s.1 (t + 1) r := by
        simp only [cr]
        grind
      have ea : (cr s t r W j).1 (t + 4) (9 * r + j) = s.1 (t + 4) (9 * r + j) := by
        simp only [cr]
        grind
      have hpr : 0 ≤ s.1 (t + 1) r * s.1 (t + 4) (9 * r + j) := Int.mul_nonneg hp.1 a1
      have hpr2 : s.1 (t + 1) r * s.1 (t + 4) (9 * r + j) ≤ 100000000 * 1000000 := Int.mul_le_mul hp.2 a2 a1 (by omega)
      by_cases w : W ≤ 0
      · have f1 : fl s t r W (9 * r + j) = 0 := if_pos w
        have f2 : rs s t r W (9 * r + j) = 0 := if_pos w
        rw [f1, f2] at e1
        simp (disch := first | omega | assumption) only [if_pos, if_neg, ep, ea, gm_71_52, gm_71_72, l6', l7', Int.toNat_natCast, gw1_1]
        first | exact e1 | (simp (disch := first | omega | trivial) only [if_pos, if_neg]; exact e1)
      · have f1 : fl s t r W (9 * r + j) = s.1 (t + 1) r * s.1 (t + 4) (9 * r + j) / W := if_neg w
        have f2 : rs s t r W (9 * r + j) = s.1 (t + 1) r * s.1 (t + 4) (9 * r + j) % W := if_neg w
        rw [f1, f2] at e1
        simp (disch := first | omega | assumption) only [if_pos, if_neg, ep, ea, gm_71_52, gm_71_72, l6', l7', Int.toNat_natCast, gw1_1]
        first | exact e1 | (simp (disch := first | omega | trivial) only [if_pos, if_neg]; exact e1)
    · have e : j = 9 := by omega
      subst e
      simp (disch := first | omega | assumption) only [if_pos]
theorem sp_71 {s : gx_S} {t r : Nat} {W : Int} (ht : fx_oc t 7 = true) (hr : r < 8) (hp : 0 ≤ s.1 (t + 1) r ∧ s.1 (t + 1) r ≤ 100000000) (ha : ∀ c, c < 9 → 0 ≤ s.1 (t + 4) (9 * r + c) ∧ s.1 (t + 4) (9 * r + c) ≤ 1000000) (hW : 0 ≤ W ∧ W ≤ 10000000) : gm_71 t r W s = some (cr s t r W 9) := by
  unfold gm_71
  rw [if_pos ht]
  have e := sl_71 ht hr hp ha hW 100000 0 (by omega) (by omega)
  rw [cr_0] at e
  rw [show (r : Int) * 9 = ((9 * r + 0 : Nat) : Int) by omega]
  exact e
