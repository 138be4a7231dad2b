/-! common and restsOf of the CLASS -/
theorem pr_mono (v : Nat → Int) (n : Nat) : pr v n ≤ pr v (n + 1) := by
  show pr v n ≤ pr v n * if v n ≤ 0 then 1 else (v n).toNat
  have h : 1 ≤ if v n ≤ 0 then 1 else (v n).toNat := by split <;> omega
  exact Nat.le_trans (Nat.le_of_eq (Nat.mul_one _).symm) (Nat.mul_le_mul_left _ h)
theorem pr_up (v : Nat → Int) {n : Nat} : ∀ d, pr v n ≤ pr v (n + d)
  | 0 => Nat.le_refl _
  | d + 1 => Nat.le_trans (pr_up v d) (pr_mono v (n + d))
theorem cm_B {v : Nat → Int} (h : ∀ k, k < 8 → 0 ≤ v k) (hs : sg v 8 ≤ 864) {n : Nat} (hn : n ≤ 8) : cm v n ≤ 20000000000000000 := by
  have a : ∀ k, k < 8 → (((if v k ≤ 0 then 1 else (v k).toNat : Nat)) : Int) ≤ v k + 1 := fun k hk => by
    have := h k hk
    split <;> omega
  have a0 := a 0 (by omega)
  have a1 := a 1 (by omega)
  have a2 := a 2 (by omega)
  have a3 := a 3 (by omega)
  have a4 := a 4 (by omega)
  have a5 := a 5 (by omega)
  have a6 := a 6 (by omega)
  have a7 := a 7 (by omega)
  have s8 : sg v 8 = 0 + v 0 + v 1 + v 2 + v 3 + v 4 + v 5 + v 6 + v 7 := rfl
  have b := am8 (if v 0 ≤ 0 then 1 else (v 0).toNat) (if v 1 ≤ 0 then 1 else (v 1).toNat) (if v 2 ≤ 0 then 1 else (v 2).toNat) (if v 3 ≤ 0 then 1 else (v 3).toNat) (if v 4 ≤ 0 then 1 else (v 4).toNat) (if v 5 ≤ 0 then 1 else (v 5).toNat) (if v 6 ≤ 0 then 1 else (v 6).toNat) (if v 7 ≤ 0 then 1 else (v 7).toNat) (by omega)
  have c : pr v 8 = 1 * (if v 0 ≤ 0 then 1 else (v 0).toNat) * (if v 1 ≤ 0 then 1 else (v 1).toNat) * (if v 2 ≤ 0 then 1 else (v 2).toNat) * (if v 3 ≤ 0 then 1 else (v 3).toNat) * (if v 4 ≤ 0 then 1 else (v 4).toNat) * (if v 5 ≤ 0 then 1 else (v 5).toNat) * (if v 6 ≤ 0 then 1 else (v 6).toNat) * (if v 7 ≤ 0 then 1 else (v 7).toNat) := rfl
  rw [Nat.one_mul] at c
  rw [← c] at b
  have d := pr_up v (n := n) (8 - n)
  rw [show n + (8 - n) = 8 by omega] at d
  exact Nat.le_trans (cm_le v n) (Nat.le_trans d b)
theorem sl_78 {t : Nat} {s : gx_S} (h : ∀ k, k < 8 → 0 ≤ s.1 (t + 2) k ∧ s.1 (t + 2) k ≤ 1000000) (hB : ∀ n, n ≤ 8 → cm (s.1 (t + 2)) n ≤ 20000000000000000) : ∀ (n j : Nat), j ≤ 8 → 8 < n + j → gm_78_4 n t (cm (s.1 (t + 2)) j : Nat) j s = some (((cm (s.1 (t + 2)) 8 : Nat) : Int), s) := by
  intro n
  induction n with
  | zero => intro j hj hn; omega
  | succ n ih =>
    intro j hj hn
    by_cases q : j = 8
    · subst q
      rw [gm_78_4]
      simp (disch := omega) only [if_pos]
    · have hv := h j (by omega)
      have hb := hB j hj
      have ih := ih (j + 1) (by omega) (by omega)
      have i5 : ((j : Int)).toNat = j := by omega
      have i3 : ((j : Int) + 1) = ((j + 1 : Nat) : Int) := by omega
      obtain ⟨w, hw⟩ : ∃ w : Nat, s.1 (t + 2) j = w := ⟨(s.1 (t + 2) j).toNat, by omega⟩
      rw [gm_78_4, i5, hw, sp_128 s (by omega) (by omega)]
      by_cases w0 : w = 0
      · have e : cm (s.1 (t + 2)) (j + 1) = cm (s.1 (t + 2)) j := if_pos (by omega)
        rw [e] at ih
        subst w0
        simp (disch := omega) only [if_pos, if_neg, Option.bind_some, gm_78_52, hw, i3]
        exact ih
      · have e : cm (s.1 (t + 2)) (j + 1) = Nat.lcm (cm (s.1 (t + 2)) j) w := by
          have : cm (s.1 (t + 2)) (j + 1) = Nat.lcm (cm (s.1 (t + 2)) j) (s.1 (t + 2) j).toNat := if_neg (by omega)
          rw [this, hw]
          rfl
        have g0 : 0 < Nat.gcd (cm (s.1 (t + 2)) j) w := Nat.gcd_pos_of_pos_right _ (by omega)
        have g1 : Nat.gcd (cm (s.1 (t + 2)) j) w ≤ w := Nat.gcd_le_right _ (by omega)
        rw [e, lcm_div _ _ (cm_pos _ _)] at ih
        have d : ((cm (s.1 (t + 2)) j : Nat) : Int) / ((Nat.gcd (cm (s.1 (t + 2)) j) w : Nat) : Int) * (w : Int) = ((cm (s.1 (t + 2)) j / Nat.gcd (cm (s.1 (t + 2)) j) w * w : Nat) : Int) := rfl
        rw [← d] at ih
        simp (disch := omega) only [if_pos, if_neg, Option.bind_some, gm_78_52, hw, i3]
        exact ih
theorem sp_78 {t : Nat} {s : gx_S} (ht : fx_oc t 7 = true) (h : ∀ k, k < 8 → 0 ≤ s.1 (t + 2) k ∧ s.1 (t + 2) k ≤ 1000000) (hs : sg (s.1 (t + 2)) 8 ≤ 864) : gm_78 t s = some (((cm (s.1 (t + 2)) 8 : Nat) : Int), s) := by
  unfold gm_78
  rw [if_pos ht]
  exact sl_78 h (fun n hn => cm_B (fun k hk => (h k hk).1) hs hn) 100000 0 (by omega) (by omega)
/-- the rests of a column over a common denominator -/
def ro (s : gx_S) (t c : Nat) (K : Int) : Int := sg (fun r => if s.1 (t + 2) r ≤ 0 then 0 else s.1 (t + 7) (9 * r + c) * (K / s.1 (t + 2) r)) 8
theorem sl_79 {t c : Nat} {s : gx_S} {K : Int} (hc : c < 9) (h : ∀ k, k < 8 → 0 ≤ s.1 (t + 2) k ∧ s.1 (t + 2) k ≤ 1000000) (h7 : ∀ k, k < 72 → i32 (s.1 (t + 7) k)) (hK : 0 ≤ K ∧ K ≤ 9000000000000000000) : ∀ (n j : Nat), j ≤ 8 → 8 < n + j → gm_79_6 n t c K (sg (fun r => if s.1 (t + 2) r ≤ 0 then 0 else s.1 (t + 7) (9 * r + c) * (K / s.1 (t + 2) r)) j) j s = some (ro s t c K, s) := by
  intro n
  induction n with
  | zero => intro j hj hn; omega
  | succ n ih =>
    intro j hj hn
    by_cases q : j = 8
    · subst q
      rw [gm_79_6]
      simp (disch := omega) only [if_pos]
      rfl
    · have hv := h j (by omega)
      have i32' := h7 (9 * j + c) (by omega)
      unfold i32 at i32'
      have ih := ih (j + 1) (by omega) (by omega)
      have i5 : ((j : Int)).toNat = j := by omega
      have i6 : (((j : Int) * 9) + c).toNat = 9 * j + c := by omega
      have i3 : ((j : Int) + 1) = ((j + 1 : Nat) : Int) := by omega
      rw [gm_79_6, i5, i6]
      have e : sg (fun r => if s.1 (t + 2) r ≤ 0 then 0 else s.1 (t + 7) (9 * r + c) * (K / s.1 (t + 2) r)) (j + 1) = sg (fun r => if s.1 (t + 2) r ≤ 0 then 0 else s.1 (t + 7) (9 * r + c) * (K / s.1 (t + 2) r)) j + if s.1 (t + 2) j ≤ 0 then 0 else s.1 (t + 7) (9 * j + c) * (K / s.1 (t + 2) j) := rfl
      rw [e] at ih
      by_cases w0 : s.1 (t + 2) j ≤ 0
      · rw [if_pos w0, Int.add_zero] at ih
        simp (disch := omega) only [if_pos, if_neg, gm_79_52, i3]
        exact ih
      · rw [if_neg w0] at ih
        simp (disch := omega) only [if_pos, if_neg, gm_79_52, i3]
        exact ih
theorem sp_79 {t c : Nat} {s : gx_S} {K : Int} (ht : fx_oc t 7 = true) (hc : c < 9) (h : ∀ k, k < 8 → 0 ≤ s.1 (t + 2) k ∧ s.1 (t + 2) k ≤ 1000000) (h7 : ∀ k, k < 72 → i32 (s.1 (t + 7) k)) (hK : 0 ≤ K ∧ K ≤ 9000000000000000000) : gm_79 t c K s = some (ro s t c K, s) := by
  unfold gm_79
  rw [if_pos ht]
  exact sl_79 hc h h7 hK 100000 0 (by omega) (by omega)
