/-! the fractional table: no cut is too narrow -/
theorem sg_spl (b : Nat → Bool) (f : Nat → Int) (n : Nat) : sg (fun c => if b c = true then f c else 0) n + sg (fun c => if b c = false then f c else 0) n = sg f n := by
  rw [← sg_add]
  exact sg_eq fun c _ => by
    show (if _ then _ else (0 : Int)) + (if _ then _ else (0 : Int)) = _
    cases b c with
    | true => rw [if_pos rfl, if_neg (by decide)]; omega
    | false => rw [if_neg (by decide), if_pos rfl]; omega
theorem cut_K {y : Nat → Nat → Int} {K : Int} {F : Nat → Nat → Int} {W O L : Nat → Int} (hK : 0 < K) (hy : ∀ r c, r < 8 → c < 9 → 0 ≤ y r c ∧ y r c ≤ K * F r c) (hrow : ∀ r, r < 8 → sg (fun c => y r c) 9 = K * W r) (hcol : ∀ c, c < 9 → K * L c ≤ sg (fun r => y r c) 8 ∧ sg (fun r => y r c) 8 ≤ K * O c) (R C : Nat → Bool) : sg (fun r => if R r = true then W r else 0) 8 ≤ sg (fun c => if C c = true then O c else 0) 9 + sg (fun r => sg (fun c => if R r = true ∧ C c = false then F r c else 0) 9) 8 ∧ sg (fun c => if C c = false then L c else 0) 9 ≤ sg (fun r => sg (fun c => if R r = true ∧ C c = false then F r c else 0) 9) 8 + sg (fun r => if R r = false then W r else 0) 8 := by
  have a := cut_id y R C 8 9
  have n1 : 0 ≤ sg (fun r => sg (fun c => if R r = false ∧ C c = true then y r c else 0) 9) 8 := sg_nn fun r hr => sg_nn fun c hc => by
    show 0 ≤ if _ then _ else (0 : Int)
    split
    · exact (hy r c hr hc).1
    · omega
  have n2 : sg (fun r => sg (fun c => if R r = true ∧ C c = false then y r c else 0) 9) 8 ≤ K * sg (fun r => sg (fun c => if R r = true ∧ C c = false then F r c else 0) 9) 8 := by
    rw [← sg_mul]
    exact sg_le fun r hr => by
      show sg _ 9 ≤ K * sg _ 9
      rw [← sg_mul]
      exact sg_le fun c hc => by
        show (if _ then _ else (0 : Int)) ≤ K * (if _ then _ else (0 : Int))
        split
        · exact (hy r c hr hc).2
        · omega
  have n3 : sg (fun c => if C c = true then sg (fun r => y r c) 8 else 0) 9 ≤ K * sg (fun c => if C c = true then O c else 0) 9 := by
    rw [← sg_mul]
    exact sg_le fun c hc => by
      show (if _ then _ else (0 : Int)) ≤ K * (if _ then _ else (0 : Int))
      split
      · exact (hcol c hc).2
      · omega
  have n4 : sg (fun r => if R r = true then sg (fun c => y r c) 9 else 0) 8 = K * sg (fun r => if R r = true then W r else 0) 8 := by
    rw [← sg_mul]
    exact sg_eq fun r hr => by
      show (if _ then _ else (0 : Int)) = K * (if _ then _ else (0 : Int))
      split
      · exact hrow r hr
      · omega
  have n5 : K * sg (fun c => if C c = false then L c else 0) 9 ≤ sg (fun c => if C c = false then sg (fun r => y r c) 8 else 0) 9 := by
    rw [← sg_mul]
    exact sg_le fun c hc => by
      show K * (if _ then _ else (0 : Int)) ≤ (if _ then _ else (0 : Int))
      split
      · exact (hcol c hc).1
      · omega
  have n6 : sg (fun r => if R r = false then sg (fun c => y r c) 9 else 0) 8 = K * sg (fun r => if R r = false then W r else 0) 8 := by
    rw [← sg_mul]
    exact sg_eq fun r hr => by
      show (if _ then _ else (0 : Int)) = K * (if _ then _ else (0 : Int))
      split
      · exact hrow r hr
      · omega
  have s1 := sg_spl C (fun c => sg (fun r => y r c) 8) 9
  have s2 := sg_spl R (fun r => sg (fun c => y r c) 9) 8
  have s3 := sg_swap y 9 8
  refine ⟨Int.le_of_mul_le_mul_left ?_ hK, Int.le_of_mul_le_mul_left ?_ hK⟩
  · rw [Int.mul_add]
    omega
  · rw [Int.mul_add]
    omega
/-- what cutRow leaves: rests of a row add up to the left over times the total -/
def rv (s : gx_S) (t : Nat) : Prop := tv s t ∧ ∀ r, r < 8 → (s.1 (t + 2) r = 0 → ∀ c, c < 9 → s.1 (t + 7) (9 * r + c) = 0) ∧ sg (fun c => s.1 (t + 7) (9 * r + c)) 9 = lo s t r * s.1 (t + 2) r
/-- after open: the rows' numbers and the columns' least fit -/
theorem cut_42 {s u : gx_S} {t : Nat} (h : rv s t) (h7 : ∀ i, i < 72 → u.1 7 i = (if s.1 (t + 7) i ≤ 0 then 0 else 1)) (h9 : ∀ i, i < 9 → u.1 9 i = ro s t i (cm (s.1 (t + 2)) 8 : Nat) / (cm (s.1 (t + 2)) 8 : Nat) ∧ u.1 10 i = ro s t i (cm (s.1 (t + 2)) 8 : Nat) / (cm (s.1 (t + 2)) 8 : Nat) + (if ro s t i (cm (s.1 (t + 2)) 8 : Nat) % (cm (s.1 (t + 2)) 8 : Nat) = 0 then 0 else 1)) : CA u (lo s t) ∧ CB u (lo s t) := by
  have hP := cm_pos (s.1 (t + 2)) 8
  obtain ⟨K, hK⟩ : ∃ K : Int, K = (cm (s.1 (t + 2)) 8 : Nat) := ⟨_, rfl⟩
  rw [← hK] at h9
  have K0 : 0 < K := by omega
  have dv : ∀ r, r < 8 → 0 < s.1 (t + 2) r → s.1 (t + 2) r * (K / s.1 (t + 2) r) = K := fun r hr hv => by
    refine Int.mul_ediv_cancel' ?_
    have a := cm_dvd (v := s.1 (t + 2)) (n := 8) (k := r) hr hv
    have b : ((s.1 (t + 2) r).toNat : Int) ∣ ((cm (s.1 (t + 2)) 8 : Nat) : Int) := Int.natCast_dvd_natCast.mpr a
    rw [Int.toNat_of_nonneg (by omega), ← hK] at b
    exact b
  have key := fun R C : Nat → Bool => cut_K (y := fun r c => if s.1 (t + 2) r ≤ 0 then 0 else s.1 (t + 7) (9 * r + c) * (K / s.1 (t + 2) r)) (K := K) (F := fun r c => u.1 7 (9 * r + c)) (W := lo s t) (O := u.1 10) (L := u.1 9) K0 (fun r c hr hc => by
    have a := h.1.2.2 r c hr hc
    have b := h7 (9 * r + c) (by omega)
    show 0 ≤ (if _ then _ else (_ : Int)) ∧ (if _ then _ else (_ : Int)) ≤ K * u.1 7 (9 * r + c)
    rw [b]
    by_cases v : s.1 (t + 2) r ≤ 0
    · rw [if_pos v]
      refine ⟨Int.le_refl 0, Int.mul_nonneg (by omega) (by split <;> omega)⟩
    · rw [if_neg v]
      have q0 : 0 ≤ K / s.1 (t + 2) r := Int.ediv_nonneg (by omega) (by omega)
      refine ⟨Int.mul_nonneg a.1 q0, ?_⟩
      by_cases w : s.1 (t + 7) (9 * r + c) ≤ 0
      · rw [if_pos w, show s.1 (t + 7) (9 * r + c) = 0 by omega]
        omega
      · rw [if_neg w, Int.mul_one]
        have d := dv r hr (by omega)
        have e : s.1 (t + 7) (9 * r + c) * (K / s.1 (t + 2) r) ≤ s.1 (t + 2) r * (K / s.1 (t + 2) r) := Int.mul_le_mul_of_nonneg_right (by omega) q0
        omega) (fun r hr => by
    show sg (fun c => if s.1 (t + 2) r ≤ 0 then 0 else s.1 (t + 7) (9 * r + c) * (K / s.1 (t + 2) r)) 9 = K * lo s t r
    have v0 := h.1.1 r hr
    by_cases v : s.1 (t + 2) r ≤ 0
    · rw [sg_0 fun c _ => if_pos v]
      have : lo s t r = 0 := if_pos v
      rw [this]
      omega
    · rw [sg_eq (g := fun c => (K / s.1 (t + 2) r) * s.1 (t + 7) (9 * r + c)) fun c _ => (if_neg v).trans (Int.mul_comm _ _), sg_mul, (h.2 r hr).2]
      have d := dv r hr (by omega)
      calc K / s.1 (t + 2) r * (lo s t r * s.1 (t + 2) r) = (s.1 (t + 2) r * (K / s.1 (t + 2) r)) * lo s t r := by rw [Int.mul_comm (lo s t r), ← Int.mul_assoc, Int.mul_comm (K / s.1 (t + 2) r)]
        _ = K * lo s t r := by rw [d]) (fun c hc => by
    obtain ⟨e9, e10⟩ := h9 c hc
    show K * u.1 9 c ≤ ro s t c K ∧ ro s t c K ≤ K * u.1 10 c
    rw [e9, e10]
    have d := Int.mul_ediv_add_emod (ro s t c K) K
    have m0 := Int.emod_nonneg (ro s t c K) (b := K) (by omega)
    have m1 := Int.emod_lt_of_pos (ro s t c K) (b := K) K0
    refine ⟨by omega, ?_⟩
    rw [Int.mul_add]
    by_cases z : ro s t c K % K = 0
    · rw [if_pos z]
      omega
    · rw [if_neg z]
      omega) R C
  exact ⟨fun R C => (key R C).1, fun R C => (key R C).2⟩
