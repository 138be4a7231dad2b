/-! THE CLASS's TABLE: round -/
theorem af_r {s : gx_S} {t r c : Nat} (h : tf s t) (hr : r < 8) (hc : c < 9) : 0 ≤ af s t r c ∧ af s t r c ≤ 100000000 := by
  have a := aw_r h hr
  have p := (h.1 r hr).1
  have m := a.2.2 c hc
  have w : am s t r c ≤ aw s t r := sg_at (f := fun c => am s t r c) (n := 9) (fun c hc => a.2.2 c hc) c hc
  unfold af
  by_cases z : aw s t r ≤ 0
  · rw [if_pos z]
    omega
  · rw [if_neg z]
    refine ⟨Int.ediv_nonneg (Int.mul_nonneg p.1 m) (by omega), Int.le_trans (Int.ediv_le_of_le_mul (by omega) (Int.mul_le_mul_of_nonneg_left w p.1)) p.2⟩
theorem sp_41_0 {s : gx_S} {t : Nat} (ht : fx_oc t 7 = true) (h : tf s t) : ∃ v u : gx_S, gm_70 t s = some v ∧ gm_41 t 0 s = some u ∧ u.2 = v.2 ∧ (∀ r c, r < 8 → c < 9 → u.1 (t + 8) (9 * r + c) = (gcn v t r (lo v t r).toNat).1 (t + 8) (9 * r + c)) ∧ (∀ k i, k ≠ t + 8 → u.1 k i = v.1 k i) ∧ ∀ i, 72 ≤ i → u.1 (t + 8) i = v.1 (t + 8) i := by
  obtain ⟨v, v1, v2, v3, v4, v5, _⟩ := sp_70 ht h
  obtain ⟨u, u1, u2, u3, u4, u5⟩ := sp_74 (s := v) ht (fun r hr => by
    obtain ⟨w1, w2, w3⟩ := v4 r hr
    have a := aw_r h hr
    have l := lo_r v3 hr
    refine ⟨by rw [w1]; unfold i32; omega, l.1, l.2, fun c hc => ?_⟩
    obtain ⟨x1, x2, x3, x4⟩ := w3 c hc
    have f := af_r h hr hc
    have g := v3.1.2.2 r c hr hc
    rw [x2, x4]
    rw [w1] at g
    omega)
  refine ⟨v, u, v1, ?_, u2, u3, u4, u5⟩
  unfold gm_41
  rw [if_pos ht, v1, Option.bind_some, u1]
  simp (disch := omega) only [if_pos, if_neg, Option.bind_some]
  exact if_neg fun h => h trivial
theorem sp_41_1 {s : gx_S} {t : Nat} (ht : fx_oc t 7 = true) (h : tf s t) (h8 : sg (aw s t) 8 ≤ 864) : ∃ v u : gx_S, gm_70 t s = some v ∧ gm_41 t 1 s = some u ∧ LG (ls v t) (ms v t) (fr v t) (lo v t) (u.1 8) ∧ scg t v u ∧ (∀ j, j < 72 → u.1 (t + 8) j = v.1 (t + 6) j + u.1 8 j) ∧ ∀ j, 72 ≤ j → u.1 (t + 8) j = v.1 (t + 8) j := by
  obtain ⟨v, v1, v2, v3, v4, v5, _⟩ := sp_70 ht h
  obtain ⟨u, u1, u2⟩ := sp_41b ht v3 (by rw [sg_eq (g := aw s t) fun r hr => (v4 r hr).1]; exact h8)
  refine ⟨v, u, v1, ?_, u2⟩
  unfold gm_41
  rw [if_pos ht, v1, Option.bind_some, if_pos (by omega), if_pos (by omega)]
  exact u1
