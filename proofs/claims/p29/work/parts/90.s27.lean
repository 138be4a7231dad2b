/-! THE CLASS's TABLE: cut, all rows -/
theorem am_c {s v : gx_S} {t r : Nat} (h4 : ∀ c, c < 9 → v.1 (t + 4) (9 * r + c) = s.1 (t + 4) (9 * r + c)) (h5 : ∀ c, c < 9 → v.1 (t + 5) (9 * r + c) = s.1 (t + 5) (9 * r + c)) {c : Nat} (hc : c < 9) : am v t r c = am s t r c := by
  unfold am
  rw [sg_eq (f := fun c => v.1 (t + 4) (9 * r + c)) (g := fun c => s.1 (t + 4) (9 * r + c)) h4, h4 c hc, h5 c hc]
theorem aw_c {s v : gx_S} {t r : Nat} (h4 : ∀ c, c < 9 → v.1 (t + 4) (9 * r + c) = s.1 (t + 4) (9 * r + c)) (h5 : ∀ c, c < 9 → v.1 (t + 5) (9 * r + c) = s.1 (t + 5) (9 * r + c)) : aw v t r = aw s t r := sg_eq fun _ hc => am_c h4 h5 hc
theorem af_c {s v : gx_S} {t r : Nat} (h1 : v.1 (t + 1) r = s.1 (t + 1) r) (h4 : ∀ c, c < 9 → v.1 (t + 4) (9 * r + c) = s.1 (t + 4) (9 * r + c)) (h5 : ∀ c, c < 9 → v.1 (t + 5) (9 * r + c) = s.1 (t + 5) (9 * r + c)) {c : Nat} (hc : c < 9) : af v t r c = af s t r c ∧ ar v t r c = ar s t r c := by
  unfold af ar
  rw [aw_c h4 h5, am_c h4 h5 hc, h1]
  exact ⟨rfl, rfl⟩
theorem sl_70n {t : Nat} (ht : fx_oc t 7 = true) : ∀ (n j : Nat) (s : gx_S), (∀ r, r < 8 → (0 ≤ s.1 (t + 1) r ∧ s.1 (t + 1) r ≤ 100000000) ∧ (j ≤ r → ∀ c, c < 9 → (0 ≤ s.1 (t + 4) (9 * r + c) ∧ s.1 (t + 4) (9 * r + c) ≤ 1000000) ∧ (0 ≤ s.1 (t + 5) (9 * r + c) ∧ s.1 (t + 5) (9 * r + c) ≤ 1000000))) → j ≤ 8 → 8 < n + j → ∃ u : gx_S, gm_70_2 n t j s = some u ∧ u.2 = s.2 ∧ (∀ r, j ≤ r → r < 8 → u.1 (t + 2) r = aw s t r ∧ ∀ c, c < 9 → u.1 (t + 4) (9 * r + c) = am s t r c ∧ u.1 (t + 6) (9 * r + c) = af s t r c ∧ u.1 (t + 7) (9 * r + c) = ar s t r c ∧ u.1 (t + 8) (9 * r + c) = af s t r c) ∧ (∀ k i, ¬ ((k = t + 2 ∨ k = t + 3) ∧ j ≤ i ∧ i < 8) → ¬ ((k = t + 4 ∨ k = t + 6 ∨ k = t + 7 ∨ k = t + 8) ∧ 9 * j ≤ i ∧ i < 72) → u.1 k i = s.1 k i) ∧ ∀ r, j ≤ r → r < 8 → u.1 (t + 3) r = pl s t r := by
  intro n
  induction n with
  | zero => intro j s h hj hn; omega
  | succ n ih =>
    intro j s h hj hn
    by_cases q : j = 8
    · subst q
      refine ⟨s, ?_, rfl, fun r h1 h2 => by omega, fun _ _ _ _ => rfl, fun r h1 h2 => by omega⟩
      rw [gm_70_2]
      simp (disch := omega) only [if_pos]
    · have hj' := h j (by omega)
      obtain ⟨v, v1, v2, v3, v4, v5, v6⟩ := sl_70 n ht (by omega) hj'.1 (hj'.2 (Nat.le_refl j))
      have z1 : ∀ r, v.1 (t + 1) r = s.1 (t + 1) r := fun r => v5 _ _ (by omega) (by omega) (by omega)
      have z5 : ∀ r, v.1 (t + 5) r = s.1 (t + 5) r := fun r => v5 _ _ (by omega) (by omega) (by omega)
      have z4 : ∀ r c, j < r → c < 9 → v.1 (t + 4) (9 * r + c) = s.1 (t + 4) (9 * r + c) := fun r c hr hc => v5 _ _ (by omega) (by omega) (by omega)
      obtain ⟨u, u1, u2, u3, u4, u5⟩ := ih (j + 1) v (fun r hr => ⟨by rw [z1]; exact (h r hr).1, fun hjr c hc => by
        rw [z5, z4 r c (by omega) hc]
        exact (h r hr).2 (by omega) c hc⟩) (by omega) (by omega)
      have i3 : ((j : Int) + 1) = ((j + 1 : Nat) : Int) := by omega
      refine ⟨u, by rw [v1, i3]; exact u1, u2.trans v2, fun r h1 h2 => ?_, fun k i h1 h2 => (u4 k i (by omega) (by omega)).trans (v5 k i (by omega) (by omega) (by omega)), fun r h1 h2 => ?_⟩
      rotate_left
      · by_cases e : r = j
        · rw [e]
          exact (u4 _ _ (by omega) (by omega)).trans v6
        · rw [u5 r (by omega) h2]
          unfold pl
          rw [sg_eq (f := fun c => v.1 (t + 4) (9 * r + c)) (g := fun c => s.1 (t + 4) (9 * r + c)) fun c hc => z4 r c (by omega) hc]
      by_cases e : r = j
      · subst e
        refine ⟨(u4 _ _ (by omega) (by omega)).trans v3, fun c hc => ?_⟩
        obtain ⟨w1, w2, w3, w4⟩ := v4 c hc
        exact ⟨(u4 _ _ (by omega) (by omega)).trans w1, (u4 _ _ (by omega) (by omega)).trans w2, (u4 _ _ (by omega) (by omega)).trans w3, (u4 _ _ (by omega) (by omega)).trans w4⟩
      · have y4 : ∀ c, c < 9 → v.1 (t + 4) (9 * r + c) = s.1 (t + 4) (9 * r + c) := fun c hc => z4 r c (by omega) hc
        have y5 : ∀ c, c < 9 → v.1 (t + 5) (9 * r + c) = s.1 (t + 5) (9 * r + c) := fun c _ => z5 _
        obtain ⟨w1, w2⟩ := u3 r (by omega) h2
        refine ⟨w1.trans (aw_c y4 y5), fun c hc => ?_⟩
        obtain ⟨x1, x2, x3, x4⟩ := w2 c hc
        have f := af_c (z1 r) y4 y5 hc
        exact ⟨x1.trans (am_c y4 y5 hc), x2.trans f.1, x3.trans f.2, x4.trans f.1⟩
/-- a table as it is filled: people, weights, cells -/
def tf (s : gx_S) (t : Nat) : Prop := (∀ r, r < 8 → (0 ≤ s.1 (t + 1) r ∧ s.1 (t + 1) r ≤ 100000000) ∧ ∀ c, c < 9 → (0 ≤ s.1 (t + 4) (9 * r + c) ∧ s.1 (t + 4) (9 * r + c) ≤ 1000000) ∧ (0 ≤ s.1 (t + 5) (9 * r + c) ∧ s.1 (t + 5) (9 * r + c) ≤ 1000000)) ∧ sg (aw s t) 8 ≤ 1000000
theorem aw_r {s : gx_S} {t r : Nat} (h : tf s t) (hr : r < 8) : 0 ≤ aw s t r ∧ aw s t r ≤ 1000000 ∧ ∀ c, c < 9 → 0 ≤ am s t r c := by
  have m : ∀ r, r < 8 → ∀ c, c < 9 → 0 ≤ am s t r c := fun r hr c hc => by
    have := (h.1 r hr).2 c hc
    unfold am
    split <;> omega
  have n : ∀ r, r < 8 → 0 ≤ aw s t r := fun r hr => sg_nn fun c hc => m r hr c hc
  have a := sg_at (f := aw s t) n r hr
  have b := h.2
  exact ⟨n r hr, by omega, m r hr⟩
/-- cut: what it leaves -/
theorem sp_70 {s : gx_S} {t : Nat} (ht : fx_oc t 7 = true) (h : tf s t) : ∃ u : gx_S, gm_70 t s = some u ∧ u.2 = s.2 ∧ rv u t ∧ (∀ r, r < 8 → u.1 (t + 2) r = aw s t r ∧ lo u t r = (if aw s t r ≤ 0 then 0 else s.1 (t + 1) r - sg (fun c => af s t r c) 9) ∧ ∀ c, c < 9 → u.1 (t + 4) (9 * r + c) = am s t r c ∧ u.1 (t + 6) (9 * r + c) = af s t r c ∧ u.1 (t + 7) (9 * r + c) = ar s t r c ∧ u.1 (t + 8) (9 * r + c) = af s t r c) ∧ (∀ k i, ¬ ((k = t + 2 ∨ k = t + 3) ∧ i < 8) → ¬ ((k = t + 4 ∨ k = t + 6 ∨ k = t + 7 ∨ k = t + 8) ∧ i < 72) → u.1 k i = s.1 k i) ∧ ∀ r, r < 8 → u.1 (t + 3) r = pl s t r := by
  obtain ⟨u, u1, u2, u3, u4, u5⟩ := sl_70n ht 100000 0 s (fun r hr => ⟨(h.1 r hr).1, fun _ => (h.1 r hr).2⟩) (by omega) (by omega)
  have p1 : ∀ r, u.1 (t + 1) r = s.1 (t + 1) r := fun r => u4 _ _ (by omega) (by omega)
  have lw : ∀ r, r < 8 → lo u t r = (if aw s t r ≤ 0 then 0 else s.1 (t + 1) r - sg (fun c => af s t r c) 9) := fun r hr => by
    obtain ⟨w1, w2⟩ := u3 r (by omega) hr
    unfold lo
    rw [w1, p1, sg_eq (f := fun c => u.1 (t + 6) (9 * r + c)) (g := fun c => af s t r c) fun c hc => (w2 c hc).2.1]
  refine ⟨u, ?_, u2, ⟨⟨fun k hk => ?_, ?_, fun r c hr hc => ?_⟩, fun r hr => ⟨fun h0 c hc => ?_, ?_⟩⟩, fun r hr => ⟨(u3 r (by omega) hr).1, lw r hr, (u3 r (by omega) hr).2⟩, fun k i h1 h2 => u4 k i (by omega) (by omega), fun r hr => u5 r (by omega) hr⟩
  · unfold gm_70
    rw [if_pos ht]
    exact u1
  · rw [(u3 k (by omega) hk).1]
    have := aw_r h hk
    omega
  · rw [sg_eq (g := aw s t) fun r hr => (u3 r (by omega) hr).1]
    exact h.2
  · obtain ⟨w1, w2⟩ := u3 r (by omega) hr
    rw [w1, (w2 c hc).2.2.1]
    have a := aw_r h hr
    unfold ar
    by_cases z : aw s t r ≤ 0
    · rw [if_pos z]
      omega
    · rw [if_neg z]
      have m0 := Int.emod_nonneg (s.1 (t + 1) r * am s t r c) (b := aw s t r) (by omega)
      have m1 := Int.emod_lt_of_pos (s.1 (t + 1) r * am s t r c) (b := aw s t r) (by omega)
      omega
  · obtain ⟨w1, w2⟩ := u3 r (by omega) hr
    rw [w1] at h0
    rw [(w2 c hc).2.2.1]
    exact if_pos (by omega)
  · obtain ⟨w1, w2⟩ := u3 r (by omega) hr
    have a := aw_r h hr
    rw [w1, lw r hr, sg_eq (f := fun c => u.1 (t + 7) (9 * r + c)) (g := fun c => ar s t r c) fun c hc => (w2 c hc).2.2.1]
    by_cases z : aw s t r ≤ 0
    · rw [if_pos z, sg_0 (f := fun c => ar s t r c) fun c _ => if_pos z]
      omega
    · rw [if_neg z]
      have e := sg_eq (f := fun c => ar s t r c) (g := fun c => s.1 (t + 1) r * am s t r c + (- aw s t r) * af s t r c) (n := 9) fun c _ => by
        show ar s t r c = s.1 (t + 1) r * am s t r c + (- aw s t r) * af s t r c
        have d := Int.mul_ediv_add_emod (s.1 (t + 1) r * am s t r c) (aw s t r)
        rw [Int.neg_mul]
        unfold ar af
        rw [if_neg z, if_neg z]
        omega
      rw [e, sg_add, sg_mul, sg_mul, Int.neg_mul, Int.sub_mul, Int.mul_comm (aw s t r)]
      show s.1 (t + 1) r * aw s t r + _ = _
      exact Int.sub_eq_add_neg.symm
