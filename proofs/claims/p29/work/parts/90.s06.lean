/-! THE REFERENCE: a row by remainders; THE CLASS's TABLE: sums, rows cut, those left over -/
theorem sp_163 {s : gx_S} {r m : Nat} (hr : r < 8) (hm : m ≤ 9) (h : s.1 215 18 = m) (hp : 0 ≤ s.2 221 r ∧ s.2 221 r ≤ 1000000000) (ha : ∀ c, c < m → 0 ≤ s.1 222 (9 * r + c) ∧ s.1 222 (9 * r + c) ≤ 1000000) (hw : s.1 223 r = sg (fun c => s.1 222 (9 * r + c)) m) : gm_163 r s = some (gvn (ct s r m) r m (if s.1 223 r = 0 then 0 else s.2 221 r - sg (fun c => s.2 221 r * s.1 222 (9 * r + c) / s.1 223 r) m).toNat) := by
  have w0 : 0 ≤ s.1 223 r := by rw [hw]; exact sg_nn fun c hc => (ha c hc).1
  have w1 : s.1 223 r ≤ 10000000 := by
    rw [hw]
    have e := sg_le (f := fun c => s.1 222 (9 * r + c)) (g := fun _ => 1000000) (n := m) fun c hc => (ha c hc).2
    have e2 : ∀ k : Nat, sg (fun _ => 1000000) k = 1000000 * (k : Int) := by
      intro k
      induction k with
      | zero => rfl
      | succ k ih => simp only [sg, ih]; omega
    rw [e2] at e
    omega
  have e := sp_162 hr hm h hp ha ⟨w0, w1⟩
  unfold gm_163
  rw [e]
  simp only [Option.bind_some]
  by_cases q : s.1 223 r = 0
  · rw [if_pos q, if_pos q]
    exact sl_163b hr hm 0 (ct s r m) 100000 (by omega) (fun j hj => by omega) (by omega)
  · rw [if_neg q, if_neg q]
    have e3 : sg (fun c => (ct s r m).2 224 (9 * r + c)) m = sg (fun c => s.2 221 r * s.1 222 (9 * r + c) / s.1 223 r) m := sg_eq fun c hc => by
      simp only [ct]
      grind
    rw [e3]
    obtain ⟨l1, l2⟩ := left_ps hp.1 (show 0 < s.1 223 r by omega) (fun c hc => (ha c hc).1) hw.symm
    have e4 : ps (ct s r m) r m = sg (fun c => bi (0 < s.2 221 r * s.1 222 (9 * r + c) % s.1 223 r)) m := sg_eq fun c hc => by
      have : (ct s r m).2 225 (9 * r + c) = s.2 221 r * s.1 222 (9 * r + c) % s.1 223 r := by
        simp only [ct]
        grind
      rw [this]
    have e5 : ∀ c, c < m → 0 ≤ (ct s r m).2 225 (9 * r + c) ∧ (ct s r m).2 225 (9 * r + c) ≤ 1000000000 := fun c hc => by
      have : (ct s r m).2 225 (9 * r + c) = s.2 221 r * s.1 222 (9 * r + c) % s.1 223 r := by
        simp only [ct]
        grind
      rw [this]
      have u := Int.emod_lt_of_pos (s.2 221 r * s.1 222 (9 * r + c)) (show 0 < s.1 223 r by omega)
      have v := Int.emod_nonneg (s.2 221 r * s.1 222 (9 * r + c)) q
      omega
    generalize hL : s.2 221 r - sg (fun c => s.2 221 r * s.1 222 (9 * r + c) / s.1 223 r) m = L at *
    have e6 : ((L.toNat : Nat) : Int) = L := by omega
    rw [← e6]
    have e7 : ps (ct s r m) r m ≤ 9 := by
      have e := sg_le (f := fun c => bi (0 < (ct s r m).2 225 (9 * r + c))) (g := fun _ => 1) (n := m) fun c hc => (bi_r _).2
      have e2 : ∀ k : Nat, sg (fun _ => 1) k = (k : Int) := by
        intro k
        induction k with
        | zero => rfl
        | succ k ih => simp only [sg, ih]; omega
      rw [e2] at e
      unfold ps
      omega
    have e8 := sl_163b hr hm L.toNat (ct s r m) 100000 (by omega) (sp_gvn hr hm L.toNat (ct s r m) h (by omega) e5) (by omega)
    rw [e8, Int.toNat_natCast]
theorem gx_a_p {k n : Nat} (h : gx_a 0 k n = true) : gx_p k = true ∧ (fx_sh k).2 = n := by
  have h' := h
  simp only [gx_a, Bool.and_eq_true] at h'
  have e := Nat.eq_of_beq_eq_true h'.1.2
  refine ⟨?_, e⟩
  unfold gx_p
  rw [e]
  exact h
theorem sl_72 {s : gx_S} {k r : Nat} (h : gx_a 0 k 72 = true) (hr : r < 8) : ∀ (n j : Nat), j ≤ 9 → 9 - j < n → gm_72_4 n k r (sg (fun c => s.1 k (9 * r + c)) j) j s = some (sg (fun c => s.1 k (9 * r + c)) 9, s) := by
  obtain ⟨h1, h2⟩ := gx_a_p h
  intro n
  induction n with
  | zero => intro j g1 g2; omega
  | succ n ih =>
    intro j g1 g2
    rw [gm_72_4]
    by_cases q : j < 9
    · have e1 := ih (j + 1) (by omega) (by omega)
      rw [show ((j + 1 : Nat) : Int) = (j : Int) + 1 by omega] at e1
      have ei : ((r : Int) * 9 + (j : Int)).toNat = 9 * r + j := by omega
      simp (disch := first | omega | assumption) only [if_pos, if_neg, ei]
      simp only [sg] at e1
      exact e1
    · have e : j = 9 := by omega
      subst e
      simp (disch := first | omega | assumption) only [if_pos]
theorem sp_72 {s : gx_S} {k r : Nat} (h : gx_a 0 k 72 = true) (hr : r < 8) : gm_72 k r s = some (sg (fun c => s.1 k (9 * r + c)) 9, s) := sl_72 h hr 100000 0 (by omega) (by omega)
