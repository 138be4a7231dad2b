/-! THE ORDER OF CELLS: it is one, and a sorted row of them tells how many come ahead -/
abbrev AH (f : Nat → Int) (R C g a b : Nat) : Prop := (tpv f R C g a * unv f R C g b = tpv f R C g b * unv f R C g a ∧ a < b) ∨ tpv f R C g b * unv f R C g a < tpv f R C g a * unv f R C g b
theorem AH_irr (f : Nat → Int) (R C g a : Nat) : ¬ AH f R C g a a := by
  unfold AH
  omega
theorem AH_tot {f : Nat → Int} {R C g a b : Nat} (h : a ≠ b) : AH f R C g a b ∨ AH f R C g b a := by
  unfold AH
  generalize tpv f R C g a * unv f R C g b = p
  generalize tpv f R C g b * unv f R C g a = q
  omega
theorem AH_asy {f : Nat → Int} {R C g a b : Nat} (h : AH f R C g a b) : ¬ AH f R C g b a := by
  unfold AH at h ⊢
  generalize tpv f R C g a * unv f R C g b = p at h ⊢
  generalize tpv f R C g b * unv f R C g a = q at h ⊢
  omega
theorem fr_tr {Ta Tb Tc Ua Ub Uc : Int} {a b c : Nat} (pa : 0 < Ua) (pb : 0 < Ub) (pc : 0 < Uc) (h1 : (Ta * Ub = Tb * Ua ∧ a < b) ∨ Tb * Ua < Ta * Ub) (h2 : (Tb * Uc = Tc * Ub ∧ b < c) ∨ Tc * Ub < Tb * Uc) : (Ta * Uc = Tc * Ua ∧ a < c) ∨ Tc * Ua < Ta * Uc := by
  have f1 : Ub * (Ta * Uc) = (Ta * Ub) * Uc := by rw [Int.mul_comm Ub, Int.mul_assoc, Int.mul_assoc, Int.mul_comm Uc]
  have f2 : (Tb * Ua) * Uc = (Tb * Uc) * Ua := by rw [Int.mul_assoc, Int.mul_assoc, Int.mul_comm Ua]
  have f3 : (Tc * Ub) * Ua = Ub * (Tc * Ua) := by rw [Int.mul_comm Ub, Int.mul_assoc, Int.mul_assoc, Int.mul_comm Ua]
  rcases h1 with ⟨h1, i1⟩ | h1
  · rcases h2 with ⟨h2, i2⟩ | h2
    · refine .inl ⟨Int.eq_of_mul_eq_mul_left (show Ub ≠ 0 by omega) ?_, by omega⟩
      rw [f1, h1, f2, h2, f3]
    · refine .inr (Int.lt_of_mul_lt_mul_left (a := Ub) ?_ (by omega))
      rw [← f3, f1, h1, f2]
      exact Int.mul_lt_mul_of_pos_right h2 pa
  · refine .inr (Int.lt_of_mul_lt_mul_left (a := Ub) ?_ (by omega))
    rw [← f3, f1]
    have k1 := Int.mul_lt_mul_of_pos_right h1 pc
    have k2 : (Tc * Ub) * Ua ≤ (Tb * Uc) * Ua := by
      rcases h2 with ⟨h2, _⟩ | h2
      · rw [h2]
        exact Int.le_refl _
      · exact Int.mul_le_mul_of_nonneg_right (by omega) (by omega)
    rw [← f2] at k2
    omega
theorem AH_tr {f : Nat → Int} {R C g a b c : Nat} (pa : 0 < unv f R C g a) (pb : 0 < unv f R C g b) (pc : 0 < unv f R C g c) (h1 : AH f R C g a b) (h2 : AH f R C g b c) : AH f R C g a c := fr_tr pa pb pc h1 h2
/-- a sum over a row that is another order of the same -/
theorem sg_perm {m : Nat} {σ : Nat → Nat} (h : ∀ i, i < m → σ i < m) (inj : ∀ i j, i < m → j < m → σ i = σ j → i = j) (F : Nat → Int) : sg (fun i => F (σ i)) m = sg F m := by
  have c1 : ∀ b, sg (fun i => if σ i = b then (1 : Int) else 0) m ≤ 1 := by
    intro b
    by_cases q : ∃ i, i < m ∧ σ i = b
    · obtain ⟨i, hi, e⟩ := q
      rw [sg_single hi fun c hc hn => if_neg fun z => hn (inj c i hc hi (z.trans e.symm)), if_pos e]
      exact Int.le_refl _
    · rw [sg_z fun k hk => if_neg fun z => q ⟨k, hk, z⟩]
      decide
  have c2 : sg (fun b => sg (fun i => if σ i = b then (1 : Int) else 0) m) m = m := by
    rw [sg_swap (fun b i => if σ i = b then (1 : Int) else 0) m m]
    rw [sg_eq (g := fun _ => 1) fun i hi => by
      show sg (fun b => if σ i = b then (1 : Int) else 0) m = 1
      rw [sg_single (h i hi) fun c hc hn => if_neg fun z => hn z.symm, if_pos rfl], sg_one]
  have c3 : ∀ b, b < m → sg (fun i => if σ i = b then (1 : Int) else 0) m = 1 := by
    intro b hb
    by_cases q : sg (fun i => if σ i = b then (1 : Int) else 0) m = 1
    · exact q
    · have l := sg_lt (f := fun b => sg (fun i => if σ i = b then (1 : Int) else 0) m) (g := fun _ => 1) (n := m) (i := b) (fun k _ => c1 k) hb (by have := c1 b; show sg _ m < 1; omega)
      rw [c2, sg_one] at l
      omega
  have e1 : sg (fun i => F (σ i)) m = sg (fun i => sg (fun b => F b * (if σ i = b then (1 : Int) else 0)) m) m := sg_eq fun i hi => by
    show F (σ i) = sg (fun b => F b * (if σ i = b then (1 : Int) else 0)) m
    rw [sg_single (h i hi) fun c hc hn => by rw [if_neg fun z => hn z.symm, Int.mul_zero], if_pos rfl, Int.mul_one]
  rw [e1, sg_swap (fun i b => F b * (if σ i = b then (1 : Int) else 0)) m m]
  exact sg_eq fun b hb => by
    show sg (fun i => F b * (if σ i = b then (1 : Int) else 0)) m = F b
    rw [sg_mul (F b) (fun i => if σ i = b then (1 : Int) else 0) m, c3 b hb, Int.mul_one]
theorem sg_bel {y m : Nat} (h : y ≤ m) : sg (fun i => if i < y then (1 : Int) else 0) m = y := by
  rw [sg_cut0 h fun k h1 _ => if_neg (by omega), sg_eq (g := fun _ => 1) fun k hk => if_pos hk, sg_one]
/-- cells in their order -/
def OY (f : Nat → Int) (R C g : Nat) (X : Nat → Int) (c : Nat) : Prop := (∀ j, j < c → ∃ o : Nat, X j = o ∧ o < c) ∧ ∀ i j, i < j → j < c → AH f R C g (X i).toNat (X j).toNat
theorem OY_QK {f : Nat → Int} {R C g : Nat} {X : Nat → Int} (h : OY f R C g X (R * C)) : ∀ k, k < R * C → QK f R C g k (X k) := by
  intro y hy
  obtain ⟨h1, h2⟩ := h
  have b : ∀ i, i < R * C → (X i).toNat < R * C := fun i hi => by
    obtain ⟨o, e1, e2⟩ := h1 i hi
    rw [e1]
    omega
  have inj : ∀ i j, i < R * C → j < R * C → (X i).toNat = (X j).toNat → i = j := by
    intro i j hi hj e
    by_cases q : i < j
    · have := h2 i j q hj
      rw [e] at this
      exact absurd this (AH_irr f R C g _)
    · by_cases q2 : j < i
      · have := h2 j i q2 hi
        rw [e] at this
        exact absurd this (AH_irr f R C g _)
      · omega
  obtain ⟨o, e1, e2⟩ := h1 y hy
  have hm : ((R * C : Nat) : Int) = R * C := Int.natCast_mul R C
  refine ⟨by omega, by rw [e1, ← hm]; omega, ?_⟩
  unfold AHn
  rw [← sg_perm (σ := fun i => (X i).toNat) b inj (fun b => gb (AHb f R C g b (X y).toNat))]
  rw [sg_eq (g := fun i => if i < y then (1 : Int) else 0) fun i hi => ?_, sg_bel (Nat.le_of_lt hy)]
  show gb (decide (AH f R C g (X i).toNat (X y).toNat)) = _
  by_cases q : i < y
  · rw [decide_eq_true (h2 i y q hy), if_pos q]
    rfl
  · rw [if_neg q]
    by_cases q2 : i = y
    · rw [q2, decide_eq_false (AH_irr f R C g _)]
      rfl
    · rw [decide_eq_false (AH_asy (h2 y i (by omega) hi))]
      rfl
/-- the same with a hole at p, where c is to stand -/
def HO (f : Nat → Int) (R C g : Nat) (X : Nat → Int) (c p : Nat) : Prop := (∀ j, j ≤ c → j ≠ p → ∃ o : Nat, X j = o ∧ o < c) ∧ (∀ i j, i < j → j ≤ c → i ≠ p → j ≠ p → AH f R C g (X i).toNat (X j).toNat) ∧ ∀ j, p < j → j ≤ c → AH f R C g c (X j).toNat
theorem HO_put {f : Nat → Int} {R C g c p : Nat} {X Y : Nat → Int} (hU : ∀ k, k < R * C → 0 < unv f R C g k) (hc : c < R * C) (hp : p ≤ c) (h : HO f R C g X c p) (hl : p = 0 ∨ AH f R C g (X (p - 1)).toNat c) (e1 : Y p = c) (e2 : ∀ j, j ≠ p → Y j = X j) : OY f R C g Y (c + 1) := by
  obtain ⟨h1, h2, h3⟩ := h
  have ec : (Y p).toNat = c := by rw [e1]; omega
  have u : ∀ j, j ≤ c → j ≠ p → 0 < unv f R C g (X j).toNat := fun j hj hn => by
    obtain ⟨o, q1, q2⟩ := h1 j hj hn
    exact hU _ (by rw [q1]; omega)
  refine ⟨fun j hj => ?_, fun i j hij hj => ?_⟩
  · by_cases q : j = p
    · rw [q, e1]
      exact ⟨c, rfl, by omega⟩
    · obtain ⟨o, q1, q2⟩ := h1 j (by omega) q
      exact ⟨o, (e2 j q).trans q1, by omega⟩
  · by_cases qj : j = p
    · rw [qj, ec, e2 i (by omega)]
      rcases hl with hl | hl
      · omega
      · by_cases q : i = p - 1
        · rw [q]
          exact hl
        · exact AH_tr (u i (by omega) (by omega)) (u (p - 1) (by omega) (by omega)) (hU c hc) (h2 i (p - 1) (by omega) (by omega) (by omega) (by omega)) hl
    · by_cases qi : i = p
      · rw [qi, ec, e2 j qj]
        exact h3 j (by omega) (by omega)
      · rw [e2 i qi, e2 j qj]
        exact h2 i j hij (by omega) qi qj
theorem HO_move {f : Nat → Int} {R C g c p : Nat} {X Y : Nat → Int} (hp : p + 1 ≤ c) (h : HO f R C g X c (p + 1)) (hl : AH f R C g c (X p).toNat) (e1 : Y (p + 1) = X p) (e2 : ∀ j, j ≠ p + 1 → Y j = X j) : HO f R C g Y c p := by
  obtain ⟨h1, h2, h3⟩ := h
  refine ⟨fun j hj hn => ?_, fun i j hij hj ni nj => ?_, fun j h j2 => ?_⟩
  · by_cases q : j = p + 1
    · rw [q, e1]
      exact h1 p (by omega) (by omega)
    · rw [e2 j q]
      exact h1 j hj q
  · by_cases qj : j = p + 1
    · rw [qj, e1, e2 i (by omega)]
      exact h2 i p (by omega) (by omega) (by omega) (by omega)
    · by_cases qi : i = p + 1
      · rw [qi, e1, e2 j qj]
        exact h2 p j (by omega) hj (by omega) qj
      · rw [e2 i qi, e2 j qj]
        exact h2 i j hij hj qi qj
  · by_cases q : j = p + 1
    · rw [q, e1]
      exact hl
    · rw [e2 j q]
      exact h3 j (by omega) j2
