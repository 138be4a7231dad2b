/-! THE REFERENCE'S SUMS OVER CELLS, ITS TABLE -/
/-- a weight or a cell of a pair of zones (none: any) -/
def ind (s : gx_S) (C g : Nat) (o z : Int) (b : Bool) (k : Nat) : Int := if (o = -1 ∨ cdx s C 0 k = o) ∧ (z = -1 ∨ cdx s C 1 k = z) then (if b = true then 1 else s.1 216 (32 + 4 * g + (cdx s C 2 k).toNat)) else 0
/-- what is asked of codes -/
def cok (s : gx_S) (R C : Nat) : Prop := (∀ k, k < R * C → 0 ≤ cdx s C 0 k ∧ cdx s C 0 k ≤ 8) ∧ (∀ k, k < R * C → 0 ≤ cdx s C 1 k ∧ cdx s C 1 k ≤ 8) ∧ (∀ k, k < R * C → 0 ≤ cdx s C 2 k ∧ cdx s C 2 k ≤ 3)
theorem sp_156 {s : gx_S} {R C : Nat} (h : mz s R C) (hc : cok s R C) (g k : Nat) (hg : g < 3) (hk : k < R * C) : gm_156 g k s = some (s.1 216 (32 + 4 * g + (cdx s C 2 k).toNat), s) := by
  obtain ⟨c1, c2⟩ := hc.2.2 k hk
  unfold gm_156
  rw [show (2 : Int) = ((2 : Nat) : Int) from rfl, sp_152 h 2 k (by omega) hk]
  simp (disch := first | omega | decide) only [if_pos, Option.bind_some]
  rw [show (32 + 4 * (g : Int) + cdx s C 2 k).toNat = 32 + 4 * g + (cdx s C 2 k).toNat by omega]
theorem sl_157 {s : gx_S} {R C : Nat} (h : mz s R C) (hc : cok s R C) (g : Nat) (o z : Int) (b : Bool) (hg : g < 3) (ho : -1 ≤ o ∧ o ≤ 8) (hz : -1 ≤ z ∧ z ≤ 8) : ∀ (n j : Nat), j ≤ R * C → R * C - j < n → gm_157_6 n g o z (gb b) (sg (ind s C g o z b) j) j s = some (sg (ind s C g o z b) (R * C), s) := by
  have hm : s.1 216 0 * s.1 216 1 = ((R * C : Nat) : Int) := by rw [h.1, h.2.1]; simp
  have hm2 : R * C ≤ 96 := Nat.le_trans (Nat.mul_le_mul h.2.2.1 h.2.2.2) (by omega)
  intro n
  induction n with
  | zero => intro j h1 h2; omega
  | succ n ih =>
    intro j h1 h2
    rw [gm_157_6, sp_151, hm]
    simp only [Option.bind_some]
    by_cases q : j < R * C
    · obtain ⟨a1, a2⟩ := hc.1 j q
      obtain ⟨b1, b2⟩ := hc.2.1 j q
      have e1 := ih (j + 1) (by omega) (by omega)
      rw [show ((j + 1 : Nat) : Int) = (j : Int) + 1 by omega] at e1
      have e0 : gm_152 0 j s = some (cdx s C 0 j, s) := sp_152 h 0 j (by omega) q
      have e2 : gm_152 1 j s = some (cdx s C 1 j, s) := sp_152 h 1 j (by omega) q
      have e3 := sp_156 h hc g j hg q
      have hb := gb_r b
      have t52 : ∀ x : Int, (x = 0 ∨ x = 1) → gm_157_52 (gm_157_6 n) g o z (gb b) (sg (ind s C g o z b) j) j x s = gm_157_6 n g o z (gb b) (sg (ind s C g o z b) j + (if x = 0 then 0 else if b = true then 1 else s.1 216 (32 + 4 * g + (cdx s C 2 j).toNat))) ((j : Int) + 1) s := by
        intro x hx
        unfold gm_157_52
        rcases hx with hx | hx <;> subst hx
        · simp (disch := first | omega | decide) only [if_pos, if_neg, gm_157_81]
        · cases b with
          | true =>
            have hgb := gbt
            simp (disch := first | omega | decide) only [if_pos, if_neg, gm_157_81]
          | false =>
            rw [e3]
            simp (disch := first | omega | decide) only [if_pos, if_neg, gm_157_81, gbf, Option.bind_some]
      have t31 : gm_157_31 (gm_157_6 n) g o z (gb b) (sg (ind s C g o z b) j) j s = gm_157_6 n g o z (gb b) (sg (ind s C g o z b) j + (if z = -1 ∨ cdx s C 1 j = z then (if b = true then 1 else s.1 216 (32 + 4 * g + (cdx s C 2 j).toNat)) else 0)) ((j : Int) + 1) s := by
        unfold gm_157_31
        by_cases z1 : z = -1
        · simp (disch := first | omega | decide) only [if_pos, if_neg]
          rw [t52 1 (Or.inr rfl)]
          simp (disch := first | omega | decide) only [if_pos, if_neg]
        · rw [e2]
          by_cases z2 : cdx s C 1 j = z
          · simp (disch := first | omega | decide) only [if_pos, if_neg, Option.bind_some]
            rw [t52 1 (Or.inr rfl)]
            simp (disch := first | omega | decide) only [if_pos, if_neg]
          · simp (disch := first | omega | decide) only [if_pos, if_neg, Option.bind_some]
            rw [t52 0 (Or.inl rfl)]
            simp (disch := first | omega | decide) only [if_pos, if_neg]
      rw [← e1]
      simp only [sg]
      by_cases o1 : o = -1
      · simp (disch := first | omega | decide) only [if_pos, if_neg]
        rw [t31]
        congr 2
        unfold ind
        by_cases z1 : z = -1 ∨ cdx s C 1 j = z
        · rw [if_pos z1, if_pos (show (o = -1 ∨ cdx s C 0 j = o) ∧ (z = -1 ∨ cdx s C 1 j = z) from ⟨Or.inl o1, z1⟩)]
        · rw [if_neg z1, if_neg (show ¬ ((o = -1 ∨ cdx s C 0 j = o) ∧ (z = -1 ∨ cdx s C 1 j = z)) from fun u => z1 u.2)]
      · rw [e0]
        by_cases o2 : cdx s C 0 j = o
        · simp (disch := first | omega | decide) only [if_pos, if_neg, Option.bind_some]
          rw [t31]
          congr 2
          unfold ind
          by_cases z1 : z = -1 ∨ cdx s C 1 j = z
          · rw [if_pos z1, if_pos (show (o = -1 ∨ cdx s C 0 j = o) ∧ (z = -1 ∨ cdx s C 1 j = z) from ⟨Or.inr o2, z1⟩)]
          · rw [if_neg z1, if_neg (show ¬ ((o = -1 ∨ cdx s C 0 j = o) ∧ (z = -1 ∨ cdx s C 1 j = z)) from fun u => z1 u.2)]
        · simp (disch := first | omega | decide) only [if_pos, if_neg, Option.bind_some]
          rw [t52 0 (Or.inl rfl)]
          simp (disch := first | omega | decide) only [if_pos, if_neg]
          congr 2
          unfold ind
          rw [if_neg fun u => u.1.elim o1 o2]
    · have e : j = R * C := by omega
      subst e
      simp (disch := first | omega | decide) only [if_pos]
theorem sp_157 {s : gx_S} {R C : Nat} (h : mz s R C) (hc : cok s R C) (g : Nat) (o z : Int) (b : Bool) (hg : g < 3) (ho : -1 ≤ o ∧ o ≤ 8) (hz : -1 ≤ z ∧ z ≤ 8) : gm_157 g o z (gb b) s = some (sg (ind s C g o z b) (R * C), s) := by
  have hm2 : R * C ≤ 96 := Nat.le_trans (Nat.mul_le_mul h.2.2.1 h.2.2.2) (by omega)
  exact sl_157 h hc g o z b hg ho hz 100000 0 (by omega) (by omega)
