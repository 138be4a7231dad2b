/-! THE REFERENCE's BALANCED TABLE: laysColumn -/
/-- the row's rest of the column is within its total, which divides K -/
def RT (s : gx_S) (R c K : Nat) : Prop := ∀ r, r < R → 0 ≤ s.2 225 (9 * r + c) ∧ s.2 225 (9 * r + c) ≤ s.1 223 r ∧ s.1 223 r ≤ 1000000 ∧ (0 < s.1 223 r → (s.1 223 r).toNat ∣ K)
theorem rr_B {s : gx_S} {R c K : Nat} (h : RT s R c K) : ∀ r, r < R → 0 ≤ rr s c K r ∧ rr s c K r ≤ K := fun r hr => by
  obtain ⟨h1, h2, h3, h4⟩ := h r hr
  unfold rr
  by_cases z : s.2 225 (9 * r + c) ≤ 0
  · rw [if_pos z]
    omega
  · rw [if_neg z]
    obtain ⟨k, hk⟩ := h4 (by omega)
    have t0 : 0 < (s.1 223 r).toNat := by omega
    have te : s.1 223 r = ((s.1 223 r).toNat : Nat) := by omega
    have e3 : (K : Int) / s.1 223 r = k := by
      rw [te, hk]
      show ((((s.1 223 r).toNat * k) / (s.1 223 r).toNat : Nat) : Int) = k
      rw [Nat.mul_div_cancel_left _ t0]
    have e4 : (K : Int) = s.1 223 r * k := by
      rw [te, hk]
      exact Int.natCast_mul _ k
    rw [e3, e4]
    refine ⟨Int.mul_nonneg h1 (by omega), Int.mul_le_mul_of_nonneg_right h2 (by omega)⟩
theorem sl_166 {R c K : Nat} (R8 : R ≤ 8) (hc : c < 9) (hK : 0 < K ∧ K ≤ 20000000000000000) : ∀ (n j : Nat) (s : gx_S) (d : Nat), R < n + j → j ≤ R → s.1 215 17 = R → s.2 215 30 = d → 0 < d → d ∣ K → s.2 215 29 * (K : Int) = (d : Int) * sg (rr s c K) j → RT s R c K → ∃ u : gx_S, gm_166_12 n c j s = some u ∧ u.1 = s.1 ∧ (∀ k i, ¬ (k = 215 ∧ (i = 29 ∨ i = 30)) → ¬ (k = 227 ∧ i = c) → ¬ (k = 228 ∧ i = c) → u.2 k i = s.2 k i) ∧ u.2 227 c = sg (rr s c K) R / K ∧ u.2 228 c = sg (rr s c K) R / K + if sg (rr s c K) R % K = 0 then 0 else 1 := by
  intro n
  induction n with
  | zero => intro j s d h; omega
  | succ n ih =>
    intro j s d h hj e17 e30 hd hdK e H
    have ce : ((j : Int) + 1) = ((j + 1 : Nat) : Int) := rfl
    have i5 : ((c : Int)).toNat = c := by omega
    have dK := Nat.le_of_dvd hK.1 hdK
    rw [gm_166_12, e17, if_pos (by omega), if_pos (by omega)]
    by_cases q : j = R
    · rw [q] at e
      have n0 : 0 ≤ sg (rr s c K) R := sg_nn fun k hk => (rr_B H k hk).1
      have n1 : sg (rr s c K) R ≤ 8 * (K : Int) := by
        have a := sg_le (f := rr s c K) (g := fun _ => (K : Int) * 1) (n := R) fun k hk => by
          show rr s c K k ≤ (K : Int) * 1
          have := (rr_B H k hk).2
          omega
        rw [sg_mul, sg_one] at a
        have b : (K : Int) * (R : Int) ≤ K * 8 := Int.mul_le_mul_of_nonneg_left (by omega) (by omega)
        omega
      obtain ⟨f1, f2⟩ := fr_div hd hK.1 e
      have x0 : 0 ≤ s.2 215 29 := by
        refine Int.nonneg_of_mul_nonneg_left (b := (K : Int)) ?_ (by omega)
        rw [e]
        exact Int.mul_nonneg (by omega) n0
      have x1 : s.2 215 29 ≤ 8 * d := by
        refine Int.le_of_mul_le_mul_right (a := (K : Int)) ?_ (by omega)
        rw [e]
        have : (d : Int) * sg (rr s c K) R ≤ d * (8 * K) := Int.mul_le_mul_of_nonneg_left n1 (by omega)
        calc (d : Int) * sg (rr s c K) R ≤ d * (8 * K) := this
          _ = 8 * d * K := by rw [← Int.mul_assoc, Int.mul_comm (d : Int) 8]
      have m0 := Int.emod_nonneg (s.2 215 29) (b := (d : Int)) (by omega)
      have m1 := Int.emod_lt_of_pos (s.2 215 29) (b := (d : Int)) (by omega)
      have y29 : ∀ v, (gw2 s 227 c v).2 215 29 = s.2 215 29 := fun v => by rw [gw2_2, if_neg (by omega)]
      have y30 : ∀ v, (gw2 s 227 c v).2 215 30 = d := fun v => by rw [gw2_2, if_neg (by omega), e30]
      have y27 : ∀ v, (gw2 s 227 c v).2 227 c = v := fun v => by rw [gw2_2, if_pos ⟨rfl, rfl⟩]
      rw [if_pos (by omega), e30, if_pos (by omega), if_pos (by omega), i5, y29, y30, if_pos (by omega), if_pos (by omega), y27]
      have fin : ∀ v : Int, v = 0 ∨ v = 1 → gm_166_107 c (s.2 215 29 / (d : Int)) v (gw2 s 227 c (s.2 215 29 / (d : Int))) = some (gw2 (gw2 s 227 c (s.2 215 29 / (d : Int))) 228 c (s.2 215 29 / (d : Int) + v)) := fun v hv => by
        unfold gm_166_107
        rw [sp_131 hv, Option.bind_some, if_pos (show -2147483648 ≤ v ∧ v ≤ 2147483647 by omega), if_pos (by omega), i5]
      have out : ∀ v : Int, (v = if sg (rr s c K) R % K = 0 then 0 else 1) → ∃ u : gx_S, some (gw2 (gw2 s 227 c (s.2 215 29 / (d : Int))) 228 c (s.2 215 29 / (d : Int) + v)) = some u ∧ u.1 = s.1 ∧ (∀ k i, ¬ (k = 215 ∧ (i = 29 ∨ i = 30)) → ¬ (k = 227 ∧ i = c) → ¬ (k = 228 ∧ i = c) → u.2 k i = s.2 k i) ∧ u.2 227 c = sg (rr s c K) R / K ∧ u.2 228 c = sg (rr s c K) R / K + if sg (rr s c K) R % K = 0 then 0 else 1 := fun v hv => by
        refine ⟨_, rfl, rfl, fun k i h1 h2 h3 => ?_, ?_, ?_⟩
        · rw [gw2_2, if_neg h3, gw2_2, if_neg h2]
        · rw [gw2_2, if_neg (by omega), gw2_2, if_pos ⟨rfl, rfl⟩, f1]
        · rw [gw2_2, if_pos ⟨rfl, rfl⟩, f1, hv]
      by_cases z : s.2 215 29 % (d : Int) ≤ 0
      · rw [if_pos z, fin 0 (.inl rfl)]
        exact out 0 (by rw [if_pos (f2.mp (by omega))])
      · rw [if_neg z, fin 1 (.inr rfl)]
        exact out 1 (by rw [if_neg (fun h => z (by rw [f2.mpr h]; exact Int.le_refl 0))])
    · have i1 : ((9 * (j : Int) + (c : Int))).toNat = 9 * j + c := by omega
      have i6 : ((j : Int)).toNat = j := by omega
      have hj' : j < R := by omega
      obtain ⟨h1, h2, h3, h4⟩ := H j hj'
      have h72 : 0 ≤ 9 * (j : Int) + (c : Int) ∧ 9 * (j : Int) + (c : Int) < 72 := by omega
      have gl : -9223372036854775808 ≤ s.2 225 (9 * j + c) ∧ s.2 225 (9 * j + c) ≤ 9223372036854775807 := by omega
      have gi : -2147483648 ≤ s.1 223 j ∧ s.1 223 j ≤ 2147483647 := by omega
      have h8 : 0 ≤ (j : Int) ∧ (j : Int) < 8 := by omega
      rw [if_neg (by omega), sp_160, Option.bind_some, if_pos h72]
      show ∃ u : gx_S, (if (-9223372036854775808 ≤ s.2 225 (9 * (j : Int) + (c : Int)).toNat ∧ s.2 225 (9 * (j : Int) + (c : Int)).toNat ≤ 9223372036854775807) then (if s.2 225 (9 * (j : Int) + (c : Int)).toNat ≤ 0 then _ else _) else _) = some u ∧ _
      rw [i1, if_pos gl]
      have sgs : sg (rr s c K) (j + 1) = sg (rr s c K) j + rr s c K j := rfl
      by_cases z : s.2 225 (9 * j + c) ≤ 0
      · rw [if_pos z]
        unfold gm_166_56
        rw [ce]
        exact ih (j + 1) s d (by omega) (by omega) e17 e30 hd hdK (by
          rw [sgs, show rr s c K j = 0 from if_pos z, Int.add_zero]
          exact e) H
      · rw [if_neg z]
        have t0 : 0 < (s.1 223 j).toNat := by omega
        have te : s.1 223 j = ((s.1 223 j).toNat : Nat) := by omega
        obtain ⟨L1, L2⟩ := add_fr (x := s.2 225 (9 * j + c)) hd t0 hdK (h4 (by omega)) e
        have L3 := Nat.le_of_dvd hK.1 L1
        have c65 := sp_165 (s := s) (x := s.2 225 (9 * j + c)) e30 hd t0 (by omega) (by omega)
        show ∃ u : gx_S, ((gm_160 j c s).bind _) = some u ∧ _
        rw [sp_160, Option.bind_some, if_pos h72, if_pos h8]
        show ∃ u : gx_S, (if (-2147483648 ≤ s.1 223 (j : Int).toNat ∧ s.1 223 (j : Int).toNat ≤ 2147483647) then ((gm_165 (s.2 225 (9 * (j : Int) + (c : Int)).toNat) (s.1 223 (j : Int).toNat) s).bind _) else _) = some u ∧ _
        rw [i1, i6, if_pos gi, te, c65, Option.bind_some]
        have L0 := Nat.lcm_pos hd t0
        generalize Nat.lcm d (s.1 223 j).toNat = L at *
        obtain ⟨t, ht⟩ : ∃ t : gx_S, t = gw2 (gw2 s 215 29 (s.2 215 29 * ((L : Int) / (d : Int)) + s.2 225 (9 * j + c) * ((L : Int) / (((s.1 223 j).toNat : Nat) : Int)))) 215 30 (L : Int) := ⟨_, rfl⟩
        rw [← ht]
        unfold gm_166_56
        rw [ce]
        have t1 : t.1 = s.1 := by rw [ht]; rfl
        have t2 : ∀ k i, ¬ (k = 215 ∧ (i = 29 ∨ i = 30)) → t.2 k i = s.2 k i := fun k i h => by
          rw [ht, gw2_2, if_neg (by omega), gw2_2, if_neg (by omega)]
        have t25 : ∀ i, t.2 225 i = s.2 225 i := fun i => t2 225 i (by omega)
        have tr := rr_o t1 t25 c (K : Int)
        have t29 : t.2 215 29 = s.2 215 29 * ((L : Int) / (d : Int)) + s.2 225 (9 * j + c) * ((L : Int) / (((s.1 223 j).toNat : Nat) : Int)) := by
          rw [ht, gw2_2, if_neg (by omega), gw2_2, if_pos ⟨rfl, rfl⟩]
        have t30 : t.2 215 30 = (L : Int) := by
          rw [ht, gw2_2, if_pos ⟨rfl, rfl⟩]
        obtain ⟨u, u1, u2, u3, u4⟩ := ih (j + 1) t L (by omega) (by omega) (by rw [t1]; exact e17) t30 L0 L1 (by
          rw [tr, sgs, t29, L2, show rr s c K j = s.2 225 (9 * j + c) * ((K : Int) / s.1 223 j) from if_neg z, ← te]) (fun r hr => by
          rw [t1, t25]
          exact H r hr)
        rw [tr] at u4
        exact ⟨u, u1, u2.trans t1, fun k i x1 x2 x3 => (u3 k i x1 x2 x3).trans (t2 k i x1), u4⟩
theorem sp_166 {R c K : Nat} {s : gx_S} (R8 : R ≤ 8) (hc : c < 9) (hK : 0 < K ∧ K ≤ 20000000000000000) (e17 : s.1 215 17 = R) (H : RT s R c K) : ∃ u : gx_S, gm_166 c s = some u ∧ u.1 = s.1 ∧ (∀ k i, ¬ (k = 215 ∧ (i = 29 ∨ i = 30)) → ¬ (k = 227 ∧ i = c) → ¬ (k = 228 ∧ i = c) → u.2 k i = s.2 k i) ∧ u.2 227 c = sg (rr s c K) R / K ∧ u.2 228 c = sg (rr s c K) R / K + if sg (rr s c K) R % K = 0 then 0 else 1 := by
  have t2 : ∀ k i, ¬ (k = 215 ∧ (i = 29 ∨ i = 30)) → (gw2 (gw2 s 215 29 0) 215 30 1).2 k i = s.2 k i := fun k i h => by
    rw [gw2_2, if_neg (by omega), gw2_2, if_neg (by omega)]
  have t25 : ∀ i, (gw2 (gw2 s 215 29 0) 215 30 1).2 225 i = s.2 225 i := fun i => t2 225 i (by omega)
  have tr := rr_o (s := s) (u := gw2 (gw2 s 215 29 0) 215 30 1) rfl t25 c (K : Int)
  obtain ⟨u, u1, u2, u3, u4⟩ := sl_166 R8 hc hK 100000 0 (gw2 (gw2 s 215 29 0) 215 30 1) 1 (by omega) (by omega) e17 (by rw [gw2_2, if_pos ⟨rfl, rfl⟩]; rfl) (by omega) (Nat.one_dvd K) (by
    rw [gw2_2, if_neg (by omega), gw2_2, if_pos ⟨rfl, rfl⟩]
    simp only [sg]
    omega) (fun r hr => by
    rw [t25]
    exact H r hr)
  rw [tr] at u4
  exact ⟨u, u1, u2, fun k i x1 x2 x3 => (u3 k i x1 x2 x3).trans (t2 k i x1), u4⟩
