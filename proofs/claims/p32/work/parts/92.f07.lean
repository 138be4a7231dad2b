/-! THE DENSEST FIRST, as the law checks it -/
section
variable {Ls : Nat} {xs : Nat → Int32} {f : Nat → Int} {R C : Nat} {m a g p n L : Nat} {pf : Nat → Nat → Int} {tb : Nat → Int}
/-- of two shares in lowest terms -/
theorem frc_ {T U d T' U' d' : Nat} (hd : d = Nat.gcd T U) (hd' : d' = Nat.gcd T' U') (d0 : 0 < d) (d0' : 0 < d') : (T' * U < T * U' ↔ (T' / d') * (U / d) < (T / d) * (U' / d')) ∧ (T' * U = T * U' ↔ (T' / d') * (U / d) = (T / d) * (U' / d')) := by
  obtain ⟨t, ht⟩ : d ∣ T := by rw [hd]; exact Nat.gcd_dvd_left T U
  obtain ⟨u, hu⟩ : d ∣ U := by rw [hd]; exact Nat.gcd_dvd_right T U
  obtain ⟨t', ht'⟩ : d' ∣ T' := by rw [hd']; exact Nat.gcd_dvd_left T' U'
  obtain ⟨u', hu'⟩ : d' ∣ U' := by rw [hd']; exact Nat.gcd_dvd_right T' U'
  have a1 : T / d = t := by rw [ht, Nat.mul_div_cancel_left _ d0]
  have a2 : U / d = u := by rw [hu, Nat.mul_div_cancel_left _ d0]
  have a3 : T' / d' = t' := by rw [ht', Nat.mul_div_cancel_left _ d0']
  have a4 : U' / d' = u' := by rw [hu', Nat.mul_div_cancel_left _ d0']
  have b1 : T' * U = d * d' * (t' * u) := by rw [ht', hu]; ac_rfl
  have b2 : T * U' = d * d' * (t * u') := by rw [ht, hu']; ac_rfl
  have D : 0 < d * d' := Nat.mul_pos d0 d0'
  rw [a1, a2, a3, a4, b1, b2]
  exact ⟨⟨fun h => Nat.lt_of_mul_lt_mul_left h, fun h => Nat.mul_lt_mul_of_pos_left h D⟩, ⟨fun h => Nat.eq_of_mul_eq_mul_left D h, fun h => by rw [h]⟩⟩
theorem SN_1 {δ : dS} {k o N : Nat} (h : ∀ i, i < N → δ.I p i = 0 ∨ (δ.I p i = 1 ∧ AHn f R C g i N < k)) (e : AHn f R C g o N = k) : ∀ i, i < N → (δ.w p o (gn2 1)).I p i = 0 ∨ ((δ.w p o (gn2 1)).I p i = 1 ∧ AHn f R C g i N < ((k + 1 : Nat) : Int)) := fun i hi => by
  rw [dw_I]
  by_cases q : i = o
  · rw [if_pos ⟨rfl, q⟩, gn2_1, q, e]
    exact .inr ⟨rfl, by omega⟩
  · rw [if_neg (fun t => q t.2)]
    rcases h i hi with t | ⟨t1, t2⟩
    · exact .inl t
    · exact .inr ⟨t1, by omega⟩
theorem sf_192 (hg : g < 3) (hm : m + 12 < p) (ha : a < p) : ∀ (q k : Nat) (s : gx_S) (δ : dS), R * C < q + k → k ≤ R * C → LM δ m a f R C → AR δ 2 p (R * C) → (∀ i, i < R * C → δ.I p i = 0 ∨ (δ.I p i = 1 ∧ AHn f R C g i (R * C) < k)) → QS f R C n pf L tb s → ∃ (u : gx_S) (ε : dS), QS f R C n pf L tb u ∧ WM δ ε p (p + 1) ∧ dm_255_192 Ls xs q m g (R * C : Nat) p k s δ = dm_255_394 Ls xs 100000 m g (R * C : Nat) 0 u ε := by
  intro q
  induction q with
  | zero => intro k s δ h; omega
  | succ q ih =>
    intro k s δ h hk E A S Q
    have E' := E
    obtain ⟨⟨⟨-, o1, -⟩, ⟨i0, i1, -⟩, -⟩, M, h7⟩ := E
    have N96 := MP_N M
    rw [dm_255_192, if_pos (by omega), if_pos (by omega)]
    by_cases e : k = R * C
    · rw [if_pos (by omega)]
      exact ⟨s, δ, Q, WM_rf _ _ _, rfl⟩
    · have hk' : k < R * C := by omega
      obtain ⟨u1, o, g1, Q1, oN, oA⟩ := qs_densest Q h7 hg hk'
      obtain ⟨k1, k2⟩ := rc_k oN
      have C12 := M.1.2.2.2
      have R8 := M.1.2.2.1
      have od : o / C * C + o % C = o := dm_k
      obtain ⟨A1, hA1⟩ : ∃ A1, A1 = o / C := ⟨_, rfl⟩
      obtain ⟨B1, hB1⟩ : ∃ B1, B1 = o % C := ⟨_, rfl⟩
      have s1 : ((12 * A1 + B1 : Nat) : Int) % 12 = ((B1 : Nat) : Int) := by omega
      have s2 : ((12 * A1 + B1 : Nat) : Int) / 12 = ((A1 : Nat) : Int) := by omega
      have s3 : ((A1 : Nat) : Int) * (C : Int) + (B1 : Nat) = (o : Int) := by rw [← Int.natCast_mul, ← Int.natCast_add, hA1, hB1, od]
      have So : δ.I p o = 0 := by
        rcases S o oN with t | t
        · exact t
        · omega
      obtain ⟨X, hX⟩ : ∃ X, X = δ.w p o (gn2 1) := ⟨_, rfl⟩
      have wX : WM δ X p (p + 1) := by rw [hX]; exact WM_w δ o _ (by omega)
      have S1 := SN_1 S oA
      rw [← hX] at S1
      rw [← hA1, ← hB1] at g1
      by_cases k0 : k = 0
      · obtain ⟨u, ε, z1, z2, z3⟩ := ih (k + 1) u1 X (by omega) (by omega) (LM_DF (DF_WM (Nat.le_refl _) wX) (by omega) (by omega) E') (by rw [hX]; exact A) S1 Q1
        refine ⟨u, ε, z1, WM_tr wX z2, ?_⟩
        rw [if_neg (by omega), g1, Option.bind_some]
        dsimp only
        rw [s1, s2, i0, i1, s3, if_pos (by omega), if_pos o1, if_pos (by omega), if_neg (by omega), if_pos (by omega), if_pos (by omega), if_neg (by omega), if_pos (by omega), if_pos (by omega), if_neg (by omega), if_pos (AR_A A), if_pos (AR_I A oN), Int.toNat_natCast, So, if_pos (by decide), if_pos rfl, Option.bind_some, ← hX, if_neg (fun t => t (by omega)), ← z3]
        rfl
      · obtain ⟨u2, o', g2, Q2, oN', oA'⟩ := qs_densest Q1 h7 hg (show k - 1 < R * C by omega)
        obtain ⟨k1', k2'⟩ := rc_k oN'
        have od' : o' / C * C + o' % C = o' := dm_k
        obtain ⟨u3, T', U', d', Q3, hT', hU', hd', ⟨y1, y2, y3, y4, y5⟩, g3⟩ := sfc_ M h7 hg oN' Q2 (w := 0) (.inl rfl)
        obtain ⟨u4, T, U, d, Q4, hT, hU, hd, ⟨x1, x2, x3, x4, x5⟩, g4⟩ := sfc_ M h7 hg oN Q3 (w := 1) (.inr rfl)
        obtain ⟨u5, Ta, Ua, da, Q5, hTa, hUa, hda, -, g5⟩ := sfc_ M h7 hg oN Q4 (w := 0) (.inl rfl)
        obtain ⟨u6, Tb, Ub, db, Q6, hTb, hUb, hdb, -, g6⟩ := sfc_ M h7 hg oN' Q5 (w := 1) (.inr rfl)
        have ea1 : Ta = T := by omega
        have ea2 : Ua = U := by omega
        have eb1 : Tb = T' := by omega
        have eb2 : Ub = U' := by omega
        rw [ea1, ea2] at hda
        rw [eb1, eb2] at hdb
        rw [← hd] at hda
        rw [← hd'] at hdb
        rw [ea1, hda] at g5
        rw [eb2, hdb] at g6
        rw [if_neg (fun t => t rfl)] at g3 g5
        rw [if_pos (by decide)] at g4 g6
        obtain ⟨A2, hA2⟩ : ∃ A2, A2 = o' / C := ⟨_, rfl⟩
        obtain ⟨B2, hB2⟩ : ∃ B2, B2 = o' % C := ⟨_, rfl⟩
        rw [← hA2, ← hB2] at g2 g3 g6
        rw [← hA1, ← hB1] at g4 g5
        have s1' : ((12 * A2 + B2 : Nat) : Int) % 12 = ((B2 : Nat) : Int) := by omega
        have s2' : ((12 * A2 + B2 : Nat) : Int) / 12 = ((A2 : Nat) : Int) := by omega
        have ne : o' ≠ o := fun t => by rw [t] at oA'; omega
        have ah : AH f R C g o' o := by
          rcases AH_tot (f := f) (R := R) (C := C) (g := g) ne with t | t
          · exact t
          · have := AHn_lt (fun k hk => unv_p M h7 hg hk) oN oN' t
            omega
        obtain ⟨fr1, fr2⟩ := frc_ hd hd' x1 y1
        have ah' : (T' * U = T * U' ∧ o' < o) ∨ T * U' < T' * U := by
          rcases ah with ⟨t1, t2⟩ | t
          · rw [hT, hT', hU, hU', ← Int.natCast_mul, ← Int.natCast_mul] at t1
            exact .inl ⟨by omega, t2⟩
          · rw [hT, hT', hU, hU', ← Int.natCast_mul, ← Int.natCast_mul] at t
            exact .inr (by omega)
        have b1 : T' / d' * (U / d) ≤ 809919 * 864 := Nat.mul_le_mul (Nat.le_trans (Nat.div_le_self _ _) y4) (Nat.le_trans (Nat.div_le_self _ _) x3)
        have b2 : T / d * (U' / d') ≤ 809919 * 864 := Nat.mul_le_mul (Nat.le_trans (Nat.div_le_self _ _) x4) (Nat.le_trans (Nat.div_le_self _ _) y3)
        have c1 : ((T' / d' : Nat) : Int) * ((U / d : Nat) : Int) = ((T' / d' * (U / d) : Nat) : Int) := rfl
        have c2 : ((T / d : Nat) : Int) * ((U' / d' : Nat) : Int) = ((T / d * (U' / d') : Nat) : Int) := rfl
        obtain ⟨P1, hP1⟩ : ∃ x, x = T' / d' * (U / d) := ⟨_, rfl⟩
        obtain ⟨P2, hP2⟩ : ∃ x, x = T / d * (U' / d') := ⟨_, rfl⟩
        rw [← hP1] at b1 c1 fr1 fr2
        rw [← hP2] at b2 c2 fr1 fr2
        obtain ⟨u, ε, z1, z2, z3⟩ := ih (k + 1) u6 X (by omega) (by omega) (LM_DF (DF_WM (Nat.le_refl _) wX) (by omega) (by omega) E') (by rw [hX]; exact A) S1 Q6
        refine ⟨u, ε, z1, WM_tr wX z2, ?_⟩
        rw [if_neg (by omega), g1, Option.bind_some]
        dsimp only
        rw [s1, s2, i0, i1, s3, if_pos (by omega), if_pos o1, if_pos (by omega), if_neg (by omega), if_pos (by omega), if_pos (by omega), if_neg (by omega), if_pos (by omega), if_pos (by omega), if_neg (by omega), if_pos (AR_A A), if_pos (AR_I A oN), Int.toNat_natCast, So, if_pos (by decide), if_pos rfl, Option.bind_some, ← hX, if_pos (by omega), show (k : Int) - 1 = ((k - 1 : Nat) : Int) by omega, g2, Option.bind_some]
        dsimp only
        rw [s1', s2', if_pos (by omega), g3, Option.bind_some]
        dsimp only
        rw [g4, Option.bind_some]
        dsimp only
        rw [g5, Option.bind_some]
        dsimp only
        rw [g6, Option.bind_some]
        dsimp only
        rw [c1, c2, if_pos (by omega), if_pos (by omega)]
        have nl : ¬ P1 < P2 := fun t => by
          have := fr1.mpr t
          rcases ah' with ⟨t1, -⟩ | t <;> omega
        rw [if_neg (by omega)]
        by_cases eq : P1 = P2
        · have lt : o' < o := by
            have := fr2.mpr eq
            rcases ah' with ⟨-, t2⟩ | t
            · exact t2
            · omega
          have le : 12 * A2 + B2 ≤ 12 * A1 + B1 := by
            have q1 : ¬ A1 < A2 := fun t => by
              have h := Nat.mul_le_mul_right C (show A1 + 1 ≤ A2 by omega)
              rw [Nat.succ_mul] at h
              rw [← hA1, ← hB1] at od
              rw [← hA2, ← hB2] at od'
              omega
            by_cases q2 : A2 = A1
            · rw [← hA1, ← hB1] at od
              rw [← hA2, ← hB2, q2] at od'
              omega
            · omega
          rw [if_neg (fun t => t (by omega)), if_pos (by omega), if_pos (by omega), ← z3]
          rfl
        · rw [if_pos (by omega), ← z3]
          rfl
end
