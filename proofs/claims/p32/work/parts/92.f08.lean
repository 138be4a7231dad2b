/-! DENSITIES, as the law checks them; the surface -/
theorem r64_ (x : Int64) : -9223372036854775808 ≤ x.toInt ∧ x.toInt ≤ 9223372036854775807 := ⟨Int64.le_toInt x, by have : x.toInt < 9223372036854775808 := Int64.toInt_lt x; omega⟩
theorem r32_ (x : Int32) : -2147483648 ≤ x.toInt ∧ x.toInt ≤ 2147483647 := ⟨Int32.le_toInt x, by have : x.toInt < 2147483648 := Int32.toInt_lt x; omega⟩
section
variable {Ls : Nat} {xs : Nat → Int32} {f : Nat → Int} {R C : Nat} {m a g p n L : Nat} {pf : Nat → Nat → Int} {tb : Nat → Int} {δ : dS}
theorem sf_394e {q : Nat} {s : gx_S} (E : LM δ m a f R C) (hg : g < 3) (Q : QS f R C n pf L tb s) : ∃ u : gx_S, QS f R C n pf L tb u ∧ dm_255_394 Ls xs (q + 1) m g (R * C : Nat) 8 s δ = some (1, u, δ) := by
  obtain ⟨⟨⟨-, o1, -⟩, ⟨i0, i1, -⟩, -⟩, M, h7⟩ := E
  have N96 := MP_N M
  have R8 := M.1.2.2.1
  have C12 := M.1.2.2.2
  have g1 := qs_densest0 Q (g := g) (y := ((R * C : Nat) : Int)) hg (by unfold i32; omega) (by omega)
  have g2 := qs_densest0 Q (g := g) (y := -1) hg (by unfold i32; omega) (by omega)
  have g3 := qs_surface0 Q (g := g) (y := (R : Int)) (z := 0) (w := 0) hg (by unfold i32; omega) (by unfold i32; omega) (by omega)
  have g4 := qs_surface0 Q (g := g) (y := 0) (z := (C : Int)) (w := 0) hg (by unfold i32; omega) (by unfold i32; omega) (by omega)
  refine ⟨s, Q, ?_⟩
  rw [dm_255_394, if_pos (by omega), if_pos (by omega), g1, Option.bind_some]
  dsimp only
  rw [if_pos (by omega), if_neg (fun t => t rfl), g2, Option.bind_some]
  dsimp only
  rw [if_pos (by omega), if_neg (fun t => t rfl), if_pos o1, i0, g3, Option.bind_some]
  dsimp only
  rw [if_pos (by omega), if_neg (fun t => t rfl), i1, g4, Option.bind_some]
  dsimp only
  rw [if_pos (by omega), if_neg (fun t => t rfl)]
theorem sf_394 (E : LM δ m a f R C) (hg : g < 3) : ∀ (q y : Nat) (s : gx_S), 8 < q + y → y ≤ 8 → QS f R C n pf L tb s → ∃ u : gx_S, QS f R C n pf L tb u ∧ dm_255_394 Ls xs q m g (R * C : Nat) y s δ = some (1, u, δ) := by
  have E' := E
  obtain ⟨⟨⟨-, o1, -, -, -, -, -, h5, -⟩, -⟩, M, h7⟩ := E
  intro q
  induction q with
  | zero => intro y s h; omega
  | succ q ih =>
    intro y s h hy Q
    by_cases e : y = 8
    · rw [e]
      exact sf_394e E' hg Q
    · have hy' : y < 8 := by omega
      have nc := NC_96 M 1 (y : Int)
      rw [dm_255_394, if_pos (by omega), if_neg (by omega), if_pos o1, h5, Option.bind_some, cells_ s E' (.inr ⟨rfl, rfl⟩) (by omega), Option.bind_some]
      dsimp only
      rw [if_pos (by omega)]
      by_cases q0 : NC f R C 1 (y : Nat) = 0
      · obtain ⟨u1, g1, Q1⟩ := qs_dense Q h7 (g := g) (y := y) (z := 0) hg hy' (by unfold i32; omega)
        rw [if_neg (show ¬ ((0 ≤ (0 : Int) ∧ (0 : Int) ≤ 3) ∧ 0 < NC f R C 1 (y : Nat)) by omega)] at g1
        obtain ⟨u, z1, z2⟩ := ih (y + 1) u1 (by omega) (by omega) Q1
        refine ⟨u, z1, ?_⟩
        rw [if_neg (fun t => t q0), g1, Option.bind_some]
        dsimp only
        rw [if_pos (by omega), if_pos rfl, ← z2]
        rfl
      · have gr := (GV_r M h7 hg).2.2 y (by omega)
        obtain ⟨B, hB⟩ : ∃ B : Nat, NC f R C 1 (y : Nat) = B := ⟨(NC f R C 1 (y : Nat)).toNat, by omega⟩
        obtain ⟨A, hA⟩ : ∃ A : Nat, sg (fun k => GV f R C g k y) 8 = A := ⟨(sg (fun k => GV f R C g k y) 8).toNat, by omega⟩
        obtain ⟨u1, g1, Q1⟩ := qs_moved Q h7 (g := g) (o := -1) (z := (y : Int)) hg (by omega) (by omega)
        obtain ⟨u2, g2, Q2⟩ := qs_dense Q1 h7 (g := g) (y := y) (z := 0) hg hy' (by unfold i32; omega)
        obtain ⟨u3, g3, Q3⟩ := qs_dense Q2 h7 (g := g) (y := y) (z := 1) hg hy' (by unfold i32; omega)
        obtain ⟨u4, g4, Q4⟩ := qs_dense Q3 h7 (g := g) (y := y) (z := 2) hg hy' (by unfold i32; omega)
        obtain ⟨u5, g5, Q5⟩ := qs_dense Q4 h7 (g := g) (y := y) (z := 3) hg hy' (by unfold i32; omega)
        obtain ⟨u6, g6, Q6⟩ := qs_moved Q5 h7 (g := g) (o := -1) (z := (y : Int)) hg (by omega) (by omega)
        obtain ⟨u7, g7, Q7⟩ := qs_dense Q6 h7 (g := g) (y := y) (z := 4) hg hy' (by unfold i32; omega)
        obtain ⟨u, z1, z2⟩ := ih (y + 1) u7 (by omega) (by omega) Q7
        refine ⟨u, z1, ?_⟩
        rw [MVs_c, hA] at g1 g6
        rw [if_pos (show ((0 ≤ (0 : Int) ∧ (0 : Int) ≤ 3) ∧ 0 < NC f R C 1 (y : Nat)) by omega), hA, hB] at g2
        rw [if_pos (show ((0 ≤ (1 : Int) ∧ (1 : Int) ≤ 3) ∧ 0 < NC f R C 1 (y : Nat)) by omega), hA, hB] at g3
        rw [if_pos (show ((0 ≤ (2 : Int) ∧ (2 : Int) ≤ 3) ∧ 0 < NC f R C 1 (y : Nat)) by omega), hA, hB] at g4
        rw [if_pos (show ((0 ≤ (3 : Int) ∧ (3 : Int) ≤ 3) ∧ 0 < NC f R C 1 (y : Nat)) by omega), hA, hB, DA_3 (by omega) (by omega) (by omega)] at g5
        rw [if_neg (show ¬ ((0 ≤ (4 : Int) ∧ (4 : Int) ≤ 3) ∧ 0 < NC f R C 1 (y : Nat)) by omega)] at g7
        have hm := d_q (a := Int32.ofInt (A : Int)) (i_nz (x := (B : Int)) (by omega) (by omega))
        have hf := hm.fin (by decide)
        have hn := hf.noNaN
        have i6 := d6 hn
        have i3 := d3 (Jvm.Free.Fl.d2f_out hn)
        have i6r := d6 (Jvm.Free.Fl.drem_out hf d_one.1.noNaN d_one.2)
        obtain ⟨V, hV⟩ : ∃ V, V = FP.ddiv (FP.i2d (Int32.ofInt (A : Int))) (FP.i2d (Int32.ofInt (B : Int))) := ⟨_, rfl⟩
        rw [← hV] at g2 g3 g4 i6 i3 i6r
        have l1 := r64_ (V.toInt64)
        have l2 := r32_ ((FP.d2f V).toInt32)
        have l3 := r64_ ((FP.drem V FP.dconst1).toInt64)
        have D0 : DA V 0 = (V.toInt64).toInt := if_pos rfl
        have D1 : DA V 1 = ((FP.d2f V).toInt32).toInt := (if_neg (by decide)).trans (if_pos rfl)
        have D2 : DA V 2 = ((FP.drem V FP.dconst1).toInt64).toInt := (if_neg (by decide)).trans ((if_neg (by decide)).trans (if_pos rfl))
        rw [D0] at g2
        rw [D1] at g3
        rw [D2] at g4
        have e2 : (2 * (A : Int)) / (B : Int) = ((2 * A / B : Nat) : Int) := rfl
        have y2 := Nat.div_le_self (2 * A) B
        obtain ⟨AB, hAB⟩ : ∃ x, x = 2 * A / B := ⟨_, rfl⟩
        rw [← hAB] at g5 e2 y2
        rw [if_pos q0, g1, Option.bind_some]
        dsimp only
        rw [hB, ← hV, if_pos i6, g2, Option.bind_some]
        dsimp only
        rw [if_pos l1, if_neg (fun t => t rfl), g3, Option.bind_some]
        dsimp only
        rw [if_pos i3, if_pos (by omega), if_pos (by omega), if_neg (fun t => t rfl), g4, Option.bind_some]
        dsimp only
        rw [if_pos i6r, if_pos l3, if_neg (fun t => t rfl), g5, Option.bind_some]
        dsimp only
        rw [g6, Option.bind_some]
        dsimp only
        rw [e2, if_pos (by omega), if_pos (by omega), if_pos (by omega), if_pos (by omega), if_neg (fun t => t rfl), g7, Option.bind_some]
        dsimp only
        rw [if_pos (by omega), if_pos rfl, ← z2]
        rfl
/-- what falls to cells is what zones have; the densest first; densities -/
theorem surface_ {s : gx_S} (M : LM δ m a f R C) (hg : g < 3) (Q : QS f R C n pf L tb s) : ∃ (u : gx_S) (ε : dS), dm_255 Ls xs m g s δ = some (1, u, ε) ∧ QS f R C n pf L tb u ∧ DF δ.n 5 δ ε := by
  obtain ⟨m0, m1, m2, m3⟩ := M.1.1.1
  have N96 := MP_N M.2.1
  obtain ⟨X, x1, x2, x3, x4⟩ := living_ (Ls := Ls) (xs := xs) s M hg
  have MX := LM_DF x4 m1 m2 M
  have nX : δ.n < X.n := x2.2.1
  obtain ⟨u1, Q1, U1⟩ := sf_16 (Ls := Ls) (xs := xs) (p := δ.n) 100000 0 s (by omega) (by omega) ⟨MX, x2, x3⟩ hg Q
  obtain ⟨Y, hY⟩ : ∃ Y, Y = X.al 2 (R * C) := ⟨_, rfl⟩
  have fY : DF X.n 1 X Y := by rw [hY]; exact DF_al X _ _ (Nat.le_refl _) (by omega)
  have aY : AR Y 2 X.n (R * C) := by rw [hY]; exact ⟨by omega, by rw [da_n]; omega, by rw [da_sh, if_pos rfl]⟩
  have MY := LM_DF fY (by omega) (by omega) MX
  obtain ⟨u2, ε, Q2, w2, U2⟩ := sf_192 (Ls := Ls) (xs := xs) (p := X.n) hg (by omega) (by omega) 100000 0 u1 Y (by omega) (by omega) MY aY (fun i _ => .inl (by rw [hY, da_I, if_pos rfl])) Q1
  have Mε := LM_DF (DF_WM (Nat.le_refl _) w2) (by omega) (by omega) MY
  obtain ⟨u3, Q3, U3⟩ := sf_394 (Ls := Ls) (xs := xs) Mε hg 100000 0 u2 (by omega) (by omega) Q2
  refine ⟨u3, ε, ?_, Q3, DF_c (DF_tr x4 (DF_tr (DF_mono (by omega) (Nat.le_refl _) fY) (DF_WM (by omega) w2))) (by omega)⟩
  obtain ⟨-, o1, ⟨c1, -⟩, -, -, -, h4, -⟩ := MX.1.1
  unfold dm_255
  rw [x1, Option.bind_some]
  dsimp only
  rw [if_pos o1, h4, Option.bind_some, if_pos (AR_A c1), AR_2 c1]
  have U1' : dm_255_16 Ls xs 100000 m g δ.n (R * C : Nat) 0 s X = _ := U1
  rw [U1', ← hY]
  exact U2.trans U3
end
