/-! WHAT IS MOVED: the columns; all of it -/
section
variable {Ls : Nat} {xs : Nat → Int32} {f : Nat → Int} {R C : Nat} {m a g p t n L : Nat} {pf : Nat → Nat → Int} {tb : Nat → Int} {δ : dS}
/-- behind a column's last row -/
theorem mv_537a {K : Nat → Int → Nat → Nat → Int → Int → Int → gx_S → dS → Option (Int × DS)} {x5 x7 F0 G0 : Int} {c q S0 K0 d : Nat} {s u1 u2 u3 u4 : gx_S} (o1 : dO δ m 10) (r3 : δ.I m 2 = 0 ∨ δ.I m 2 = 1) (k0 : 0 < K0) (k1 : K0 ≤ 20000000000000000) (s1 : S0 ≤ 8 * K0) (fr : 0 ≤ F0 ∧ F0 ≤ 800000000) (gr : 0 ≤ G0 ∧ G0 ≤ 100000000) (hd : d = Nat.gcd (S0 % K0) K0) (g1 : gm_100 g c 0 s = some (F0 + ((S0 / K0 : Nat) : Int), u1)) (g2 : gm_100 g c 1 u1 = some (((S0 % K0 / d : Nat) : Int), u2)) (g3 : gm_100 g c 2 u2 = some (((K0 / d : Nat) : Int), u3)) (g4 : gm_99 g (-1) c u3 = some (G0, u4)) (h1 : δ.I m 2 = 1 → ((S0 / K0 : Nat) : Int) ≤ G0 - F0 ∧ G0 - F0 ≤ ((S0 / K0 : Nat) : Int) + if ((S0 % K0 : Nat) : Int) = 0 then 0 else 1) : dm_254_537 Ls xs K (q + 1) m g p t x5 x7 c S0 K0 F0 G0 8 s δ = K m g p t x5 (x7 + G0) ((c + 1 : Nat) : Int) u4 δ := by
  have y1 : (S0 : Int) % (K0 : Int) = ((S0 % K0 : Nat) : Int) := rfl
  have y2 : (S0 : Int) / (K0 : Int) = ((S0 / K0 : Nat) : Int) := rfl
  have y3 := Nat.mod_lt S0 k0
  have y4 : S0 / K0 ≤ 8 := Nat.div_le_of_le_mul (by omega)
  have dv := divisor_ (L0 := Ls) (xs := xs) (a := S0 % K0) (b := K0) s δ (by omega) (by omega)
  rw [← hd] at dv
  have d0 : 0 < d := by rw [hd]; exact Nat.gcd_pos_of_pos_right _ k0
  have d1 : d ≤ K0 := by rw [hd]; exact Nat.gcd_le_right _ k0
  have y5 : ((S0 % K0 : Nat) : Int) / (d : Int) = ((S0 % K0 / d : Nat) : Int) := rfl
  have y6 : (K0 : Int) / (d : Int) = ((K0 / d : Nat) : Int) := rfl
  have y7 := Nat.div_le_self (S0 % K0) d
  have y8 := Nat.div_le_self K0 d
  obtain ⟨A, hA⟩ : ∃ A, A = S0 % K0 := ⟨_, rfl⟩
  obtain ⟨B, hB⟩ : ∃ B, B = S0 / K0 := ⟨_, rfl⟩
  rw [← hA] at y1 y3 dv y5 y7 g2 h1
  rw [← hB] at y2 y4 g1 h1
  obtain ⟨A2, hA2⟩ : ∃ A2, A2 = A / d := ⟨_, rfl⟩
  obtain ⟨K2, hK2⟩ : ∃ K2, K2 = K0 / d := ⟨_, rfl⟩
  rw [← hA2] at y5 y7 g2
  rw [← hK2] at y6 y8 g3
  have r1 : 0 ≤ (S0 : Int) ∧ (S0 : Int) ≤ 9223372036854775807 ∧ 0 < (K0 : Int) ∧ (K0 : Int) ≤ 9223372036854775807 := by omega
  have r2 : -9223372036854775808 ≤ F0 + (B : Int) ∧ F0 + (B : Int) ≤ 9223372036854775807 := by omega
  have r4 : 0 ≤ (A : Int) ∧ (A : Int) ≤ 9223372036854775807 ∧ 0 < (d : Int) ∧ (d : Int) ≤ 9223372036854775807 := by omega
  have r5 : -9223372036854775808 ≤ (A2 : Int) ∧ (A2 : Int) ≤ 9223372036854775807 := by omega
  have r6 : 0 ≤ (K0 : Int) ∧ (K0 : Int) ≤ 9223372036854775807 ∧ 0 < (d : Int) ∧ (d : Int) ≤ 9223372036854775807 := by omega
  have r7 : -9223372036854775808 ≤ (K2 : Int) ∧ (K2 : Int) ≤ 9223372036854775807 := by omega
  have r8 : -2147483648 ≤ G0 ∧ G0 ≤ 2147483647 := by omega
  have r9 : -9223372036854775808 ≤ G0 ∧ G0 ≤ 9223372036854775807 := by omega
  have r10 : -2147483648 ≤ δ.I m 2 ∧ δ.I m 2 ≤ 2147483647 := by omega
  have r11 : -9223372036854775808 ≤ (A : Int) ∧ (A : Int) ≤ 9223372036854775807 := by omega
  have r12 : -9223372036854775808 ≤ F0 + (B : Int) + 1 ∧ F0 + (B : Int) + 1 ≤ 9223372036854775807 := by omega
  have n1 : ¬ ¬ F0 + (B : Int) = F0 + (B : Int) := fun t => t rfl
  have n2 : ¬ ¬ (A2 : Int) = (A2 : Int) := fun t => t rfl
  have n3 : ¬ ¬ (K2 : Int) = (K2 : Int) := fun t => t rfl
  have nT : ¬ ¬ True := fun t => t trivial
  have go : dm_254_786 Ls xs K m g p t x5 x7 c G0 u4 δ = K m g p t x5 (x7 + G0) ((c + 1 : Nat) : Int) u4 δ := rfl
  rw [dm_254_537, if_pos (by omega), if_pos (by omega)]
  simp only [if_pos r1, y1, y2, dv, Option.bind_some, g1, if_pos r2, if_neg n1, g2, if_pos r4, y5, if_pos r5, if_neg n2, g3, if_pos r6, y6, if_pos r7, if_neg n3, g4, if_pos r8, if_pos r9, if_pos o1, if_pos r10, if_pos r11, if_pos r12, if_neg nT, if_pos trivial]
  by_cases q1 : δ.I m 2 = 1
  · have h := h1 q1
    rw [if_neg (fun t => t q1)]
    by_cases q2 : G0 = F0 + (B : Int)
    · rw [if_pos q2, go]
    · rw [if_neg q2]
      by_cases q3 : (A : Int) = 0
      · rw [if_pos q3] at h
        omega
      · rw [if_neg q3] at h
        rw [if_neg q3, if_pos (by omega), go]
  · rw [if_pos q1, go]
theorem mv_537e {K : Nat → Int → Nat → Nat → Int → Int → Int → gx_S → dS → Option (Int × DS)} {T : Nat → Nat → Int} {x5 x7 : Int} {c q : Nat} {s : gx_S} (hT : TTm f R C g T) (E : EV δ m a f R C g p t) (hg : g < 3) (hc : c < 9) (Q : QS f R C n pf L tb s) : ∃ u : gx_S, QS f R C n pf L tb u ∧ dm_254_537 Ls xs K (q + 1) m g p t x5 x7 c (Smv f R C g c) (Kmv f R C g : Nat) (Fmv f R C g c) (sg (fun x => GV f R C g x c) 8) 8 s δ = K m g p t x5 (x7 + sg (fun x => GV f R C g x c) 8) ((c + 1 : Nat) : Int) u δ := by
  obtain ⟨⟨⟨⟨-, o1, -⟩, ⟨-, -, i2, -⟩, -⟩, M, h7⟩, -⟩ := E
  have f3 := M.2.2.1
  obtain ⟨k1, k2, -⟩ := Kmv_r M h7 hg
  have sr := Smv_r M h7 hg hc
  have gr := (GV_r M h7 hg).2.2 c hc
  obtain ⟨u1, g1, Q1⟩ := qs_exact Q h7 (g := g) (z := c) (w := 0) hg hc (by omega)
  obtain ⟨u2, g2, Q2⟩ := qs_exact Q1 h7 (g := g) (z := c) (w := 1) hg hc (by omega)
  obtain ⟨u3, g3, Q3⟩ := qs_exact Q2 h7 (g := g) (z := c) (w := 2) hg hc (by omega)
  obtain ⟨u4, g4, Q4⟩ := qs_moved Q3 h7 (g := g) (o := -1) (z := (c : Int)) hg (by omega) (by omega)
  rw [MVs_c] at g4
  rw [if_neg (fun t => t rfl)] at g1
  rw [if_pos (by decide), if_neg (by decide)] at g2
  rw [if_pos (by decide), if_pos (by decide)] at g3
  have Fr := sg_bd (f := fun x => flv (LV f R C g) (PMV f R C g) x c) (B := 100000000) (n := 8) (fun x hx => flv_r (PA_mv M h7 hg).1 hx hc)
  have Fr' : 0 ≤ Fmv f R C g c ∧ Fmv f R C g c ≤ 800000000 := by
    have e : Fmv f R C g c = sg (fun x => flv (LV f R C g) (PMV f R C g) x c) 8 := rfl
    omega
  have sumT : sg (fun x => GV f R C g x c) 8 = Fmv f R C g c + sg (fun x => T x c) 8 := by
    unfold Fmv
    rw [← sg_add]
    exact sg_eq fun x hx => (hT.1 x c hx hc).1
  obtain ⟨S0, hS⟩ : ∃ S0 : Nat, Smv f R C g c = S0 := ⟨(Smv f R C g c).toNat, by omega⟩
  have t3 : f 3 = 1 → ((S0 / Kmv f R C g : Nat) : Int) ≤ sg (fun x => T x c) 8 ∧ sg (fun x => T x c) 8 ≤ ((S0 / Kmv f R C g : Nat) : Int) + if ((S0 % Kmv f R C g : Nat) : Int) = 0 then 0 else 1 := fun h => by
    have := hT.2.2 h c hc
    rw [hS] at this
    exact this
  rw [hS] at sr g1 g2 g3 ⊢
  exact ⟨u4, Q4, mv_537a (d := Nat.gcd (S0 % Kmv f R C g) (Kmv f R C g)) o1 (by rw [i2]; exact f3) k1 k2 (by omega) Fr' (by omega) rfl g1 g2 g3 g4 (fun h => by
    have := t3 (i2 ▸ h)
    rw [sumT, show Fmv f R C g c + sg (fun x => T x c) 8 - Fmv f R C g c = sg (fun x => T x c) 8 by omega]
    exact this)⟩
theorem mv_537 {K : Nat → Int → Nat → Nat → Int → Int → Int → gx_S → dS → Option (Int × DS)} {T : Nat → Nat → Int} {x5 x7 : Int} {c : Nat} (hT : TTm f R C g T) (E : EV δ m a f R C g p t) (hg : g < 3) (hc : c < 9) : ∀ (q z : Nat) (s : gx_S), 8 < q + z → z ≤ 8 → QS f R C n pf L tb s → ∃ u : gx_S, QS f R C n pf L tb u ∧ dm_254_537 Ls xs K q m g p t x5 x7 c (sg (Tx (LV f R C g) (PMV f R C g) c (cm (vt (PMV f R C g)) z : Nat)) z) (cm (vt (PMV f R C g)) z : Nat) (sg (fun x => flv (LV f R C g) (PMV f R C g) x c) z) (sg (fun x => GV f R C g x c) z) z s δ = K m g p t x5 (x7 + sg (fun x => GV f R C g x c) 8) ((c + 1 : Nat) : Int) u δ := by
  have E' := E
  obtain ⟨⟨-, M, h7⟩, ⟨b1, b2⟩, ⟨b3, b4⟩, b5⟩ := E
  intro q
  induction q with
  | zero => intro z s h; omega
  | succ q ih =>
    intro z s h hz Q
    by_cases e : z = 8
    · rw [e]
      exact mv_537e hT E' hg hc Q
    · have hz' : z < 8 := by omega
      have wr := vtb_ M h7 hg hz'
      obtain ⟨nj1, nj2, nj3, nj4, nj5, nj6⟩ := ev_n M h7 hg hz' hc
      obtain ⟨u1, g1, Q1⟩ := qs_moved Q h7 (g := g) (o := (z : Int)) (z := (c : Int)) hg (by omega) (by omega)
      rw [MVs_zc] at g1
      obtain ⟨tj1, tj2, tj3⟩ := hT.1 z c hz' hc
      obtain ⟨u, U1, U2⟩ := ih (z + 1) u1 (by omega) (by omega) Q1
      refine ⟨u, U1, ?_⟩
      rw [← U2]
      have c1 := AR_A b1
      have c2 : dI δ p (z : Int) := AR_I b1 hz'
      have c3 := AR_A b3
      have c4 : dI δ t (z : Int) := AR_I b3 hz'
      obtain ⟨e4, a4⟩ := b4 z hz'
      have c5 := AR_A a4
      have c6 : dI δ (t + 1 + z) (c : Int) := AR_I a4 hc
      have eP := b2 z hz'
      have eJ := b5 z c hz' hc
      have wh := ev_wh (Ls := Ls) (xs := xs) E' hg s hz'
      rw [dm_254_537, if_pos (by omega), if_neg (by omega), if_pos c3, if_pos c4, Int.toNat_natCast, e4, Option.bind_some, wh, Option.bind_some]
      dsimp only
      rw [g1, Option.bind_some]
      dsimp only
      rw [if_pos (by omega), if_pos (by omega)]
      by_cases w0 : vt (PMV f R C g) z = 0
      · obtain ⟨x1, x2⟩ := Tx_0 (P := LV f R C g) (A := PMV f R C g) (c := c) (z := z) (by omega)
        have w9 : sg (fun y => PMV f R C g z y) 9 ≤ 0 := by
          have : sg (fun y => PMV f R C g z y) 9 = 0 := w0
          omega
        have f0 : flv (LV f R C g) (PMV f R C g) z c = 0 := if_pos w9
        have e14 : sg (fun x => flv (LV f R C g) (PMV f R C g) x c) (z + 1) = sg (fun x => flv (LV f R C g) (PMV f R C g) x c) z := by
          show sg (fun x => flv (LV f R C g) (PMV f R C g) x c) z + flv (LV f R C g) (PMV f R C g) z c = _
          rw [f0, Int.add_zero]
        rw [if_neg (fun t => t w0), x2, x1, e14]
        rfl
      · have W : 0 < vt (PMV f R C g) z := by omega
        obtain ⟨fj1, fj2⟩ := fl_W (P := LV f R C g) (x := z) W c
        have K2 := cm_B (v := vt (PMV f R C g)) (fun k hk => (vtb_ M h7 hg hk).1) (PA_mv M h7 hg).2 hz
        have K0 := cm_pos (vt (PMV f R C g)) z
        obtain ⟨w, hw⟩ : ∃ w : Nat, vt (PMV f R C g) z = w := ⟨(vt (PMV f R C g) z).toNat, by omega⟩
        have x1 := cm_st (v := vt (PMV f R C g)) W
        have x2 := Tx_st (P := LV f R C g) (A := PMV f R C g) (c := c) W
        rw [hw, Int.toNat_natCast] at x1 x2
        obtain ⟨k, hk⟩ : ∃ k, k = cm (vt (PMV f R C g)) z := ⟨_, rfl⟩
        rw [← hk] at K0 K2 x1 x2 ⊢
        have dv := divisor_ (L0 := Ls) (xs := xs) (a := k) (b := w) u1 δ (by omega) (by omega)
        have d0 : 0 < Nat.gcd k w := Nat.gcd_pos_of_pos_left w K0
        have d1 : Nat.gcd k w ≤ k := Nat.gcd_le_left w K0
        obtain ⟨d, hd⟩ : ∃ d, d = Nat.gcd k w := ⟨_, rfl⟩
        rw [← hd] at dv d0 d1 x1 x2
        rw [hw] at fj1 fj2 W w0 wr
        have r1 : -2147483648 ≤ PMV f R C g z c ∧ PMV f R C g z c ≤ 2147483647 := by omega
        have r3 : 0 ≤ LV f R C g z * PMV f R C g z c ∧ LV f R C g z * PMV f R C g z c ≤ 9223372036854775807 ∧ 0 < (w : Int) ∧ (w : Int) ≤ 9223372036854775807 := by omega
        have r4 : 0 ≤ (w : Int) ∧ (w : Int) ≤ 9223372036854775807 ∧ 0 < (d : Int) ∧ (d : Int) ≤ 9223372036854775807 := by omega
        have r5 : 0 ≤ (k : Int) ∧ (k : Int) ≤ 9223372036854775807 ∧ 0 < (d : Int) ∧ (d : Int) ≤ 9223372036854775807 := by omega
        have y1 : (k : Int) / (d : Int) * (w : Int) = ((k / d * w : Nat) : Int) := rfl
        rw [hw, if_pos w0]
        simp only [if_pos c1, if_pos c2, if_pos c3, if_pos c4, Int.toNat_natCast, e4, Option.bind_some, if_pos c5, if_pos c6, eP, eJ, if_pos r1, if_pos r3, dv, if_pos r4, if_pos r5, fj1, fj2]
        rw [x1] at x2 ⊢
        rw [x2, y1]
        rfl
theorem mv_515 {T : Nat → Nat → Int} (hT : TTm f R C g T) (E : EV δ m a f R C g p t) (hg : g < 3) : ∀ (q c : Nat) (s : gx_S), 9 < q + c → c ≤ 9 → QS f R C n pf L tb s → ∃ u : gx_S, QS f R C n pf L tb u ∧ dm_254_515 Ls xs q m g p t (sg (LV f R C g) 8) (sg (fun c => sg (fun x => GV f R C g x c) 8) c) c s δ = some (1, u, δ) := by
  have M := E.1.2.1
  have h7 := E.1.2.2
  have all : sg (fun c => sg (fun x => GV f R C g x c) 8) 9 = sg (LV f R C g) 8 := by
    rw [← sg_swap (fun x c => GV f R C g x c) 9 8]
    exact sg_eq fun z hz => GV_row M h7 hg hz
  have lv := (GV_r M h7 hg).2.1
  have l0 := sg_nn (LV_r M hg).1
  have ur := UN_r M hg
  have la := LV_all M hg
  have cb := (M.2.2.2.2.1 g hg).2
  have as0 : 0 ≤ ASf f R C g ∧ ASf f R C g ≤ 89991 := by
    unfold ASf
    split <;> omega
  intro q
  induction q with
  | zero => intro c s h; omega
  | succ q ih =>
    intro c s h hc Q
    rw [dm_254_515, if_pos (by omega)]
    by_cases e : c = 9
    · obtain ⟨u1, g1, Q1⟩ := qs_moved Q h7 (g := g) (o := -1) (z := -1) hg (by omega) (by omega)
      obtain ⟨u2, g2, Q2⟩ := qs_people Q1 (g := g) (y := 8) hg (by omega)
      obtain ⟨u3, g3, Q3⟩ := qs_people Q2 (g := g) (y := 9) hg (by omega)
      obtain ⟨u4, g4, Q4⟩ := qs_people Q3 (g := g) (y := 10) hg (by omega)
      have t1 : sg (fun x => sg (fun y => GV f R C g x y) 9) 8 = sg (LV f R C g) 8 := sg_eq fun z hz => GV_row M h7 hg hz
      rw [MVs_a, t1] at g1
      have p8 : ppv f R C g 8 = UN f R C g := rfl
      have p9 : ppv f R C g 9 = ASf f R C g := rfl
      have p10 : ppv f R C g 10 = sg (LV f R C g) 8 + ASf f R C g := la.symm
      rw [p8] at g2
      rw [p9] at g3
      rw [p10] at g4
      have g2' : gm_97 g 8 u1 = some (UN f R C g, u2) := g2
      have g3' : gm_97 g 9 u2 = some (ASf f R C g, u3) := g3
      have g4' : gm_97 g 10 u3 = some (sg (LV f R C g) 8 + ASf f R C g, u4) := g4
      refine ⟨u4, Q4, ?_⟩
      rw [if_pos (by omega), e, all, if_pos (by omega), if_pos (by omega), if_neg (fun t => t rfl), g1, Option.bind_some]
      dsimp only
      rw [if_pos (by omega), if_pos (by omega), if_neg (fun t => t rfl), g2', Option.bind_some]
      dsimp only
      rw [unknown_ u2 E.1 hg, Option.bind_some]
      dsimp only
      rw [if_pos (by omega), if_pos (by omega), if_neg (fun t => t rfl), g3', Option.bind_some]
      dsimp only
      rw [if_pos (by omega), aside_ u3 E.1 hg, Option.bind_some]
      dsimp only
      rw [if_pos (by omega), if_pos (by omega), if_neg (fun t => t rfl), g4', Option.bind_some]
      dsimp only
      rw [if_pos (by omega), aside_ u4 E.1 hg, Option.bind_some]
      dsimp only
      rw [if_pos (by omega), if_pos (by omega), if_neg (fun t => t rfl)]
    · obtain ⟨u1, Q1, U1⟩ := mv_537 (Ls := Ls) (xs := xs) (K := dm_254_515 Ls xs q) (x5 := sg (LV f R C g) 8) (x7 := sg (fun c => sg (fun x => GV f R C g x c) 8) c) hT E hg (show c < 9 by omega) 100000 0 s (by omega) (by omega) Q
      obtain ⟨u, Q2, U2⟩ := ih (c + 1) u1 (by omega) (by omega) Q1
      refine ⟨u, Q2, ?_⟩
      rw [sg] at U2
      rw [if_neg (by omega), ← U2]
      exact U1
theorem mv_19 {T : Nat → Nat → Int} (hT : TTm f R C g T) (E : EV δ m a f R C g p t) (hg : g < 3) : ∀ (q z : Nat) (s : gx_S), 8 < q + z → z ≤ 8 → QS f R C n pf L tb s → ∃ u : gx_S, QS f R C n pf L tb u ∧ dm_254_19 Ls xs q m g p t (sg (LV f R C g) z) z s δ = some (1, u, δ) := by
  have E' := E
  obtain ⟨⟨-, M, h7⟩, ⟨b1, b2⟩, ⟨b3, b4⟩, b5⟩ := E
  intro q
  induction q with
  | zero => intro z s h; omega
  | succ q ih =>
    intro z s h hz Q
    rw [dm_254_19, if_pos (by omega)]
    by_cases e : z = 8
    · rw [if_pos (by omega), e]
      exact mv_515 hT E' hg 100000 0 s (by omega) (by omega) Q
    · have hz' : z < 8 := by omega
      obtain ⟨-, n2, -⟩ := ev_n M h7 hg hz' (show 0 < 9 by omega)
      obtain ⟨u1, g1, Q1⟩ := qs_people Q (g := g) (y := z) hg (by omega)
      obtain ⟨u2, g2, Q2⟩ := qs_moved Q1 h7 (g := g) (o := (z : Int)) (z := -1) hg (by omega) (by omega)
      rw [MVs_z, GV_row M h7 hg hz'] at g2
      rw [show ppv f R C g z = LV f R C g z from if_pos hz'] at g1
      obtain ⟨u3, Q3, U3⟩ := mv_80 (Ls := Ls) (xs := xs) (K := dm_254_19 Ls xs q) (x5 := sg (LV f R C g) z) hT E' hg hz' 100000 0 0 u2 (by omega) (by omega) Q2
      obtain ⟨u4, Q4, U4⟩ := mv_311 (Ls := Ls) (xs := xs) (K := dm_254_19 Ls xs q) (x5 := sg (LV f R C g) z + LV f R C g z) hT E' hg hz' 100000 0 u3 (by omega) (by omega) Q3
      obtain ⟨u, Q5, U5⟩ := ih (z + 1) u4 (by omega) (by omega) Q4
      refine ⟨u, Q5, ?_⟩
      rw [sg] at U5
      have wh := ev_wh (Ls := Ls) (xs := xs) E' hg s hz'
      have eP := b2 z hz'
      rw [if_neg (by omega), if_pos (AR_A b3), if_pos (AR_I b3 hz'), Int.toNat_natCast, (b4 z hz').1, Option.bind_some, wh, Option.bind_some]
      dsimp only
      rw [g1, Option.bind_some]
      dsimp only
      rw [if_pos (by omega), if_pos (AR_A b1), if_pos (AR_I b1 hz'), eP, if_pos (by omega), if_pos (by omega), if_neg (fun t => t rfl), g2, Option.bind_some]
      dsimp only
      rw [if_pos (by omega), if_pos (by omega), if_pos rfl, ← U5, ← U4]
      exact U3
/-- of a group: what is moved is rounded as it should be -/
theorem moved_ {s : gx_S} (M : LM δ m a f R C) (hg : g < 3) (Q : QS f R C n pf L tb s) : ∃ (u : gx_S) (ε : dS), dm_254 Ls xs m g s δ = some (1, u, ε) ∧ QS f R C n pf L tb u ∧ DF δ.n 13 δ ε := by
  obtain ⟨m0, m1, m2, m3⟩ := M.1.1.1
  obtain ⟨X, x1, x2, x3, x4⟩ := living_ (Ls := Ls) (xs := xs) s M hg
  have MX := LM_DF x4 m1 m2 M
  obtain ⟨Y, y1, y2, y3, y4⟩ := parts_ (L0 := Ls) (xs := xs) s MX hg
  have nX : δ.n < X.n := x2.2.1
  have MY := LM_DF y4 (by omega) (by omega) MX
  obtain ⟨T, hT⟩ := TTm_e M.2.1 M.2.2 hg
  obtain ⟨u, Q1, U1⟩ := mv_19 (Ls := Ls) (xs := xs) (p := δ.n) (t := X.n) hT ⟨MY, ⟨AR_DF y4 x2, fun z hz => ((y4.2.1 _ nX).1 z).trans (x3 z hz)⟩, y2, y3⟩ hg 100000 0 s (by omega) (by omega) Q
  refine ⟨u, Y, ?_, Q1, DF_tr x4 (DF_mono (by omega) (Nat.le_refl _) y4)⟩
  unfold dm_254
  rw [x1, Option.bind_some]
  dsimp only
  rw [y1, Option.bind_some]
  exact U1
end
