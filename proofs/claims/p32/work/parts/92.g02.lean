/-! THE LAW, from its first row to its last -/
section
variable {Ls : Nat} {xs : Nat → Int32} {m a g : Nat} {tb : Nat → Int}
theorem lw_170 {f : Nat → Int} {R C n : Nat} {pf : Nat → Nat → Int} {s : gx_S} {δ : dS} (E : LM δ m a f R C) (hg : g < 3) (Q : QS f R C n pf 0 tb s) : ∃ (u : gx_S) (ε : dS), dm_236_170 Ls xs 100000 m g 0 0 s δ = some (1, u, ε) ∧ DF m 1475 δ ε := by
  have M := E.2.1
  have h7 := E.2.2
  have n8 : n ≤ 8 := Q.1.2.2.1.1
  obtain ⟨m0, m1, m2, m3⟩ := E.1.1.1
  obtain ⟨N, bs, hN, hb, AL⟩ := all_ (Ls := Ls) (xs := xs) f R C M h7
  obtain ⟨u1, Q1, z1⟩ := ds_170 (Ls := Ls) (xs := xs) E hg 100000 0 s (by omega) (by omega) Q
  obtain ⟨X, hX⟩ : ∃ X, X = δ.al 1 27 := ⟨_, rfl⟩
  have fX : DF δ.n 1 δ X := by rw [hX]; exact DF_al δ 1 27 (Nat.le_refl _) (by omega)
  have aX : AR X 1 δ.n 27 := by rw [hX]; exact ⟨by omega, by rw [da_n]; omega, by rw [da_sh, if_pos rfl]⟩
  have EX := LM_DF fX m1 m2 E
  obtain ⟨u2, Y, q', Q2, w2, v2, z2⟩ := gs_317 (Ls := Ls) (xs := xs) (p := δ.n) m1 m2 100000 0 u1 X (by omega) (by omega) EX aX (fun i hi => by omega) Q1
  have fY : DF δ.n 0 X Y := DF_WM (Nat.le_refl _) w2
  have EY := LM_DF fY m1 m2 EX
  have aY := AR_DF fY aX
  obtain ⟨u3, g3, Q3⟩ := qs_count Q2 h7 (x := 10) (by omega)
  obtain ⟨u4, g4, Q4⟩ := qs_count Q3 h7 (x := 11) (by omega)
  obtain ⟨x, u5, Z, t1, Q5, t2, t3, t4⟩ := AL _ _ _ _ u4 Y Q4 (by have := aY.2.1; omega)
  obtain ⟨u6, g6, Q6⟩ := qs_count Q5 h7 (x := 8) (by omega)
  obtain ⟨u7, g7, Q7⟩ := qs_adopt Q6 h7
  have g3' : gm_111 10 u2 = some (mva f R C 3, u3) := g3
  have g4' : gm_111 11 u3 = some (asa f R C 3, u4) := g4
  have g6' : gm_111 8 u5 = some ((n : Int), u6) := g6
  have pY : δ.n < Y.n := aY.2.1
  have EZ := LM_DF t4 (by omega) (by omega) EY
  have aZ := AR_DF t4 aY
  obtain ⟨W, y1, y2, y3, y4, y5⟩ := ad_498 (Ls := Ls) (xs := xs) (x14 := (n : Int)) (x13 := x) (a := a) u7 M m1 100000 0 Z (by omega) (by omega) (MM_of (fun i => by
    unfold fk_
    rw [if_neg (by omega)]) EZ.1) aZ (fun i hi => ((t4.2.1 _ pY).1 i).trans (v2 i hi))
  have S : STR W x (x + 1) N bs := by
    obtain ⟨s1, s2, s3, s4, s5⟩ := t2
    have l1 := s3.2.1
    exact ⟨dO_DF y3 s1, ((y4 x 0 (by omega) (by omega)).2).trans s2, AR_DF y3 s3, ((y4 x 1 (by omega) (by omega)).1).trans s4, fun i hi => ((y4 (x + 1) i (by omega) l1).1).trans (s5 i hi)⟩
  obtain ⟨u, ε, k1, k2⟩ := un_565 (Ls := Ls) (xs := xs) (L := 0) (tb := tb) (m := m) (a := Z.n) (x13 := x) M h7 n8 AL hN hb 100000 0 u7 W (by omega) (by omega) ⟨y2, MP_fa M h7, (fa_2 f R C).trans h7⟩ S Q7
  have m3r : -2147483648 ≤ mva f R C 3 ∧ mva f R C 3 ≤ 2147483647 := by
    have := (cnv_r M h7 0 0 (x := 10) (by omega) (by omega) (by omega)).2
    have e : cnv f R C 0 0 10 = mva f R C 3 := rfl
    omega
  have a3r : -2147483648 ≤ asa f R C 3 ∧ asa f R C 3 ≤ 2147483647 := by
    have := (cnv_r M h7 0 0 (x := 11) (by omega) (by omega) (by omega)).2
    have e : cnv f R C 0 0 11 = asa f R C 3 := rfl
    omega
  have i3r : 0 ≤ sg (inz f R C) 3 ∧ sg (inz f R C) 3 ≤ 2159784 := by
    have b := sg_bd (f := inz f R C) (B := 719928) (n := 3) (fun k hk => by
      have c := sg_bd (f := fun z => sg (fun x => GV f R C k x z) 8) (B := 89991) (n := 8) (fun z hz => (GV_r M h7 hk).2.2 z (by omega))
      have c' : 0 ≤ inz f R C k ∧ inz f R C k ≤ ((8 : Nat) : Int) * 89991 := c
      omega)
    omega
  refine ⟨u, ε, ?_, DF_c (DF_tr (DF_mono (show m ≤ δ.n by omega) (Nat.le_refl _) (DF_tr fX fY)) (DF_tr (DF_mono (show m ≤ Y.n by omega) (Nat.le_refl _) t4) (DF_tr y3 k2))) (by omega)⟩
  have z1' : dm_236_170 Ls xs 100000 m g 0 0 s δ = _ := z1
  have z2' : dm_236_317 Ls xs 100000 m 0 0 δ.n 0 0 u1 X = _ := z2
  have k1' : dm_236_565 Ls xs 100000 m x n 0 u7 W = some (1, u, ε) := k1
  have y1' : dm_236_498 Ls xs 100000 m δ.n x n 0 u7 Z = _ := y1
  rw [z1', ← hX, z2', dm_236_317, if_pos (by omega), if_pos (by omega), g3', Option.bind_some]
  dsimp only
  rw [if_pos m3r, if_pos (by omega), if_pos (by omega), if_neg (fun t => t rfl), g4', Option.bind_some]
  dsimp only
  rw [if_pos a3r, if_pos (by omega), if_pos (by omega), if_pos rfl, t1, Option.bind_some]
  dsimp only
  rw [g6', Option.bind_some]
  dsimp only
  rw [g7, Option.bind_some]
  dsimp only
  rw [if_pos (by omega), if_pos (by omega), if_pos (by omega), if_pos rfl, y1', k1']
theorem lw_128 {f : Nat → Int} {R C n : Nat} {pf : Nat → Nat → Int} (hg : g < 3) : ∀ (q k : Nat) (s : gx_S) (δ : dS), 3 < q + k → k ≤ 3 → LM δ m a f R C → QS f R C n pf 0 tb s → ∃ (u : gx_S) (ε : dS), dm_236_128 Ls xs q m g k s δ = some (1, u, ε) ∧ DF m (13 * (3 - k) + 1480) δ ε := by
  intro q
  induction q with
  | zero => intro k s δ h; omega
  | succ q ih =>
    intro k s δ h hk E Q
    obtain ⟨m0, m1, m2, m3⟩ := E.1.1.1
    rw [dm_236_128, if_pos (by omega)]
    by_cases e : k = 3
    · obtain ⟨u1, X, x1, Q1, x3⟩ := surface_ (Ls := Ls) (xs := xs) E hg Q
      obtain ⟨u, ε, z1, z2⟩ := lw_170 (Ls := Ls) (xs := xs) (LM_DF x3 m1 m2 E) hg Q1
      refine ⟨u, ε, ?_, DF_c (DF_tr (DF_mono (by omega) (Nat.le_refl _) x3) z2) (by omega)⟩
      rw [if_pos (by omega), x1, Option.bind_some]
      dsimp only
      rw [if_pos (by omega), if_pos (by omega)]
      exact z1
    · obtain ⟨u1, X, x1, Q1, x3⟩ := moved_ (Ls := Ls) (xs := xs) E (show k < 3 by omega) Q
      obtain ⟨u, ε, z1, z2⟩ := ih (k + 1) u1 X (by omega) (by omega) (LM_DF x3 m1 m2 E) Q1
      refine ⟨u, ε, ?_, DF_c (DF_tr (DF_mono (by omega) (Nat.le_refl _) x3) z2) (by omega)⟩
      rw [if_neg (by omega), x1, Option.bind_some]
      dsimp only
      rw [if_pos (by omega), if_pos (by omega)]
      exact z1
theorem lw_63 {x2 : Int} (hL : Ls ≤ 1000) (h2 : 0 ≤ x2 ∧ x2 ≤ 2147483647) : ∀ (q k : Nat) (s : gx_S) (δ : dS) (f : Nat → Int) (R C n : Nat) (pf : Nat → Nat → Int) (tb : Nat → Int), 3 < q + k → k ≤ 3 → MM δ m a f R C → f 2 = 7 → Z0 f → QS f R C n pf 0 tb s → ∃ (u : gx_S) (ε : dS), dm_236_63 Ls xs q x2 m k s δ = some (1, u, ε) ∧ DF m (41 * (3 - k) + 1519) δ ε := by
  intro q
  induction q with
  | zero => intro k s δ f R C n pf tb h; omega
  | succ q ih =>
    intro k s δ f R C n pf tb h hk E h7 Z Q
    rw [dm_236_63, if_pos (by omega)]
    by_cases e : k = 3
    · obtain ⟨v, hv, av⟩ := at_ (L0 := Ls) (xs := xs) (x1 := 130) (by omega) hL
      obtain ⟨w, hw, aw⟩ := at_ (L0 := Ls) (xs := xs) (x1 := 131) (by omega) hL
      obtain ⟨F, u1, X, n1, pf1, x1, Q1, F7, EX, x3⟩ := settings_ (L0 := Ls) (xs := xs) hv hw Q E h7 Z
      obtain ⟨y, hy⟩ : ∃ y : Nat, x2 % 3 = y := ⟨(x2 % 3).toNat, by omega⟩
      obtain ⟨u, ε, z1, z2⟩ := lw_128 (Ls := Ls) (xs := xs) (g := y) (by omega) 100000 0 u1 X (by omega) (by omega) ⟨EX, Q1.2.1, F7⟩ Q1
      refine ⟨u, ε, ?_, DF_c (DF_tr x3 z2) (by omega)⟩
      rw [if_pos (by omega), av, Option.bind_some]
      dsimp only
      rw [aw, Option.bind_some]
      dsimp only
      rw [x1, Option.bind_some]
      dsimp only
      rw [if_pos (by omega), if_pos (by omega), if_pos (by omega), hy]
      exact z1
    · obtain ⟨u1, X, tb1, H, x1, Q1, EX, x3⟩ := counts_ (L0 := Ls) (xs := xs) (x3 := 100 + 9 * (k : Int)) hL (by omega) (show k < 3 by omega) Q E
      obtain ⟨u, ε, z1, z2⟩ := ih (k + 1) u1 X (fc f k H) R C _ _ tb1 (by omega) (by omega) EX ((fc_out (by omega)).trans h7) ⟨(fc_out (by omega)).trans Z.1, (fc_out (by omega)).trans Z.2.1, fun z hz => (fc_out (by omega)).trans (Z.2.2 z hz)⟩ Q1
      refine ⟨u, ε, ?_, DF_c (DF_tr x3 z2) (by omega)⟩
      rw [if_neg (by omega), x1, Option.bind_some]
      dsimp only
      rw [if_pos (by omega), if_pos (by omega)]
      exact z1
theorem lw_23 {f : Nat → Int} {R0 C0 n : Nat} {pf : Nat → Nat → Int} {s0 : Int} {s : gx_S} {δ : dS} (hL : Ls ≤ 1000) (h0 : 0 ≤ s0 ∧ s0 ≤ 2147483647) (S : ST f) (Q : QS f R0 C0 n pf 0 tb s) (hn : 215 ≤ δ.n) : ∃ (u : gx_S) (ε : dS), dm_236_23 Ls xs s0 s δ = some (1, u, ε) ∧ DF δ.n 2255 δ ε := by
  obtain ⟨s3, hs3⟩ : ∃ t, t = (Int32.ofInt s0 >>> (Int32.ofInt 3 &&& 31)).toInt := ⟨_, rfl⟩
  obtain ⟨s6, hs6⟩ : ∃ t, t = (Int32.ofInt s0 >>> (Int32.ofInt 6 &&& 31)).toInt := ⟨_, rfl⟩
  have r3 := nb_s (n := 3) h0 (k := 3) rfl (by omega)
  have r6 := nb_s (n := 6) h0 (k := 6) rfl (by omega)
  rw [← hs3] at r3
  rw [← hs6] at r6
  obtain ⟨R, C, F, u1, X, tb1, n1, pf1, x1, Q1, F7, EX, x3, Z, -, -⟩ := told_ (L0 := Ls) (xs := xs) (x3 := 1 + s0 % 6) (x4 := 1 + s3 % 9) (x5 := 1 + s6 % 8) hL S Q hn (by omega) (by omega) (by omega)
  obtain ⟨u, ε, z1, z2⟩ := lw_63 (Ls := Ls) (xs := xs) (x2 := s0) (m := δ.n) hL h0 100000 0 u1 X F R C n1 pf1 tb1 (by omega) (by omega) EX F7 Z Q1
  refine ⟨u, ε, ?_, DF_c (DF_tr x3 z2) (by omega)⟩
  unfold dm_236_23
  rw [← hs3, ← hs6, if_pos h0, if_pos (by omega), if_pos (by omega), x1, Option.bind_some]
  exact z1
theorem law_ {f : Nat → Int} {R0 C0 n : Nat} {pf : Nat → Nat → Int} {s : gx_S} {δ : dS} (hL : Ls ≤ 1000) (S : ST f) (Q : QS f R0 C0 n pf 0 tb s) (hn : 215 ≤ δ.n) : ∃ (u : gx_S) (ε : dS), dm_236 Ls xs s δ = some (1, u, ε) ∧ DF δ.n 2255 δ ε := by
  unfold dm_236
  rw [if_pos (by omega)]
  by_cases q : (Ls : Int) ≤ 0
  · rw [if_pos q]
    exact lw_23 hL (by omega) S Q hn
  · rw [if_neg q, if_pos (by omega)]
    exact lw_23 hL (nb_a (Int32.ofInt ((xs ((0 : Int).toNat)).toInt)) (y := 2147483647) (by omega)) S Q hn
end
