/-! WEIGHTS, SETTINGS, DISTRICTS as drawn -/
theorem nb_al {x : Int} (Y : Int32) (h : 0 ≤ x ∧ x ≤ 2147483647) : 0 ≤ (Int32.ofInt x &&& Y).toInt ∧ (Int32.ofInt x &&& Y).toInt ≤ x := by
  have t : (Int32.ofInt x &&& Y).toBitVec.toNat = x.toNat &&& Y.toBitVec.toNat := by
    rw [Int32.toBitVec_and, BitVec.toNat_and, nb_i h]
  have d : x.toNat &&& Y.toBitVec.toNat ≤ x.toNat := Nat.and_le_left
  rw [nb_t (by rw [t]; omega), t]
  omega
theorem MM_wt {δ : dS} {m a R C g l : Nat} {x : Int} {f : Nat → Int} (hg : g < 3) (hl : l < 4) (M : MM δ m a f R C) : MM (δ.w (m + 6 + g) l x) m a (fun q => if q = 32 + 4 * g + l then x else f q) R C := by
  obtain ⟨M0, ⟨v1, v2, v3, v4⟩, a1, a2, a3, a4, a5, a6⟩ := M
  have ha := M0.1.2.2.2
  have p : ∀ k j, ¬ k = m + 6 + g → (δ.w (m + 6 + g) l x).I k j = δ.I k j := fun k j hk => by rw [dw_I, if_neg (fun t => hk t.1)]
  refine ⟨M0, ⟨(p _ _ (by omega)).trans v1, (p _ _ (by omega)).trans v2, ((p _ _ (by omega)).trans v3).trans (if_neg (by omega)).symm, ((p _ _ (by omega)).trans v4).trans (if_neg (by omega)).symm⟩, fun k hk => ((p _ _ (by omega)).trans (a1 k hk)).trans (if_neg (by omega)).symm, fun k hk => ((p _ _ (by omega)).trans (a2 k hk)).trans (if_neg (by omega)).symm, fun k hk => ((p _ _ (by omega)).trans (a3 k hk)).trans (if_neg (by omega)).symm, fun i z hi hz => ((p _ _ (by omega)).trans (a4 i z hi hz)).trans (if_neg (by omega)).symm, fun i z hi hz => ?_, fun z hz => ((p _ _ (by omega)).trans (a6 z hz)).trans (if_neg (by omega)).symm⟩
  rw [dw_I]
  dsimp only
  by_cases q : i = g ∧ z = l
  · rw [if_pos (by omega), if_pos (by omega)]
  · rw [if_neg (by omega), if_neg (by omega)]
    exact a5 i z hi hz
theorem MM_ds {δ : dS} {m a R C y : Nat} {x : Int} {f : Nat → Int} (hy : y < 8) (M : MM δ m a f R C) : MM (δ.w (m + 9) y x) m a (fun q => if q = 44 + y then x else f q) R C := by
  obtain ⟨M0, ⟨v1, v2, v3, v4⟩, a1, a2, a3, a4, a5, a6⟩ := M
  have ha := M0.1.2.2.2
  have p : ∀ k j, ¬ k = m + 9 → (δ.w (m + 9) y x).I k j = δ.I k j := fun k j hk => by rw [dw_I, if_neg (fun t => hk t.1)]
  refine ⟨M0, ⟨(p _ _ (by omega)).trans v1, (p _ _ (by omega)).trans v2, ((p _ _ (by omega)).trans v3).trans (if_neg (by omega)).symm, ((p _ _ (by omega)).trans v4).trans (if_neg (by omega)).symm⟩, fun k hk => ((p _ _ (by omega)).trans (a1 k hk)).trans (if_neg (by omega)).symm, fun k hk => ((p _ _ (by omega)).trans (a2 k hk)).trans (if_neg (by omega)).symm, fun k hk => ((p _ _ (by omega)).trans (a3 k hk)).trans (if_neg (by omega)).symm, fun i z hi hz => ((p _ _ (by omega)).trans (a4 i z hi hz)).trans (if_neg (by omega)).symm, fun i z hi hz => ((p _ _ (by omega)).trans (a5 i z hi hz)).trans (if_neg (by omega)).symm, fun z hz => ?_⟩
  rw [dw_I]
  dsimp only
  by_cases q : z = y
  · rw [if_pos ⟨rfl, q⟩, if_pos (by omega)]
  · rw [if_neg (by omega), if_neg (by omega)]
    exact a6 z hz
theorem MM_st {δ : dS} {m a R C : Nat} {x y : Int} {f : Nat → Int} (M : MM δ m a f R C) : MM ((δ.w m 2 x).w m 3 y) m a (fun q => if q = 3 + 1 then y else if q = 3 + 0 then x else f q) R C := by
  obtain ⟨M0, ⟨v1, v2, v3, v4⟩, a1, a2, a3, a4, a5, a6⟩ := M
  have ha := M0.1.2.2.2
  have p : ∀ k j, ¬ k = m → ((δ.w m 2 x).w m 3 y).I k j = δ.I k j := fun k j hk => by rw [dw_I, if_neg (fun t => hk t.1), dw_I, if_neg (fun t => hk t.1)]
  have o : ∀ q : Nat, 4 < q → (if q = 3 + 1 then y else if q = 3 + 0 then x else f q) = f q := fun q hq => by rw [if_neg (by omega), if_neg (by omega)]
  refine ⟨M0, ⟨?_, ?_, ?_, ?_⟩, fun k hk => ((p _ _ (by omega)).trans (a1 k hk)).trans (o _ (by omega)).symm, fun k hk => ((p _ _ (by omega)).trans (a2 k hk)).trans (o _ (by omega)).symm, fun k hk => ((p _ _ (by omega)).trans (a3 k hk)).trans (o _ (by omega)).symm, fun i z hi hz => ((p _ _ (by omega)).trans (a4 i z hi hz)).trans (o _ (by omega)).symm, fun i z hi hz => ((p _ _ (by omega)).trans (a5 i z hi hz)).trans (o _ (by omega)).symm, fun z hz => ((p _ _ (by omega)).trans (a6 z hz)).trans (o _ (by omega)).symm⟩
  · rw [dw_I, if_neg (by omega), dw_I, if_neg (by omega), v1]
  · rw [dw_I, if_neg (by omega), dw_I, if_neg (by omega), v2]
  · rw [dw_I, if_neg (by omega), dw_I, if_pos (by omega)]
    rfl
  · rw [dw_I, if_pos (by omega)]
    rfl
section
variable {L0 : Nat} {xs : Nat → Int32} {R C L : Nat} {tb : Nat → Int}
theorem st_195 {m a : Nat} {x3 : Int} (h3 : 0 ≤ x3 ∧ x3 ≤ 2147483647) : ∀ (q z : Nat) (s : gx_S) (δ : dS) (f : Nat → Int) (n : Nat) (pf : Nat → Nat → Int), 8 < q + z → z ≤ 8 → QS f R C n pf L tb s → MM δ m a f R C → f 2 = 7 → (∀ y, z ≤ y → y < 8 → f (44 + y) = 0) → ∃ (F : Nat → Int) (u : gx_S) (ε : dS) (n' : Nat) (pf' : Nat → Nat → Int), dm_242_195 L0 xs q m x3 z s δ = some (1, u, ε) ∧ QS F R C n' pf' L tb u ∧ F 2 = 7 ∧ MM ε m a F R C ∧ DF m 0 δ ε := by
  intro q
  induction q with
  | zero => intro z s δ f n pf h; omega
  | succ q ih =>
    intro z s δ f n pf h hz Q M h7 hd
    rw [dm_242_195, if_pos (by omega)]
    by_cases e : z = 8
    · rw [if_pos (by omega)]
      exact ⟨f, s, δ, n, pf, rfl, Q, h7, M, DF_rf _ _⟩
    · obtain ⟨y, hy⟩ : ∃ y, y = (Int32.ofInt ((Int32.ofInt x3 >>> (Int32.ofInt (2 * (z : Int)) &&& 31)).toInt) &&& Int32.ofInt 3).toInt := ⟨_, rfl⟩
      have ry := nb_a (Int32.ofInt ((Int32.ofInt x3 >>> (Int32.ofInt (2 * (z : Int)) &&& 31)).toInt)) (y := 3) (by omega)
      rw [← hy] at ry
      obtain ⟨u, n', pf', a1, a2⟩ := qs_district Q (show z < 8 by omega) (show 0 ≤ y ∧ y < 4 by omega)
      rw [hd z (Nat.le_refl _) (by omega)] at a1
      have M1 := MM_ds (x := y) (show z < 8 by omega) M
      obtain ⟨F, w, ε, n2, pf2, b1, b2, b3, b4, b5⟩ := ih (z + 1) u (δ.w (m + 9) z y) _ n' pf' (by omega) (by omega) a2 M1 ((if_neg (by omega)).trans h7) (fun i h1 h2 => (if_neg (by omega)).trans (hd i (by omega) h2))
      obtain ⟨-, o, -, -, -, d, -, -, -, -, -, h9⟩ := M.1
      have o1 : dO (δ.w (m + 9) z y) m 10 := o
      have d1 : AR (δ.w (m + 9) z y) 0 (m + 9) 8 := d
      have p1 : (δ.w (m + 9) z y).P m 9 = some (m + 9) := h9
      have i1 : (δ.w (m + 9) z y).I (m + 9) z = y := by rw [dw_I, if_pos ⟨rfl, rfl⟩]
      have k1 : (-2147483648 ≤ y ∧ y ≤ 2147483647) := by omega
      refine ⟨F, w, ε, n2, pf2, ?_, b2, b3, b4, DF_tr (DF_WM (by omega) (WM_w (lo := m + 9) (hi := m + 10) δ z y (by omega))) b5⟩
      rw [if_neg (by omega), if_pos o, h9, Option.bind_some, if_pos (AR_A d), if_pos (AR_I d (by omega)), ← hy, Int.toNat_natCast, Option.bind_some, if_pos o1, p1, Option.bind_some, if_pos (AR_A d1), if_pos (AR_I d1 (by omega)), i1, a1, Option.bind_some, Option.bind_some, if_pos (AR_A d1), if_pos (AR_I d1 (by omega)), i1, if_pos k1]
      dsimp only
      by_cases y0 : y = 0
      · rw [if_neg (fun t => t y0), if_pos y0.symm]
        unfold dm_242_246
        rw [if_pos (by omega), if_pos (by omega), if_pos rfl]
        exact b1
      · rw [if_pos y0, if_neg (fun t => y0 t.symm)]
        unfold dm_242_246
        rw [if_pos (by omega), if_pos (by omega), if_pos rfl]
        exact b1
theorem st_51 {K : Nat → Int → Int → Int → gx_S → dS → Option (Int × DS)} {m a k n : Nat} {x2 x3 y : Int} {f : Nat → Int} {pf : Nat → Nat → Int} {s : gx_S} {δ : dS} (hk : k < 12) (hy : 0 ≤ y ∧ y ≤ 9) (Q : QS f R C n pf L tb s) (M : MM δ m a f R C) : ∃ (u : gx_S) (n' : Nat) (pf' : Nat → Nat → Int), dm_242_51 L0 xs K m x2 x3 k y s δ = K m x2 x3 ((k + 1 : Nat) : Int) u (δ.w (m + 6 + k / 4) (k % 4) y) ∧ QS (fun q => if q = 32 + 4 * (k / 4) + k % 4 then y else f q) R C n' pf' L tb u := by
  obtain ⟨u, n', pf', a1, a2⟩ := qs_weigh Q (a := k / 4) (y := k % 4) (by omega) (by omega) hy
  obtain ⟨-, o, -, -, ⟨d1, d2⟩, -, -, -, -, -, h8, -⟩ := M.1
  obtain ⟨d3, d4⟩ := d2 (k / 4) (by omega)
  have i1 : δ.I (m + 6 + k / 4) (k % 4) = f (32 + 4 * (k / 4) + k % 4) := M.2.2.2.2.2.2.1 _ _ (by omega) (by omega)
  have q4 : (k : Int) / 4 = ((k / 4 : Nat) : Int) := by omega
  have r4 : (k : Int) % 4 = ((k % 4 : Nat) : Int) := by omega
  obtain ⟨W, hW⟩ : ∃ W, W = f (32 + 4 * (k / 4) + k % 4) := ⟨_, rfl⟩
  have rW := Q.2.1.2.2.2.2.2.1 (4 * (k / 4) + k % 4) (by omega)
  rw [← Nat.add_assoc, ← hW] at rW
  rw [← hW] at a1 i1
  refine ⟨u, n', pf', ?_, a2⟩
  unfold dm_242_51
  have st : ∀ t : Int, -10 ≤ t → t ≤ 10 → dm_242_97 L0 xs K m x2 x3 k y t t u δ = K m x2 x3 ((k + 1 : Nat) : Int) u (δ.w (m + 6 + k / 4) (k % 4) y) := fun t t1 t2 => by
    unfold dm_242_97
    rw [if_pos (by omega), if_pos (by omega), if_pos rfl, if_pos o, h8, Option.bind_some, if_pos (by omega), if_pos (AR_A d1), q4, r4, if_pos (AR_I d1 (by omega)), Int.toNat_natCast, d4, Option.bind_some, if_pos (AR_A d3), if_pos (AR_I d3 (by omega)), Int.toNat_natCast, Option.bind_some]
    rfl
  rw [if_pos o, h8, Option.bind_some, if_pos (by omega), if_pos (AR_A d1), q4, r4, if_pos (AR_I d1 (by omega)), Int.toNat_natCast, d4, Option.bind_some, if_pos (AR_A d3), if_pos (AR_I d3 (by omega)), a1, Option.bind_some, Int.toNat_natCast, i1, if_pos (by omega), if_pos (by omega)]
  dsimp only
  by_cases q : W = y
  · rw [if_neg (fun t => t q), if_pos q]
    exact st (-2) (by omega) (by omega)
  · rw [if_pos q, if_neg q]
    exact st W (by omega) (by omega)
theorem st_3 {m a : Nat} {x2 x3 : Int} (h2 : 0 ≤ x2 ∧ x2 ≤ 2147483647) (h3 : 0 ≤ x3 ∧ x3 ≤ 2147483647) : ∀ (q k : Nat) (s : gx_S) (δ : dS) (f : Nat → Int) (n : Nat) (pf : Nat → Nat → Int), 12 < q + k → k ≤ 12 → QS f R C n pf L tb s → MM δ m a f R C → f 2 = 7 → Z0 f → ∃ (F : Nat → Int) (u : gx_S) (ε : dS) (n' : Nat) (pf' : Nat → Nat → Int), dm_242_3 L0 xs q m x2 x3 k s δ = some (1, u, ε) ∧ QS F R C n' pf' L tb u ∧ F 2 = 7 ∧ MM ε m a F R C ∧ DF m 0 δ ε := by
  intro q
  induction q with
  | zero => intro k s δ f n pf h; omega
  | succ q ih =>
    intro k s δ f n pf h hk Q M h7 Z
    rw [dm_242_3, if_pos (by omega)]
    have o := M.1.2.1
    by_cases e : k = 12
    · obtain ⟨x, hx⟩ : ∃ x, x = (Int32.ofInt x2 &&& Int32.ofInt 1).toInt := ⟨_, rfl⟩
      have rx := nb_a (Int32.ofInt x2) (y := 1) (by omega)
      rw [← hx] at rx
      obtain ⟨y, hy⟩ : ∃ y, y = (Int32.ofInt ((Int32.ofInt x2 >>> (Int32.ofInt 1 &&& 31)).toInt) &&& Int32.ofInt 1).toInt := ⟨_, rfl⟩
      have ry := nb_a (Int32.ofInt ((Int32.ofInt x2 >>> (Int32.ofInt 1 &&& 31)).toInt)) (y := 1) (by omega)
      rw [← hy] at ry
      obtain ⟨u1, n1, pf1, a1, a2⟩ := qs_settle Q (z := 0) (y := x) (by omega) (by omega)
      rw [Z.1] at a1
      obtain ⟨u2, n2, pf2, b1, b2⟩ := qs_settle a2 (z := 1) (y := y) (by omega) (by omega)
      have z1 : (if 3 + 1 = 3 + 0 then x else f (3 + 1)) = 0 := (if_neg (by omega)).trans Z.2.1
      rw [z1] at b1
      have M2 := MM_st (x := x) (y := y) M
      obtain ⟨D, hD⟩ : ∃ D, D = (δ.w m 2 x).w m 3 y := ⟨_, rfl⟩
      have oD : dO D m 10 := by rw [hD]; exact o
      have i2 : D.I m 2 = x := by rw [hD, dw_I, if_neg (by omega), dw_I, if_pos ⟨rfl, rfl⟩]
      have i3 : D.I m 3 = y := by rw [hD, dw_I, if_pos ⟨rfl, rfl⟩]
      rw [← hD] at M2
      have fD : DF m 0 δ D := by rw [hD]; exact DF_tr (DF_w δ 2 x (Nat.le_refl _)) (DF_w _ 3 y (Nat.le_refl _))
      obtain ⟨F, u3, ε, n3, pf3, c1, c2, c3, c4, c5⟩ := st_195 (L0 := L0) (xs := xs) h3 100000 0 u2 D _ n2 pf2 (by omega) (by omega) b2 M2 ((if_neg (by omega)).trans ((if_neg (by omega)).trans h7)) (fun i _ h2 => (if_neg (by omega)).trans ((if_neg (by omega)).trans (Z.2.2 i h2)))
      refine ⟨F, u3, ε, n3, pf3, ?_, c2, c3, c4, DF_tr fD c5⟩
      have t1 : gm_90 0 x s = some (if (0 : Int) = x then -2 else 0, u1) := a1
      have t2 : gm_90 1 y u1 = some (if (0 : Int) = y then -2 else 0, u2) := b1
      have s187 : ∀ t : Int, -10 ≤ t → t ≤ 10 → dm_242_187 L0 xs m x3 t t u2 D = some (1, u3, ε) := fun t t1 t2 => by
        unfold dm_242_187
        rw [if_pos (by omega), if_pos (by omega), if_pos rfl]
        exact c1
      have s162 : ∀ t : Int, -10 ≤ t → t ≤ 10 → dm_242_162 L0 xs m x3 t t u1 D = some (1, u3, ε) := fun t q1 q2 => by
        unfold dm_242_162
        rw [if_pos (by omega), if_pos (by omega), if_neg (fun t => t rfl), if_pos oD, i3, t2, Option.bind_some, if_pos (by omega)]
        dsimp only
        by_cases y0 : y = 0
        · rw [if_neg (fun t => t y0), if_pos y0.symm]
          exact s187 (-2) (by omega) (by omega)
        · rw [if_pos y0, if_neg (fun t => y0 t.symm)]
          exact s187 0 (by omega) (by omega)
      rw [if_pos (by omega), if_pos o, ← hx, ← hy, Option.bind_some, if_pos (show dO (δ.w m 2 x) m 10 from o), Option.bind_some, ← hD, if_pos oD, i2, t1, Option.bind_some, if_pos (by omega)]
      dsimp only
      by_cases x0 : x = 0
      · rw [if_neg (fun t => t x0), if_pos x0.symm]
        exact s162 (-2) (by omega) (by omega)
      · rw [if_pos x0, if_neg (fun t => x0 t.symm)]
        exact s162 0 (by omega) (by omega)
    · obtain ⟨X, hX⟩ : ∃ X, X = (Int32.ofInt ((Int32.ofInt x2 >>> (Int32.ofInt (k : Int) &&& 31)).toInt) ^^^ Int32.ofInt ((Int32.ofInt x3 >>> (Int32.ofInt (2 * (k : Int)) &&& 31)).toInt)).toInt := ⟨_, rfl⟩
      have r2 := nb_s (n := k) h2 (k := (k : Int)) rfl (by omega)
      have r3 := nb_s (n := 2 * k) h3 (k := 2 * (k : Int)) (by omega) (by omega)
      have rX := nb_x (x := (Int32.ofInt x2 >>> (Int32.ofInt (k : Int) &&& 31)).toInt) (y := (Int32.ofInt x3 >>> (Int32.ofInt (2 * (k : Int)) &&& 31)).toInt) (by omega) (by omega)
      rw [← hX] at rX
      have go : ∀ y1 : Int, ∃ (F : Nat → Int) (u : gx_S) (ε : dS) (n' : Nat) (pf' : Nat → Nat → Int), dm_242_37 L0 xs (dm_242_3 L0 xs q) m x2 x3 k (X % 10) y1 s δ = some (1, u, ε) ∧ QS F R C n' pf' L tb u ∧ F 2 = 7 ∧ MM ε m a F R C ∧ DF m 0 δ ε := fun y1 => by
        have rY := nb_al (Int32.ofInt y1) (x := X % 10) (by omega)
        obtain ⟨Y, hY⟩ : ∃ Y, Y = (Int32.ofInt (X % 10) &&& Int32.ofInt y1).toInt := ⟨_, rfl⟩
        rw [← hY] at rY
        obtain ⟨u, n', pf', a1, a2⟩ := st_51 (L0 := L0) (xs := xs) (K := dm_242_3 L0 xs q) (x2 := x2) (x3 := x3) (y := Y) (show k < 12 by omega) (by omega) Q M
        obtain ⟨F, w, ε, n2, pf2, b1, b2, b3, b4, b5⟩ := ih (k + 1) u _ _ n' pf' (by omega) (by omega) a2 (MM_wt (x := Y) (show k / 4 < 3 by omega) (show k % 4 < 4 by omega) M) ((if_neg (by omega)).trans h7) ⟨(if_neg (by omega)).trans Z.1, (if_neg (by omega)).trans Z.2.1, fun z hz => (if_neg (by omega)).trans (Z.2.2 z hz)⟩
        refine ⟨F, w, ε, n2, pf2, ?_, b2, b3, b4, DF_tr (DF_WM (by omega) (WM_w (lo := m + 6) (hi := m + 9) δ (k % 4) Y (by omega))) b5⟩
        unfold dm_242_37
        rw [← hY, if_pos rY.1, a1]
        exact b1
      rw [if_neg (by omega), ← hX, if_pos rX, if_pos (by omega), if_pos (by omega)]
      by_cases k5 : (k : Int) % 5 = 0
      · rw [if_neg (fun t => t k5)]
        exact go 0
      · rw [if_pos k5]
        exact go 15
theorem settings_ {m a n : Nat} {x2 x3 : Int} {f : Nat → Int} {pf : Nat → Nat → Int} {s : gx_S} {δ : dS} (h2 : 0 ≤ x2 ∧ x2 ≤ 2147483647) (h3 : 0 ≤ x3 ∧ x3 ≤ 2147483647) (Q : QS f R C n pf L tb s) (M : MM δ m a f R C) (h7 : f 2 = 7) (Z : Z0 f) : ∃ (F : Nat → Int) (u : gx_S) (ε : dS) (n' : Nat) (pf' : Nat → Nat → Int), dm_242 L0 xs m x2 x3 s δ = some (1, u, ε) ∧ QS F R C n' pf' L tb u ∧ F 2 = 7 ∧ MM ε m a F R C ∧ DF m 0 δ ε := by
  unfold dm_242
  exact st_3 h2 h3 100000 0 s δ f n pf (by omega) (by omega) Q M h7 Z
end
