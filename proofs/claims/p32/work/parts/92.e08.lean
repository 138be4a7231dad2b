/-! the map told -/
theorem fy_0 (f : Nat → Int) (l : Nat) (T : Int) (r c : Nat) (h : Nat → Int) : fy f l T r c h 0 = r := if_pos rfl
theorem fy_1 (f : Nat → Int) (l : Nat) (T : Int) (r c : Nat) (h : Nat → Int) : fy f l T r c h 1 = c := (if_neg (by decide)).trans (if_pos rfl)
theorem fy_2 (f : Nat → Int) (l : Nat) (T : Int) (r c : Nat) (h : Nat → Int) : fy f l T r c h 2 = T := (if_neg (by decide)).trans ((if_neg (by decide)).trans (if_pos rfl))
theorem fy_i {f : Nat → Int} {l : Nat} {T : Int} {r c : Nat} {h : Nat → Int} {i : Nat} (hi : i < 96) : fy f l T r c h (52 + 96 * l + i) = h i := by
  unfold fy
  rw [if_neg (by omega), if_neg (by omega), if_neg (by omega), if_pos (by omega), show 52 + 96 * l + i - 52 - 96 * l = i by omega]
theorem fy_oo {f : Nat → Int} {l : Nat} {T : Int} {r c : Nat} {h : Nat → Int} {i : Nat} (h3 : 3 ≤ i) (ho : ¬ (52 + 96 * l ≤ i ∧ i < 148 + 96 * l)) : fy f l T r c h i = f i := by
  unfold fy
  rw [if_neg (by omega), if_neg (by omega), if_neg (by omega), if_neg ho]
theorem rc_k {R C k : Nat} (hk : k < R * C) : k / C < R ∧ k % C < C := by
  have C0 : 0 < C := Nat.pos_of_ne_zero fun z => by rw [z, Nat.mul_zero] at hk; omega
  exact ⟨Nat.div_lt_of_lt_mul (by rw [Nat.mul_comm]; exact hk), Nat.mod_lt _ C0⟩
section
variable {L0 : Nat} {xs : Nat → Int32} {f : Nat → Int} {R C R0 C0 n : Nat} {pf : Nat → Nat → Int} {tb : Nat → Int}
theorem td_ly {a l : Nat} {li fl : Int} {s : gx_S} {δ : dS} (h : QS f R0 C0 n pf 0 tb s) (hl : l < 3) (hli : li = l) (hfl : fl = if l = 2 then 0 else 1) (hR : 0 < R ∧ R ≤ 8) (hC : 0 < C ∧ C ≤ 12) (hA : AR δ 0 a (R * C)) (hv : ∀ k, k < R * C → 0 ≤ δ.I a k ∧ δ.I a k ≤ if l = 2 then 3 else 8) (h0 : ¬ l = 0 → R0 = R ∧ C0 = C ∧ f 2 % 2 = 1) : ∃ (x : Nat) (ε1 ε2 : dS) (T : Int) (u1 u2 : gx_S) (H tb' : Nat → Int), dm_239 L0 xs a C fl s δ = some (x, s, ε1) ∧ dm_237 L0 xs x s ε1 = some (T, u1, ε2) ∧ gm_87 li u1 = some (((R * C : Nat) : Int), u2) ∧ QS (fy f l (bset (tl_ f R C) l) R C H) R C (nn n) (pn n pf f) 0 tb' u2 ∧ (∀ k, k < R * C → H (12 * (k / C) + k % C) = δ.I a k) ∧ DF δ.n (2 * (R * C) + 5) δ ε2 := by
  have N96 : R * C ≤ 96 := Nat.mul_le_mul hR.2 hC.2
  obtain ⟨cv, hcv⟩ : ∃ cv : Nat → Int, cv = fun k => if k < R * C then δ.I a k else 0 := ⟨_, rfl⟩
  have cv1 : ∀ k, k < R * C → δ.I a k = cv k := fun k hk => by rw [hcv]; exact (if_pos hk).symm
  have cv8 : ∀ k, 0 ≤ cv k ∧ cv k ≤ 8 := fun k => by
    rw [hcv]
    show 0 ≤ (if k < R * C then δ.I a k else 0) ∧ (if k < R * C then δ.I a k else 0) ≤ 8
    by_cases q : k < R * C
    · rw [if_pos q]
      have := hv k q
      by_cases q2 : l = 2
      · rw [if_pos q2] at this; omega
      · rw [if_neg q2] at this; exact this
    · rw [if_neg q]; omega
  have fl2 : fl = 0 ∨ fl = 1 := by
    rw [hfl]
    by_cases q2 : l = 2
    · exact .inl (if_pos q2)
    · exact .inr (if_neg q2)
  obtain ⟨ε1, x, e1, e2, e3, e4⟩ := ly_ (L0 := L0) (xs := xs) hC N96 (fun k _ => cv8 k) fl2 (s := s) hA cv1
  have lN : ln_ C (R * C) ≤ 200 := by
    rw [ln_R hR.1 hC.1]
    have := Nat.mul_le_mul (show R - 1 ≤ 7 by omega) (show C + 1 ≤ 13 by omega)
    omega
  obtain ⟨u1, ε2, tb1, g1, g2, g3, g4⟩ := tx_ (L0 := L0) (xs := xs) lN (lt_r fun k => sgl_r (cv8 k)) h e2
  obtain ⟨hh, y1, y2⟩ := lyw_ok (tb := tb1) (cv := cv) (R0 := R0) (C0 := C0) hl hR hC rfl (fun i hi => by rw [g3 i hi, hfl]) (fun k hk => by rw [← cv1 k hk]; exact hv k hk) (fun q => ⟨(h0 q).1, (h0 q).2.1⟩)
  obtain ⟨u2, H, z1, z2, z3, z4⟩ := qs_layer g2 hl (fun q => (h0 q).2.2) y1
  refine ⟨x, ε1, ε2, _, u1, u2, H, tb1, e1, g1, ?_, z4, fun k hk => ?_, DF_c (DF_tr e4 (DF_mono e4.1.1 (Nat.le_refl _) g4)) (by omega)⟩
  · rw [hli, z1]
    rfl
  · obtain ⟨k1, k2⟩ := rc_k hk
    rw [z2 _ _ k1 k2, y2 _ _ k1 k2, Nat.mul_comm (k / C) C, Nat.div_add_mod, cv1 k hk]
/-- the weights become 1 -/
theorem td_338 {K : Nat → Int → gx_S → dS → Option (Nat × DS)} {m a N g : Nat} (s : gx_S) (hg : g < 3) : ∀ (q l : Nat) (δ : dS), 4 < q + l → l ≤ 4 → MSh δ m a N → ∃ ε : dS, dm_240_338 L0 xs K q m g l s δ = K m ((g + 1 : Nat) : Int) s ε ∧ WM δ ε (m + 6) (m + 9) ∧ (∀ j, l ≤ j → j < 4 → ε.I (m + 6 + g) j = 1) ∧ ∀ a j, ¬ (a = m + 6 + g ∧ l ≤ j ∧ j < 4) → ε.I a j = δ.I a j := by
  intro q
  induction q with
  | zero => intro l δ h; omega
  | succ q ih =>
    intro l δ h hl M
    rw [dm_240_338, if_pos (by omega)]
    by_cases e : l = 4
    · rw [if_pos (by omega)]
      exact ⟨δ, rfl, WM_rf _ _ _, fun j h1 h2 => by omega, fun _ _ _ => rfl⟩
    · obtain ⟨ε, e1, e2, e3, e4⟩ := ih (l + 1) (δ.w (m + 6 + g) l 1) (by omega) (by omega) M
      obtain ⟨-, b, -, -, ⟨d1, d2⟩, -, -, -, -, -, h8, -⟩ := M
      refine ⟨ε, ?_, WM_tr (WM_w δ l 1 (by omega)) e2, fun j h1 h2 => ?_, fun a j hj => ?_⟩
      · rw [if_neg (by omega), if_pos b, h8, Option.bind_some, if_pos (AR_A d1), if_pos (AR_I d1 hg), Int.toNat_natCast, (d2 g hg).2, Option.bind_some, if_pos (AR_A (d2 g hg).1), if_pos (AR_I (d2 g hg).1 (by omega)), Int.toNat_natCast, Option.bind_some]
        exact e1
      · by_cases z : j = l
        · rw [e4 _ _ (by omega), dw_I, if_pos ⟨rfl, z⟩]
        · exact e3 j (by omega) h2
      · rw [e4 _ _ (by omega), dw_I, if_neg (by omega)]
theorem td_329 {m a N : Nat} (s : gx_S) : ∀ (q g : Nat) (δ : dS), 3 < q + g → g ≤ 3 → MSh δ m a N → ∃ ε : dS, dm_240_329 L0 xs q m g s δ = some (m, s, ε) ∧ WM δ ε (m + 6) (m + 9) ∧ (∀ i j, g ≤ i → i < 3 → j < 4 → ε.I (m + 6 + i) j = 1) ∧ ∀ i j, i < g → ε.I (m + 6 + i) j = δ.I (m + 6 + i) j := by
  intro q
  induction q with
  | zero => intro g δ h; omega
  | succ q ih =>
    intro g δ h hg M
    rw [dm_240_329, if_pos (by omega)]
    by_cases e : g = 3
    · rw [if_pos (by omega)]
      exact ⟨δ, rfl, WM_rf _ _ _, fun i j h1 h2 => by omega, fun _ _ _ => rfl⟩
    · obtain ⟨ε, e1, e2, e3, e4⟩ := td_338 (L0 := L0) (xs := xs) (K := dm_240_329 L0 xs q) s (show g < 3 by omega) 100000 0 δ (by omega) (by omega) M
      obtain ⟨ζ, z1, z2, z3, z4⟩ := ih (g + 1) ε (by omega) (by omega) (MSh_WM e2 M)
      refine ⟨ζ, ?_, WM_tr e2 z2, fun i j h1 h2 h3 => ?_, fun i j hi => ?_⟩
      · rw [if_neg (by omega)]
        exact e1.trans z1
      · by_cases z : i = g
        · rw [z4 i j (by omega), z]
          exact e3 j (by omega) h3
        · exact z3 i j (by omega) h2 h3
      · rw [z4 i j (by omega), e4 _ _ (by omega)]
/-- no setting is made yet -/
def Z0 (f : Nat → Int) : Prop := f 3 = 0 ∧ f 4 = 0 ∧ ∀ z, z < 8 → f (44 + z) = 0
/-- as the class begins -/
def ST (f : Nat → Int) : Prop := f 2 = 0 ∧ f 3 = 0 ∧ f 4 = 0 ∧ (∀ i, 5 ≤ i → i < 32 → f i = 0) ∧ (∀ i, 32 ≤ i → i < 44 → f i = 1) ∧ ∀ i, 44 ≤ i → i < 52 → f i = 0
theorem bs_02 : bset 0 ((0 : Nat) : Int) = 1 ∧ bset 1 ((1 : Nat) : Int) = 3 ∧ bset 3 ((2 : Nat) : Int) = 7 := by decide +kernel
theorem td_end {m q : Nat} {x2 v few lands : Int} {s : gx_S} {δ : dS} (S : ST f) (h : QS f R0 C0 n pf 0 tb s) (hR : 0 < R ∧ R ≤ 8) (hC : 0 < C ∧ C ≤ 12) (M : MSh δ m (m + 10) (R * C)) (D : DW δ m (R * C)) (i0 : δ.I m 0 = R) (i1 : δ.I m 1 = C) (i2 : δ.I m 2 = 0) (i3 : δ.I m 3 = 0) (i9 : ∀ a j, m < a → a < m + 10 → δ.I a j = 0) : ∃ (F : Nat → Int) (u : gx_S) (ζ : dS) (tb' : Nat → Int) (n' : Nat) (pf' : Nat → Nat → Int), dm_240_107 L0 xs (q + 1) x2 m v ((R * C : Nat) : Int) few lands ((R * C : Nat) : Int) s δ = some (m, u, ζ) ∧ QS F R C n' pf' 0 tb' u ∧ F 2 = 7 ∧ MM ζ m (m + 10) F R C ∧ DF m 600 δ ζ ∧ Z0 F := by
  have N96 : R * C ≤ 96 := Nat.mul_le_mul hR.2 hC.2
  have M0 := M
  obtain ⟨⟨m0, m1, -, -⟩, b, ⟨c1, c2, c3⟩, -, -, -, h4, h5, h6, -⟩ := M
  obtain ⟨y1, α1, α2, T1, s1, s2, H0, tb1, a1, a2, a3, a4, a5, a6⟩ := td_ly (L0 := L0) (xs := xs) (l := 0) (li := 0) (fl := 1) (R := R) (C := C) h (by omega) rfl rfl hR hC c1 (fun k hk => (D k hk).1) (fun t => absurd rfl t)
  obtain ⟨F1, hF1⟩ : ∃ F1, F1 = fy f 0 (bset (tl_ f R C) ((0 : Nat) : Int)) R C H0 := ⟨_, rfl⟩
  have t0 : tl_ f R C = 0 := by
    unfold tl_
    rw [S.1]
    exact ite_self _
  have F12 : F1 2 = 1 := by rw [hF1, fy_2, t0]; exact bs_02.1
  rw [← hF1] at a4
  have A11 : ∀ k, α2.I (m + 11) k = δ.I (m + 11) k := fun k => (a6.2.1 _ (by omega)).1 k
  obtain ⟨y2, β1, β2, T2, s3, s4, H1, tb2, b1, b2, b3, b4, b5, b6⟩ := td_ly (L0 := L0) (xs := xs) (l := 1) (li := 1) (fl := 1) (R := R) (C := C) a4 (by omega) rfl rfl hR hC (AR_DF a6 c2) (fun k hk => by rw [A11]; exact (D k hk).2.1) (fun _ => ⟨rfl, rfl, by omega⟩)
  obtain ⟨F2, hF2⟩ : ∃ F2, F2 = fy F1 1 (bset (tl_ F1 R C) ((1 : Nat) : Int)) R C H1 := ⟨_, rfl⟩
  have t1 : tl_ F1 R C = 1 := by
    unfold tl_
    rw [hF1, fy_0, fy_1, if_pos ⟨rfl, rfl⟩, ← hF1, F12]
  have F22 : F2 2 = 3 := by rw [hF2, fy_2, t1]; exact bs_02.2.1
  rw [← hF2] at b4
  have A12 : ∀ k, β2.I (m + 12) k = δ.I (m + 12) k := fun k => ((b6.2.1 _ (by have := a6.1; omega)).1 k).trans ((a6.2.1 _ (by omega)).1 k)
  obtain ⟨y3, γ1, γ2, T3, s5, s6, H2, tb3, g1, g2, g3, g4, g5, g6⟩ := td_ly (L0 := L0) (xs := xs) (l := 2) (li := 2) (fl := 0) (R := R) (C := C) b4 (by omega) rfl rfl hR hC (AR_DF b6 (AR_DF a6 c3)) (fun k hk => by rw [A12]; exact (D k hk).2.2) (fun _ => ⟨rfl, rfl, by omega⟩)
  obtain ⟨F3, hF3⟩ : ∃ F3, F3 = fy F2 2 (bset (tl_ F2 R C) ((2 : Nat) : Int)) R C H2 := ⟨_, rfl⟩
  have t2 : tl_ F2 R C = 3 := by
    unfold tl_
    rw [hF2, fy_0, fy_1, if_pos ⟨rfl, rfl⟩, ← hF2, F22]
  have F32 : F3 2 = 7 := by rw [hF3, fy_2, t2]; exact bs_02.2.2
  rw [← hF3] at g4
  have fr : DF δ.n 591 δ γ2 := DF_c (DF_tr a6 (DF_tr (DF_mono (by have := a6.1; omega) (Nat.le_refl _) b6) (DF_mono (by have := a6.1; have := b6.1; omega) (Nat.le_refl _) g6))) (by omega)
  have M' : MSh γ2 m (m + 10) (R * C) := MSh_DF fr (by omega) (by omega) M0
  obtain ⟨ζ, z1, z2, z3, z4⟩ := td_329 (L0 := L0) (xs := xs) s6 100000 0 γ2 (by omega) (by omega) M'
  have zI : ∀ a j, a < δ.n → ¬ (m + 6 ≤ a ∧ a < m + 9) → ζ.I a j = δ.I a j := fun a j ha hn => (z2.2.2.2 a j hn).trans ((fr.2.1 a ha).1 j)
  have Fo : ∀ i, 3 ≤ i → i < 52 → F3 i = f i := fun i h1 h2 => by
    rw [hF3, fy_oo h1 (by omega), hF2, fy_oo h1 (by omega), hF1, fy_oo h1 (by omega)]
  refine ⟨F3, s6, ζ, tb3, _, _, ?_, g4, F32, ⟨MSh_WM z2 M', ⟨by rw [zI _ _ (by omega) (by omega), i0], by rw [zI _ _ (by omega) (by omega), i1], by rw [zI _ _ (by omega) (by omega), i2, Fo 3 (by omega) (by omega), S.2.1], by rw [zI _ _ (by omega) (by omega), i3, Fo 4 (by omega) (by omega), S.2.2.1]⟩, fun k hk => ?_, fun k hk => ?_, fun k hk => ?_, fun g z hg hz => ?_, fun g l hg hl => ?_, fun z hz => ?_⟩, DF_c (DF_tr (DF_mono (show m ≤ δ.n by omega) (Nat.le_refl _) fr) (DF_WM (by omega) z2)) (by omega), (Fo 3 (by omega) (by omega)).trans S.2.1, (Fo 4 (by omega) (by omega)).trans S.2.2.1, fun z hz => (Fo _ (by omega) (by omega)).trans (S.2.2.2.2.2 _ (by omega) (by omega))⟩
  · have n1 : (R * C : Int) = ((R * C : Nat) : Int) := by rw [Int.natCast_mul]
    have f2 := DF_tr a6 (DF_mono (show δ.n ≤ α2.n from a6.1.1) (Nat.le_refl _) b6)
    rw [dm_240_107, if_pos (by omega), if_pos (by omega), if_pos (Int.le_refl _), if_pos b, h4, Option.bind_some, i1, a1, Option.bind_some]
    dsimp only
    rw [a2, Option.bind_some]
    dsimp only
    rw [a3, Option.bind_some]
    dsimp only
    rw [if_pos (by omega), if_pos rfl, if_pos (dO_DF a6 b), (a6.2.1 m (by omega)).2 5, h5, Option.bind_some, (a6.2.1 m (by omega)).1 1, i1, b1, Option.bind_some]
    dsimp only
    rw [b2, Option.bind_some]
    dsimp only
    rw [b3, Option.bind_some]
    dsimp only
    rw [if_pos (by omega), if_pos rfl, if_pos (dO_DF f2 b), (f2.2.1 m (by omega)).2 6, h6, Option.bind_some, (f2.2.1 m (by omega)).1 1, i1, g1, Option.bind_some]
    dsimp only
    rw [g2, Option.bind_some]
    dsimp only
    rw [g3, Option.bind_some]
    dsimp only
    rw [if_pos (by omega), if_pos rfl]
    exact z1
  · obtain ⟨k1, k2⟩ := rc_k hk
    rw [zI _ _ (by omega) (by omega), ← a5 k hk, hF3, fy_oo (by omega) (by omega), hF2, fy_oo (by omega) (by omega), hF1, Nat.add_assoc, fy_i (by omega)]
  · obtain ⟨k1, k2⟩ := rc_k hk
    rw [zI _ _ (by omega) (by omega), ← A11, ← b5 k hk, hF3, fy_oo (by omega) (by omega), hF2, Nat.add_assoc, fy_i (by omega)]
  · obtain ⟨k1, k2⟩ := rc_k hk
    rw [zI _ _ (by omega) (by omega), ← A12, ← g5 k hk, hF3, Nat.add_assoc, fy_i (by omega)]
  · rw [zI _ _ (by omega) (by omega), i9 _ _ (by omega) (by omega), Fo _ (by omega) (by omega), S.2.2.2.1 _ (by omega) (by omega)]
  · rw [z3 g l (by omega) hg hl, Fo _ (by omega) (by omega), S.2.2.2.2.1 _ (by omega) (by omega)]
  · rw [zI _ _ (by omega) (by omega), i9 _ _ (by omega) (by omega), Fo _ (by omega) (by omega), S.2.2.2.2.2 _ (by omega) (by omega)]
/-- a map as drawn is told -/
theorem told_ {x3 x4 x5 : Int} {s : gx_S} {δ : dS} (hL : L0 ≤ 1000) (S : ST f) (h : QS f R0 C0 n pf 0 tb s) (h215 : 215 ≤ δ.n) (h3 : 1 ≤ x3 ∧ x3 ≤ 6) (h4 : 1 ≤ x4 ∧ x4 ≤ 9) (h5 : 1 ≤ x5 ∧ x5 ≤ 8) : ∃ (R C : Nat) (F : Nat → Int) (u : gx_S) (ζ : dS) (tb' : Nat → Int) (n' : Nat) (pf' : Nat → Nat → Int), dm_240 L0 xs 0 x3 x4 x5 s δ = some (δ.n, u, ζ) ∧ QS F R C n' pf' 0 tb' u ∧ F 2 = 7 ∧ MM ζ δ.n (δ.n + 10) F R C ∧ DF δ.n 613 δ ζ ∧ Z0 F ∧ (1 ≤ R ∧ R ≤ 6) ∧ 1 ≤ C ∧ C ≤ 9 := by
  obtain ⟨v, hv, av⟩ := at_ (L0 := L0) (xs := xs) (x1 := 0) (by omega) hL
  obtain ⟨v4, hv4⟩ : ∃ z, z = (Int32.ofInt v >>> (Int32.ofInt 4 &&& 31)).toInt := ⟨_, rfl⟩
  obtain ⟨v9, hv9⟩ : ∃ z, z = (Int32.ofInt v >>> (Int32.ofInt 9 &&& 31)).toInt := ⟨_, rfl⟩
  have r4 := nb_s (n := 4) hv (k := 4) rfl (by omega)
  have r9 := nb_s (n := 9) hv (k := 9) rfl (by omega)
  have r13 := nb_a (Int32.ofInt ((Int32.ofInt v >>> (Int32.ofInt 13 &&& 31)).toInt)) (y := 3) (by omega)
  rw [← hv4] at r4
  rw [← hv9] at r9
  obtain ⟨l13, hl13⟩ : ∃ z, z = (Int32.ofInt ((Int32.ofInt v >>> (Int32.ofInt 13 &&& 31)).toInt) &&& Int32.ofInt 3).toInt := ⟨_, rfl⟩
  rw [← hl13] at r13
  have p1 := Int.emod_nonneg v (b := x3) (by omega)
  have p2 := Int.emod_lt_of_pos v (b := x3) (by omega)
  have p3 := Int.emod_nonneg v4 (b := x4) (by omega)
  have p4 := Int.emod_lt_of_pos v4 (b := x4) (by omega)
  have p5 := Int.emod_nonneg v9 (b := x5) (by omega)
  have p6 := Int.emod_lt_of_pos v9 (b := x5) (by omega)
  obtain ⟨R, hR⟩ : ∃ R : Nat, 1 + v % x3 = R := ⟨(1 + v % x3).toNat, by omega⟩
  obtain ⟨C, hC⟩ : ∃ C : Nat, 1 + v4 % x4 = C := ⟨(1 + v4 % x4).toNat, by omega⟩
  have N96 : R * C ≤ 54 := Nat.mul_le_mul (show R ≤ 6 by omega) (show C ≤ 9 by omega)
  have d10 : dnf 10 = 10 := by decide +kernel
  obtain ⟨A, hA⟩ : ∃ A, A = δ.al (100 + 10) (dnf 10) := ⟨_, rfl⟩
  have nA : A.n = δ.n + 1 := by rw [hA, da_n]
  have oA : dO A δ.n 10 := by rw [hA]; exact ⟨h215, by rw [da_n]; omega, by rw [da_sh, if_pos rfl]⟩
  have f1 : DF δ.n 1 δ A := by rw [hA]; exact DF_al δ _ _ (Nat.le_refl _) (by rw [d10]; omega)
  obtain ⟨B, e1, e2, e3, e4, e5, e6, ⟨e7, e8, e9⟩, e10, e11, e12⟩ := map_new s nA.symm oA
  obtain ⟨Q, hQ⟩ : ∃ Q, Q = (B.w δ.n 0 R).w δ.n 1 C := ⟨_, rfl⟩
  have nQ : Q.n = δ.n + 10 := by rw [hQ, dw_n, dw_n, e2]
  have oQ : dO Q δ.n 10 := by rw [hQ]; exact e3
  have f2 : DF δ.n 0 B Q := by rw [hQ]; exact DF_tr (DF_w B 0 _ (Nat.le_refl _)) (DF_w _ 1 _ (Nat.le_refl _))
  have q0 : Q.I δ.n 0 = R := by rw [hQ, dw_I, if_neg (fun t => absurd t.2 (by decide)), dw_I, if_pos ⟨rfl, rfl⟩]
  have q1 : Q.I δ.n 1 = C := by rw [hQ, dw_I, if_pos ⟨rfl, rfl⟩]
  obtain ⟨U, hU⟩ : ∃ U, U = (Q.al 0 (R * C)).r δ.n 4 (some Q.n) := ⟨_, rfl⟩
  obtain ⟨V, hV⟩ : ∃ V, V = (U.al 0 (R * C)).r δ.n 5 (some U.n) := ⟨_, rfl⟩
  obtain ⟨W, hW⟩ : ∃ W, W = (V.al 0 (R * C)).r δ.n 6 (some V.n) := ⟨_, rfl⟩
  obtain ⟨nU, pU, iU, sU⟩ := mr_1 hU
  obtain ⟨nV, pV, iV, sV⟩ := mr_1 hV
  obtain ⟨nW, pW, iW, sW⟩ := mr_1 hW
  have u3 : DF δ.n 1 Q (Q.al 0 (R * C)) := DF_al Q _ _ (by omega) (by omega)
  have f3 : DF δ.n 1 Q U := by rw [hU]; exact DF_tr u3 (DF_r _ 4 _ (Nat.le_refl _))
  have u4 : DF δ.n 1 U (U.al 0 (R * C)) := DF_al U _ _ (by omega) (by omega)
  have f4 : DF δ.n 1 U V := by rw [hV]; exact DF_tr u4 (DF_r _ 5 _ (Nat.le_refl _))
  have u5 : DF δ.n 1 V (V.al 0 (R * C)) := DF_al V _ _ (by omega) (by omega)
  have f5 : DF δ.n 1 V W := by rw [hW]; exact DF_tr u5 (DF_r _ 6 _ (Nat.le_refl _))
  have oU := dO_DF f3 oQ
  have oV := dO_DF f4 oU
  have oW := dO_DF f5 oV
  have fB := DF_tr f2 (DF_tr f3 (DF_tr f4 f5))
  have wP : ∀ a j, δ.n < a → a < δ.n + 10 → W.P a j = B.P a j := fun a j h1 h2 => by
    rw [pW, if_neg (by omega), if_neg (by omega), pV, if_neg (by omega), if_neg (by omega), pU, if_neg (by omega), if_neg (by omega), hQ, dw_P, dw_P]
  have wP0 : ∀ j, 6 < j → W.P δ.n j = B.P δ.n j := fun j h1 => by
    rw [pW, if_neg (by omega), if_neg (by omega), pV, if_neg (by omega), if_neg (by omega), pU, if_neg (by omega), if_neg (by omega), hQ, dw_P, dw_P]
  have MW : MSh W δ.n (δ.n + 10) (R * C) := by
    refine ⟨by omega, oW, ⟨⟨by omega, by omega, ?_⟩, ⟨by omega, by omega, ?_⟩, ⟨by omega, by omega, ?_⟩⟩, ⟨AR_DF fB e4.1, fun g hg => ⟨AR_DF fB (e4.2 g hg).1, by rw [wP _ _ (by omega) (by omega)]; exact (e4.2 g hg).2⟩⟩, ⟨AR_DF fB e5.1, fun g hg => ⟨AR_DF fB (e5.2 g hg).1, by rw [wP _ _ (by omega) (by omega)]; exact (e5.2 g hg).2⟩⟩, AR_DF fB e6, ?_, ?_, ?_, by rw [wP0 7 (by omega), e7], by rw [wP0 8 (by omega), e8], by rw [wP0 9 (by omega), e9]⟩
    · rw [sW, if_neg (by omega), sV, if_neg (by omega), sU, if_pos (by omega)]
    · rw [sW, if_neg (by omega), sV, if_pos (by omega)]
    · rw [sW, if_pos (by omega)]
    · rw [pW, if_neg (by omega), if_neg (by omega), pV, if_neg (by omega), if_neg (by omega), pU, if_pos (by omega), nQ]
    · rw [pW, if_neg (by omega), if_neg (by omega), pV, if_pos (by omega), nU, nQ]
    · rw [pW, if_pos (by omega), nV, nU, nQ]
  have wI : ∀ a j, a < δ.n + 10 → W.I a j = Q.I a j := fun a j ha => by
    rw [iW, if_neg (by omega), iV, if_neg (by omega), iU, if_neg (by omega)]
  have w9 : ∀ a j, δ.n < a → a < δ.n + 10 → W.I a j = 0 := fun a j h1 h2 => by
    rw [wI _ _ h2, hQ, dw_I, if_neg (by omega), dw_I, if_neg (by omega), e10 _ _ h1]
  have w0 : ∀ j, 1 < j → W.I δ.n j = 0 := fun j h1 => by
    rw [wI _ _ (by omega), hQ, dw_I, if_neg (by omega), dw_I, if_neg (by omega), e11, hA, da_I, if_pos rfl]
  obtain ⟨ε, q', g1, g2, g3⟩ := td_107 (L0 := L0) (xs := xs) (m := δ.n) (N := R * C) (x2 := 0) (v := v) (few := 1 + v9 % x5) (lands := 1 + l13) hL (by omega) (by omega) hv (by omega) (by omega) s 100000 0 W (by omega) (by omega) MW (fun i hi => by omega)
  have gI : ∀ a j, a < δ.n + 10 → ε.I a j = W.I a j := fun a j ha => g2.2.2.2 a j (by omega)
  obtain ⟨F, u, ζ, tb', n', pf', k1, k2, k3, k4, k5, k6⟩ := td_end (L0 := L0) (xs := xs) (q := q') (x2 := 0) (v := v) (few := 1 + v9 % x5) (lands := 1 + l13) S h (show 0 < R ∧ R ≤ 8 by omega) (show 0 < C ∧ C ≤ 12 by omega) (MSh_WM g2 MW) g3 (by rw [gI _ _ (by omega), wI _ _ (by omega), q0]) (by rw [gI _ _ (by omega), wI _ _ (by omega), q1]) (by rw [gI _ _ (by omega), w0 2 (by omega)]) (by rw [gI _ _ (by omega), w0 3 (by omega)]) (fun a j h1 h2 => by rw [gI _ _ (by omega), w9 a j h1 h2])
  refine ⟨R, C, F, u, ζ, tb', n', pf', ?_, k2, k3, k4, DF_c (DF_tr f1 (DF_tr e12 (DF_tr fB (DF_tr (DF_WM (by omega) g2) k5)))) (by omega), k6, by omega, by omega⟩
  have rc : (R : Int) * (C : Int) = ((R * C : Nat) : Int) := by rw [Int.natCast_mul]
  unfold dm_240
  rw [Option.bind_some, ← hA, if_pos oA, e1, Option.bind_some]
  dsimp only
  rw [av, Option.bind_some]
  dsimp only
  rw [← hv4, ← hv9, ← hl13, hR, hC, if_pos (by omega), if_pos e3, Option.bind_some, if_pos (by omega), if_pos (show dO (B.w δ.n 0 R) δ.n 10 from e3), Option.bind_some, ← hQ, if_pos oQ, q0, q1, rc, if_pos (by omega), Option.bind_some, Int.toNat_natCast, if_pos (dO_DF u3 oQ), Option.bind_some, ← hU, Option.bind_some, if_pos (dO_DF u4 oU), Option.bind_some, ← hV, Option.bind_some, if_pos (dO_DF u5 oV), Option.bind_some, ← hW, if_pos (by omega)]
  exact g1.trans k1
end
