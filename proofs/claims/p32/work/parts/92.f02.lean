/-! RESTS, LIVING -/
/-- the greatest that isn't given yet, as the law looks for it -/
def bl (g v : Nat → Int) : Nat → Int
  | 0 => -1
  | c + 1 => if g c = 0 ∧ (bl g v c < 0 ∨ v (bl g v c).toNat < v c) then (c : Int) else bl g v c
theorem bl_r (g v : Nat → Int) : ∀ c : Nat, -1 ≤ bl g v c ∧ bl g v c < c
  | 0 => by unfold bl; omega
  | c + 1 => by
    have := bl_r g v c
    unfold bl
    split <;> omega
theorem bl_bst {g v : Nat → Int} : ∀ {m : Nat}, (∀ c, c < m → 0 ≤ v c) → (0 ≤ bst (fun c => if g c = 0 then v c else 0) m → bl g v m = bst (fun c => if g c = 0 then v c else 0) m) ∧ (bst (fun c => if g c = 0 then v c else 0) m = -1 → bl g v m = -1 ∨ v (bl g v m).toNat = 0)
  | 0, _ => ⟨fun h => absurd h (by unfold bst; decide), fun _ => .inl rfl⟩
  | m + 1, h => by
    obtain ⟨a, b⟩ := bl_bst (g := g) (v := v) (m := m) (fun c hc => h c (by omega))
    have r := bst_r (fun c => if g c = 0 then v c else 0) m
    have vm := h m (by omega)
    have top := bst_top (v := fun c => if g c = 0 then v c else 0) (m := m)
    obtain ⟨w, hw⟩ : ∃ w : Nat → Int, w = fun c => if g c = 0 then v c else 0 := ⟨_, rfl⟩
    have wc : ∀ c, w c = if g c = 0 then v c else 0 := fun c => by rw [hw]
    rw [← hw] at a b r top ⊢
    have bl1 : bl g v (m + 1) = if g m = 0 ∧ (bl g v m < 0 ∨ v (bl g v m).toNat < v m) then (m : Int) else bl g v m := rfl
    have bs1 : bst w (m + 1) = if 0 < w m ∧ (bst w m = -1 ∨ w (bst w m).toNat < w m) then (m : Int) else bst w m := rfl
    rw [bl1, bs1]
    by_cases q : g m = 0
    · have wm : w m = v m := (wc m).trans (if_pos q)
      rw [wm]
      by_cases q1 : 0 ≤ bst w m
      · have e := a q1
        have t : 0 < w (bst w m).toNat := by
          have := (top q1).1
          rw [wc]
          exact this
        have wb : w (bst w m).toNat = v (bst w m).toNat := by
          have := wc (bst w m).toNat
          by_cases q3 : g (bst w m).toNat = 0
          · rw [this, if_pos q3]
          · rw [if_neg q3] at this
            omega
        rw [e, wb]
        rw [wb] at t
        by_cases q2 : v (bst w m).toNat < v m
        · rw [if_pos (show g m = 0 ∧ (bst w m < 0 ∨ v (bst w m).toNat < v m) from ⟨q, .inr q2⟩), if_pos (show 0 < v m ∧ (bst w m = -1 ∨ v (bst w m).toNat < v m) from ⟨by omega, .inr q2⟩)]
          exact ⟨fun _ => rfl, fun t => by omega⟩
        · rw [if_neg (show ¬ (g m = 0 ∧ (bst w m < 0 ∨ v (bst w m).toNat < v m)) by omega), if_neg (show ¬ (0 < v m ∧ (bst w m = -1 ∨ v (bst w m).toNat < v m)) by omega)]
          exact ⟨fun _ => rfl, fun t => by omega⟩
      · have e := b (by omega)
        by_cases q2 : 0 < v m
        · rw [if_pos (show g m = 0 ∧ (bl g v m < 0 ∨ v (bl g v m).toNat < v m) from ⟨q, by rcases e with e | e <;> omega⟩), if_pos (show 0 < v m ∧ (bst w m = -1 ∨ w (bst w m).toNat < v m) from ⟨q2, .inl (by omega)⟩)]
          exact ⟨fun _ => rfl, fun t => by omega⟩
        · rw [if_neg (show ¬ (0 < v m ∧ (bst w m = -1 ∨ w (bst w m).toNat < v m)) by omega)]
          refine ⟨fun t => absurd t q1, fun _ => ?_⟩
          by_cases q3 : g m = 0 ∧ (bl g v m < 0 ∨ v (bl g v m).toNat < v m)
          · rw [if_pos q3]
            exact .inr (by rw [Int.toNat_natCast]; omega)
          · rw [if_neg q3]
            exact e
    · have wm : w m = 0 := (wc m).trans (if_neg q)
      rw [if_neg (show ¬ (g m = 0 ∧ (bl g v m < 0 ∨ v (bl g v m).toNat < v m)) from fun t => q t.1), if_neg (show ¬ (0 < w m ∧ (bst w m = -1 ∨ w (bst w m).toNat < w m)) by omega)]
      exact ⟨a, b⟩
section
variable {Ls : Nat} {xs : Nat → Int32} {P : Nat → Int} {A : Nat → Nat → Int}
theorem pa_mul (h : PA P A) {x y : Nat} (hx : x < 8) (hy : y < 9) : 0 ≤ P x * A x y ∧ P x * A x y ≤ 100000000000000 := by
  have p := h.1 x hx
  have a := h.2.1 x y hx hy
  refine ⟨Int.mul_nonneg p.1 a.1, ?_⟩
  exact Int.mul_le_mul p.2 a.2 a.1 (by omega)
theorem rs_121 {K : Int → Nat → Int → Nat → Int → Nat → gx_S → dS → Option (Nat × DS)} {x2 x5 x8 : Nat} {x6 : Int} {g : Nat → Int} {δ : dS} (s : gx_S) (h : PA P A) (W0 : 0 < vt A 0) (Wb : vt A 0 ≤ 9000000) (a2 : AR δ 0 x2 8) (a8 : AR δ 2 x8 8) (i2 : ∀ y, y < 8 → δ.I x2 y = A 0 y) (i8 : ∀ y, y < 8 → δ.I x8 y = g y) (hg : ∀ y, y < 8 → g y = 0 ∨ g y = 1) : ∀ q k : Nat, 8 < q + k → k ≤ 8 → ∃ q' : Nat, dm_245_121 Ls xs K q (P 0) x2 (vt A 0) x5 x6 x8 (bl g (rsv P A 0) k) k s δ = dm_245_121 Ls xs K (q' + 1) (P 0) x2 (vt A 0) x5 x6 x8 (bl g (rsv P A 0) 8) ((8 : Nat) : Int) s δ := by
  have rs : ∀ y, rsv P A 0 y = P 0 * A 0 y % vt A 0 := fun y => if_neg (show ¬ sg (fun y => A 0 y) 9 ≤ 0 by have : 0 < sg (fun y => A 0 y) 9 := W0; omega)
  intro q
  induction q with
  | zero => intro k h; omega
  | succ q ih =>
    intro k hq hk
    by_cases e : k = 8
    · rw [e]
      exact ⟨q, rfl⟩
    · obtain ⟨q', i⟩ := ih (k + 1) (by omega) (by omega)
      refine ⟨q', ?_⟩
      rw [← i]
      have r := bl_r g (rsv P A 0) k
      have bl1 : bl g (rsv P A 0) (k + 1) = if g k = 0 ∧ (bl g (rsv P A 0) k < 0 ∨ rsv P A 0 (bl g (rsv P A 0) k).toNat < rsv P A 0 k) then (k : Int) else bl g (rsv P A 0) k := rfl
      have gk := hg k (by omega)
      have s8 := AR_2 a2
      rw [dm_245_121, if_pos (AR_A a2), if_pos (by omega), if_pos (by omega), if_neg (by omega), if_pos (AR_A a8), if_pos (AR_I a8 (by omega)), Int.toNat_natCast, i8 k (by omega), if_pos (by omega), bl1]
      by_cases q0 : g k = 0
      · rw [if_neg (fun t => t q0), if_pos (by omega)]
        by_cases q1 : bl g (rsv P A 0) k < 0
        · rw [if_pos q1, if_pos ⟨q0, .inl q1⟩]
          rfl
        · obtain ⟨w, hw⟩ : ∃ w : Nat, bl g (rsv P A 0) k = w := ⟨(bl g (rsv P A 0) k).toNat, by omega⟩
          rw [hw] at r q1 ⊢
          have m1 := pa_mul h (show 0 < 8 by omega) (show k < 9 by omega)
          have m2 := pa_mul h (show 0 < 8 by omega) (show w < 9 by omega)
          have b1 := h.2.1 0 k (by omega) (by omega)
          have b2 := h.2.1 0 w (by omega) (by omega)
          have n1 := Int.emod_nonneg (P 0 * A 0 k) (b := vt A 0) (by omega)
          have n2 := Int.emod_lt_of_pos (P 0 * A 0 k) W0
          have n3 := Int.emod_nonneg (P 0 * A 0 w) (b := vt A 0) (by omega)
          have n4 := Int.emod_lt_of_pos (P 0 * A 0 w) W0
          rw [if_neg q1, if_pos (AR_I a2 (by omega)), i2 k (by omega), if_pos (by omega), if_pos (by omega), if_pos (AR_I a2 (by omega)), Int.toNat_natCast, i2 w (by omega), if_pos (by omega), if_pos (by omega), if_pos (by omega), if_pos (by omega), rs, rs]
          by_cases q2 : P 0 * A 0 k % vt A 0 ≤ P 0 * A 0 w % vt A 0
          · rw [if_pos q2, if_neg (show ¬ (g k = 0 ∧ ((w : Int) < 0 ∨ P 0 * A 0 w % vt A 0 < P 0 * A 0 k % vt A 0)) by omega)]
            rfl
          · rw [if_neg q2, if_pos (show g k = 0 ∧ ((w : Int) < 0 ∨ P 0 * A 0 w % vt A 0 < P 0 * A 0 k % vt A 0) by omega)]
            rfl
      · rw [if_pos q0, if_neg (fun t => q0 t.1)]
        rfl
theorem rs_103 {x2 x5 N : Nat} (s : gx_S) (h : PA P A) (W0 : 0 < vt A 0) (Wb : vt A 0 ≤ 9000000) (A8 : A 0 8 = 0) (hN : sg (gd (rsv P A 0) N) 9 = N) (hb : N ≤ 1000) (h2 : x2 < x5) : ∀ (q i : Nat) (δ : dS), N < q + i → i ≤ N → AR δ 0 x2 8 → AR δ 1 x5 8 → AR δ 2 (x5 + 1) 8 → (∀ y, y < 8 → δ.I x2 y = A 0 y) → (∀ y, y < 8 → δ.I x5 y = flv P A 0 y + gd (rsv P A 0) i y) → (∀ y, y < 8 → δ.I (x5 + 1) y = gd (rsv P A 0) i y) → ∃ ε : dS, dm_245_103 Ls xs q (P 0) x2 (vt A 0) x5 ((N - i : Nat) : Int) (x5 + 1) s δ = some (x5, s, ε) ∧ WM δ ε x5 (x5 + 2) ∧ ∀ y, y < 8 → ε.I x5 y = flv P A 0 y + gd (rsv P A 0) N y := by
  have rv_ : ∀ y, y < 9 → 0 ≤ rsv P A 0 y := fun y hy => by
    unfold rsv
    split
    · omega
    · exact Int.emod_nonneg _ (by omega)
  have r8 : rsv P A 0 8 = 0 := by
    unfold rsv
    rw [A8, Int.mul_zero, Int.zero_emod]
    exact ite_self _
  intro q
  induction q with
  | zero => intro i δ hq; omega
  | succ q ih =>
    intro i δ hq hi a2 a5 a8 i2 i5 i8
    rw [dm_245_103, if_pos (by omega)]
    by_cases e : i = N
    · rw [if_pos (by omega)]
      exact ⟨δ, rfl, WM_rf _ _ _, by rw [e] at i5; exact i5⟩
    · obtain ⟨q', t⟩ := rs_121 (Ls := Ls) (xs := xs) (K := dm_245_103 Ls xs q) (x5 := x5) (x6 := ((N - i : Nat) : Int) - 1) s h W0 Wb a2 a8 i2 i8 (fun y _ => (gd_01 _ _ _).1) 100000 0 (by omega) (by omega)
      have go := gd_go hN (show i < N by omega)
      obtain ⟨g1, g2, g3, g4⟩ := gd_b go
      have e9 : bst (gw_ (rsv P A 0) i) 9 = bst (gw_ (rsv P A 0) i) 8 := bst_0 (fun c h1 h2 => by
        have : c = 8 := by omega
        unfold gw_
        rw [this, r8]
        rw [ite_self]
        omega) (by omega)
      have blb := (bl_bst (g := gd (rsv P A 0) i) (v := rsv P A 0) (m := 8) (fun c hc => rv_ c (by omega))).1 (show 0 ≤ bst (gw_ (rsv P A 0) i) 8 by omega)
      have blb' : bl (gd (rsv P A 0) i) (rsv P A 0) 8 = bst (gw_ (rsv P A 0) i) 9 := blb.trans e9.symm
      have r8' := bst_r (gw_ (rsv P A 0) i) 8
      obtain ⟨w, hw⟩ : ∃ w : Nat, bst (gw_ (rsv P A 0) i) 9 = w := ⟨(bst (gw_ (rsv P A 0) i) 9).toNat, by omega⟩
      have w8 : w < 8 := by omega
      have gs : ∀ y, gd (rsv P A 0) (i + 1) y = gd (rsv P A 0) i y + if y = w then 1 else 0 := fun y => by
        rw [gd_s, hw, Int.toNat_natCast]
        by_cases q1 : y = w
        · rw [if_pos ⟨q1, by omega⟩, if_pos q1]
        · rw [if_neg (fun t => q1 t.1), if_neg q1, Int.add_zero]
      obtain ⟨X, hX⟩ : ∃ X, X = (δ.w (x5 + 1) w (gn2 1)).w x5 w ((δ.w (x5 + 1) w (gn2 1)).I x5 w + 1) := ⟨_, rfl⟩
      have wX : WM δ X x5 (x5 + 2) := by rw [hX]; exact WM_tr (WM_w δ w _ (by omega)) (WM_w _ w _ (by omega))
      have X2 : ∀ y, y < 8 → X.I x2 y = A 0 y := fun y hy => (wX.2.2.2 _ _ (by omega)).trans (i2 y hy)
      have X5 : ∀ y, y < 8 → X.I x5 y = flv P A 0 y + gd (rsv P A 0) (i + 1) y := fun y hy => by
        rw [hX, dw_I, dw_I, if_neg (show ¬ (x5 = x5 + 1 ∧ w = w) by omega), gs y]
        by_cases q1 : y = w
        · rw [if_pos ⟨rfl, q1⟩, if_pos q1, ← q1, i5 y hy, Int.add_assoc]
        · rw [if_neg (fun t => q1 t.2), dw_I, if_neg (by omega), if_neg q1, Int.add_zero, i5 y hy]
      have X8 : ∀ y, y < 8 → X.I (x5 + 1) y = gd (rsv P A 0) (i + 1) y := fun y hy => by
        rw [hX, dw_I, if_neg (by omega), dw_I, gs y]
        by_cases q1 : y = w
        · rw [if_pos ⟨rfl, q1⟩, if_pos q1, gn2_1, q1]
          have := g3
          rw [hw, Int.toNat_natCast] at this
          rw [this]
          rfl
        · rw [if_neg (fun t => q1 t.2), if_neg q1, Int.add_zero, i8 y hy]
      obtain ⟨ε, z1, z2, z3⟩ := ih (i + 1) X (by omega) (by omega) (by rw [hX]; exact a2) (by rw [hX]; exact a5) (by rw [hX]; exact a8) X2 X5 X8
      refine ⟨ε, ?_, WM_tr wX z2, z3⟩
      rw [if_neg (by omega)]
      have t' : dm_245_121 Ls xs (dm_245_103 Ls xs q) 100000 (P 0) x2 (vt A 0) x5 (((N - i : Nat) : Int) - 1) (x5 + 1) (-1) 0 s δ = _ := t
      have l1 : ((N - i : Nat) : Int) - 1 = ((N - (i + 1) : Nat) : Int) := by omega
      have a5' : AR (δ.w (x5 + 1) w (gn2 1)) 1 x5 8 := a5
      have s8 := AR_2 a2
      rw [t', blb', hw, dm_245_121, if_pos (AR_A a2), if_pos (by omega), if_pos (by omega), if_pos (by omega), if_pos (AR_A a8), if_pos (AR_I a8 w8), Int.toNat_natCast, Option.bind_some, if_pos (AR_A a5'), if_pos (AR_I a5' w8), Option.bind_some, ← hX, l1]
      exact z1
theorem rs_66 {x2 x5 : Nat} (s : gx_S) (h : PA P A) (W0 : 0 < vt A 0) (Wb : vt A 0 ≤ 9000000) (A8 : A 0 8 = 0) (h2 : x2 < x5) : ∀ (q k : Nat) (δ : dS), 8 < q + k → k ≤ 8 → AR δ 0 x2 8 → AR δ 1 x5 8 → AR δ 2 (x5 + 1) 8 → (∀ y, y < 8 → δ.I x2 y = A 0 y) → (∀ y, y < k → δ.I x5 y = flv P A 0 y) → (∀ y, y < 8 → δ.I (x5 + 1) y = 0) → ∃ ε : dS, dm_245_66 Ls xs q (P 0) x2 (vt A 0) x5 (P 0 - sg (flv P A 0) k) (x5 + 1) k s δ = some (x5, s, ε) ∧ WM δ ε x5 (x5 + 2) ∧ ∀ y, y < 8 → ε.I x5 y = TB 0 P A 0 y := by
  have fl_ : ∀ y, flv P A 0 y = P 0 * A 0 y / vt A 0 := fun y => if_neg (show ¬ sg (fun y => A 0 y) 9 ≤ 0 by have : 0 < sg (fun y => A 0 y) 9 := W0; omega)
  intro q
  induction q with
  | zero => intro k δ hq; omega
  | succ q ih =>
    intro k δ hq hk a2 a5 a8 i2 i5 i8
    have s8 := AR_2 a2
    rw [dm_245_66, if_pos (AR_A a2), if_pos (by omega), if_pos (by omega)]
    by_cases e : k = 8
    · obtain ⟨t1, t2, t3⟩ := TB_gd h (x := 0) (by omega)
      have f8 : flv P A 0 8 = 0 := by rw [fl_, A8, Int.mul_zero, Int.zero_ediv]
      have l1 : lf P A 0 = P 0 - sg (flv P A 0) 8 := by
        unfold lf
        rw [if_neg (by omega), sg, f8, Int.add_zero]
      have le9 : ((lf P A 0).toNat : Int) ≤ 9 := by
        rw [← t2]
        exact (sg_bd (f := gd (rsv P A 0) (lf P A 0).toNat) (B := 1) (n := 9) (fun c _ => by have := (gd_01 (rsv P A 0) (lf P A 0).toNat c).1; omega)).2
      obtain ⟨ε, z1, z2, z3⟩ := rs_103 (Ls := Ls) (xs := xs) (N := (lf P A 0).toNat) s h W0 Wb A8 t2 (by omega) h2 100000 0 δ (by omega) (by omega) a2 a5 a8 i2 (fun y hy => (i5 y (by omega)).trans (Int.add_zero _).symm) i8
      refine ⟨ε, ?_, z2, fun y hy => (z3 y hy).trans (t1 y (by omega)).symm⟩
      rw [if_pos (by omega), e, ← l1]
      rw [Nat.sub_zero, Int.toNat_of_nonneg t3] at z1
      exact z1
    · have m1 := pa_mul h (show 0 < 8 by omega) (show k < 9 by omega)
      have b1 := h.2.1 0 k (by omega) (by omega)
      obtain ⟨X, hX⟩ : ∃ X, X = δ.w x5 k (P 0 * A 0 k / vt A 0) := ⟨_, rfl⟩
      have wX : WM δ X x5 (x5 + 2) := by rw [hX]; exact WM_w δ k _ (by omega)
      have a5X : AR X 1 x5 8 := by rw [hX]; exact a5
      have Xk : X.I x5 k = flv P A 0 k := by rw [hX, dw_I, if_pos ⟨rfl, rfl⟩, fl_]
      obtain ⟨ε, z1, z2, z3⟩ := ih (k + 1) X (by omega) (by omega) (by rw [hX]; exact a2) a5X (by rw [hX]; exact a8) (fun y hy => (wX.2.2.2 _ _ (by omega)).trans (i2 y hy)) (fun y hy => by
        by_cases q1 : y = k
        · rw [q1]; exact Xk
        · rw [hX, dw_I, if_neg (fun t => q1 t.2)]; exact i5 y (by omega)) (fun y hy => by rw [hX, dw_I, if_neg (by omega)]; exact i8 y hy)
      refine ⟨ε, ?_, WM_tr wX z2, z3⟩
      rw [sg] at z1
      rw [if_neg (by omega), if_pos (AR_I a2 (by omega)), Int.toNat_natCast, i2 k (by omega), if_pos (by omega), if_pos (by omega), if_pos (AR_A a5), if_pos (AR_I a5 (by omega)), Option.bind_some, ← hX, if_pos (AR_A a5X), if_pos (AR_I a5X (by omega)), Xk, show P 0 - sg (flv P A 0) k - flv P A 0 k = P 0 - (sg (flv P A 0) k + flv P A 0 k) by omega]
      exact z1
theorem rs_13 {x2 : Nat} {δ : dS} (s : gx_S) (h : PA P A) (A8 : A 0 8 = 0) (a2 : AR δ 0 x2 8) (i2 : ∀ y, y < 8 → δ.I x2 y = A 0 y) : ∀ (q k : Nat), 8 < q + k → k ≤ 8 → ∃ ε : dS, dm_245_13 Ls xs q (P 0) x2 (sg (A 0) k) x2 ((8 : Nat) : Int) k s δ = some (δ.n, s, ε) ∧ AR ε 1 δ.n 8 ∧ (∀ y, y < 8 → ε.I δ.n y = TB 0 P A 0 y) ∧ DF δ.n 2 δ ε := by
  have W : sg (A 0) 8 = vt A 0 := by
    show sg (A 0) 8 = sg (A 0) 8 + A 0 8
    rw [A8, Int.add_zero]
  have Wr := sg_bd (f := A 0) (B := 1000000) (n := 8) (fun c hc => h.2.1 0 c (by omega) (by omega))
  intro q
  induction q with
  | zero => intro k hq; omega
  | succ q ih =>
    intro k hq hk
    rw [dm_245_13, if_pos (by omega), if_pos (by omega)]
    by_cases e : k = 8
    · obtain ⟨X, hX⟩ : ∃ X, X = δ.al 1 8 := ⟨_, rfl⟩
      have fX : DF δ.n 1 δ X := by rw [hX]; exact DF_al δ 1 8 (Nat.le_refl _) (by omega)
      have nX : X.n = δ.n + 1 := by rw [hX, da_n]
      have a5 : AR X 1 δ.n 8 := by rw [hX]; exact ⟨by have := a2.1; have := a2.2.1; omega, by rw [da_n]; omega, by rw [da_sh, if_pos rfl]⟩
      have a2X := AR_DF fX a2
      rw [e, W]
      rw [if_pos (by omega), if_pos (AR_A a2), AR_2 a2, if_pos (by omega), Option.bind_some, Int.toNat_natCast, ← hX, if_pos (by omega)]
      by_cases z : vt A 0 = 0
      · rw [if_neg (fun t => t z)]
        refine ⟨X, rfl, a5, fun y hy => ?_, DF_c fX (by omega)⟩
        have t1 := (TB_gd h (x := 0) (by omega)).1 y (by omega)
        have l0 : lf P A 0 = 0 := if_pos (by omega)
        have f0 : flv P A 0 y = 0 := if_pos (show sg (fun y => A 0 y) 9 ≤ 0 by have : sg (fun y => A 0 y) 9 = 0 := z; omega)
        rw [t1, l0, f0, hX, da_I, if_pos rfl]
        rfl
      · obtain ⟨Y, hY⟩ : ∃ Y, Y = X.al 2 8 := ⟨_, rfl⟩
        have fY : DF δ.n 1 X Y := by rw [hY]; exact DF_al X 2 8 (by omega) (by omega)
        have a8 : AR Y 2 (δ.n + 1) 8 := by rw [hY, ← nX]; exact ⟨by have := a2.1; have := a2.2.1; omega, by rw [da_n]; omega, by rw [da_sh, if_pos rfl]⟩
        have lt : x2 < δ.n := a2.2.1
        obtain ⟨ε, z1, z2, z3⟩ := rs_66 (Ls := Ls) (xs := xs) s h (by omega) (by omega) A8 lt 100000 0 Y (by omega) (by omega) (AR_DF fY a2X) (AR_DF fY a5) a8 (fun y hy => (((DF_tr fX fY).2.1 _ lt).1 y).trans (i2 y hy)) (fun y hy => absurd hy (Nat.not_lt_zero y)) (fun y hy => by rw [hY, da_I, if_pos nX.symm])
        refine ⟨ε, ?_, ?_, z3, DF_c (DF_tr fX (DF_tr fY (DF_WM (Nat.le_refl _) z2))) (by omega)⟩
        · rw [if_pos z, if_pos (AR_A a2X), AR_2 a2X, if_pos (by omega), Option.bind_some, Int.toNat_natCast, ← hY, nX]
          rw [sg, Int.sub_zero] at z1
          exact z1
        · exact AR_DF (DF_WM (B := δ.n) (Nat.le_refl _) z2) (AR_DF fY a5)
    · obtain ⟨ε, z1, z2, z3, z4⟩ := ih (k + 1) (by omega) (by omega)
      have b1 := h.2.1 0 k (by omega) (by omega)
      refine ⟨ε, ?_, z2, z3, z4⟩
      rw [sg] at z1
      rw [if_neg (by omega), if_pos (AR_A a2), if_pos (AR_I a2 (by omega)), Int.toNat_natCast, i2 k (by omega), if_pos (by omega)]
      exact z1
theorem rests_ {x2 : Nat} {pe : Int} {δ : dS} (s : gx_S) (h : PA P A) (A8 : A 0 8 = 0) (a2 : AR δ 0 x2 8) (i2 : ∀ y, y < 8 → δ.I x2 y = A 0 y) (hp : pe = P 0) : ∃ ε : dS, dm_245 Ls xs pe x2 s δ = some (δ.n, s, ε) ∧ AR ε 1 δ.n 8 ∧ (∀ y, y < 8 → ε.I δ.n y = TB 0 P A 0 y) ∧ DF δ.n 2 δ ε := by
  obtain ⟨ε, z1, z2⟩ := rs_13 (Ls := Ls) (xs := xs) s h A8 a2 i2 100000 0 (by omega) (by omega)
  refine ⟨ε, ?_, z2⟩
  unfold dm_245
  rw [if_pos (AR_A a2), AR_2 a2, hp]
  exact z1
end
section
variable {Ls : Nat} {xs : Nat → Int32} {f : Nat → Int} {R C : Nat} {m a : Nat}
theorem lv_52 {K : Nat → Int → Nat → Nat → Int → Int → gx_S → dS → Option (Nat × DS)} {g p k : Nat} {x4 y : Int} {δ : dS} (s : gx_S) (a1 : AR δ 1 p 8) (a2 : AR δ 0 (p + 1) 8) (hk : k < 8) : dm_248_52 Ls xs K m g p (p + 1) x4 k p k y s δ = K m g p (p + 1) (x4 + y) ((k + 1 : Nat) : Int) s ((δ.w p k y).w (p + 1) k y) := by
  have b1 : AR (δ.w p k y) 1 p 8 := a1
  have b2 : AR (δ.w p k y) 0 (p + 1) 8 := a2
  have i1 : (δ.w p k y).I p k = y := by rw [dw_I, if_pos ⟨rfl, rfl⟩]
  have b3 : AR ((δ.w p k y).w (p + 1) k y) 0 (p + 1) 8 := a2
  have i3 : ((δ.w p k y).w (p + 1) k y).I (p + 1) k = y := by rw [dw_I, if_pos ⟨rfl, rfl⟩]
  unfold dm_248_52
  rw [if_pos (AR_A a1), if_pos (AR_I a1 hk), Option.bind_some, Int.toNat_natCast, if_pos (AR_A b1), if_pos (AR_I b1 hk), if_pos (AR_A b2), if_pos (AR_I b2 hk), i1, Option.bind_some, if_pos (AR_A b3), if_pos (AR_I b3 hk), i3]
  rfl
theorem lv_142 {p r : Nat} {F G : Nat → Int} (s : gx_S) (hr : p < r) : ∀ (q k : Nat) (δ : dS), 8 < q + k → k ≤ 8 → AR δ 1 p 8 → AR δ 1 r 8 → (∀ z, z < 8 → δ.I p z = F z + if z < k then G z else 0) → (∀ z, z < 8 → δ.I r z = G z) → ∃ ε : dS, dm_248_142 Ls xs q p r k s δ = some (p, s, ε) ∧ WM δ ε p (p + 1) ∧ ∀ z, z < 8 → ε.I p z = F z + G z := by
  intro q
  induction q with
  | zero => intro k δ h; omega
  | succ q ih =>
    intro k δ h hk a1 a2 i1 i2
    rw [dm_248_142, if_pos (by omega)]
    by_cases e : k = 8
    · rw [if_pos (by omega)]
      exact ⟨δ, rfl, WM_rf _ _ _, fun z hz => by rw [i1 z hz, if_pos (by omega)]⟩
    · obtain ⟨X, hX⟩ : ∃ X, X = δ.w p k (F k + G k) := ⟨_, rfl⟩
      have wX : WM δ X p (p + 1) := by rw [hX]; exact WM_w δ k _ (by omega)
      obtain ⟨ε, z1, z2, z3⟩ := ih (k + 1) X (by omega) (by omega) (by rw [hX]; exact a1) (by rw [hX]; exact a2) (fun z hz => by
        rw [hX, dw_I]
        by_cases q1 : z = k
        · rw [if_pos ⟨rfl, q1⟩, if_pos (by omega), q1]
        · rw [if_neg (fun t => q1 t.2), i1 z hz]
          by_cases q2 : z < k
          · rw [if_pos q2, if_pos (by omega)]
          · rw [if_neg q2, if_neg (by omega)]) (fun z hz => (wX.2.2.2 _ _ (by omega)).trans (i2 z hz))
      refine ⟨ε, ?_, WM_tr wX z2, z3⟩
      have ik := i1 k (by omega)
      rw [if_neg (Nat.lt_irrefl k), Int.add_zero] at ik
      rw [if_neg (by omega), if_pos (AR_A a1), if_pos (AR_I a1 (by omega)), if_pos (AR_A a2), if_pos (AR_I a2 (by omega)), Int.toNat_natCast, ik, i2 k (by omega), Option.bind_some, ← hX]
      exact z1
theorem lv_96 {g p : Nat} (s : gx_S) (hm : m + 12 < p) (ha : a < p) {x4 : Int} (h4 : i32 x4) : ∀ (q k : Nat) (δ : dS), 8 < q + k → k ≤ 8 → LM δ m a f R C → AR δ 0 (p + 1) 8 → ∃ ε : dS, dm_248_96 Ls xs q m g p (p + 1) x4 k s δ = dm_248_127 Ls xs m g p (p + 1) s ε ∧ WM δ ε (p + 1) (p + 2) ∧ (∀ z, k ≤ z → z < 8 → ε.I (p + 1) z = if x4 = 0 then NC f R C 0 z else δ.I (p + 1) z) ∧ ∀ z, z < k → ε.I (p + 1) z = δ.I (p + 1) z := by
  unfold i32 at h4
  intro q
  induction q with
  | zero => intro k δ h; omega
  | succ q ih =>
    intro k δ h hk M a2
    rw [dm_248_96, if_pos (by omega)]
    by_cases e : k = 8
    · rw [if_pos (by omega)]
      exact ⟨δ, rfl, WM_rf _ _ _, fun z h1 h2 => by omega, fun _ _ => rfl⟩
    · rw [if_neg (by omega), if_pos h4]
      by_cases q0 : x4 = 0
      · obtain ⟨X, hX⟩ : ∃ X, X = δ.w (p + 1) k (NC f R C 0 (k : Nat)) := ⟨_, rfl⟩
        have wX : WM δ X (p + 1) (p + 2) := by rw [hX]; exact WM_w δ k _ (by omega)
        obtain ⟨ε, z1, z2, z3, z4⟩ := ih (k + 1) X (by omega) (by omega) (LM_DF (DF_WM (Nat.le_refl _) wX) (by omega) (by omega) M) (by rw [hX]; exact a2)
        refine ⟨ε, ?_, WM_tr wX z2, fun z h1 h2 => ?_, fun z hz => ?_⟩
        · have o1 := M.1.1.2.1
          have h4' := M.1.1.2.2.2.2.2.2.1
          rw [if_neg (fun t => t q0), if_pos o1, h4', Option.bind_some, cells_ s M (.inl ⟨rfl, rfl⟩) (by omega), Option.bind_some]
          dsimp only
          rw [if_pos (AR_A a2), if_pos (AR_I a2 (by omega)), Int.toNat_natCast, Option.bind_some, ← hX]
          exact z1
        · by_cases q1 : z = k
          · rw [z4 z (by omega), hX, dw_I, if_pos ⟨rfl, q1⟩, if_pos q0, q1]
          · rw [z3 z (by omega) h2, if_pos q0, if_pos q0]
        · rw [z4 z (by omega), hX, dw_I, if_neg (by omega)]
      · rw [if_pos q0]
        exact ⟨δ, rfl, WM_rf _ _ _, fun z h1 h2 => by rw [if_neg q0], fun _ _ => rfl⟩
theorem Psh_0 {f : Nat → Int} {R C g : Nat} (M : MP f R C) (hg : g < 3) (n : ¬ SHr f R C) : ∀ y, y < 9 → TB 0 (Psh f R C g) (Ash f R C g) 0 y = 0 := fun y hy => by
  have p := (PA_sh M hg).1
  have t := (TB_0 (.inl rfl) p (fun t => absurd t (by decide))).1 0 y (by omega) hy
  have z : Psh f R C g 0 = 0 := by
    unfold Psh ASf
    rw [if_pos rfl, if_neg n]
    omega
  omega
theorem lv_16 {g p : Nat} (s : gx_S) (hg : g < 3) (hm : m + 12 < p) (ha : a < p) : ∀ (q k : Nat) (δ : dS), 8 < q + k → k ≤ 8 → LM δ m a f R C → δ.n = p + 2 → AR δ 1 p 8 → AR δ 0 (p + 1) 8 → (∀ z, z < k → δ.I p z = L0 f R C g z ∧ δ.I (p + 1) z = L0 f R C g z) → ∃ ε : dS, dm_248_16 Ls xs q m g p (p + 1) (sg (L0 f R C g) k) k s δ = some (p, s, ε) ∧ AR ε 1 p 8 ∧ (∀ z, z < 8 → ε.I p z = LV f R C g z) ∧ DF p 2 δ ε := by
  intro q
  induction q with
  | zero => intro k δ h; omega
  | succ q ih =>
    intro k δ h hk M hn a1 a2 i12
    have o1 := M.1.1.2.1
    rw [dm_248_16, if_pos (by omega)]
    by_cases e : k = 8
    · have f4 := M.2.1.2.2.2.1
      have i3 := M.1.2.1.2.2.2
      have no : ¬ SHr f R C → ∀ z, z < 8 → δ.I p z = LV f R C g z := fun n z hz => by
        rw [(i12 z (by omega)).1]
        unfold LV
        rw [Psh_0 M.2.1 hg n z (by omega), Int.add_zero]
      rw [if_pos (by omega), if_pos o1, i3, if_pos (by omega)]
      by_cases q0 : f 4 = 0
      · rw [if_pos q0]
        exact ⟨δ, rfl, a1, no (fun t => by have := t.1; omega), DF_c (DF_rf _ _) (by omega)⟩
      · rw [if_neg q0, hasOld_ s M, Option.bind_some]
        dsimp only
        by_cases q1 : 0 < KD f R C 0 8
        · have S : SHr f R C := ⟨by omega, q1⟩
          have as0 : ASf f R C g = 0 := if_pos S
          rw [if_pos q1, if_pos (by omega), if_pos (by omega), e]
          obtain ⟨l1, l2⟩ := L0_r M.2.1 hg
          have un := UN_r M.2.1 hg
          have cb := (M.2.1.2.2.2.2.1 g hg).2
          have l0 := sg_nn l1
          obtain ⟨X, x1, x2, x3, x4⟩ := lv_96 (Ls := Ls) (xs := xs) (g := g) (x4 := sg (L0 f R C g) 8) s hm ha (by unfold i32; omega) 100000 0 δ (by omega) (by omega) M a2
          have fX : DF (p + 1) 0 δ X := DF_WM (Nat.le_refl _) x2
          have MX := LM_DF fX (by omega) (by omega) M
          have iX : ∀ y, y < 8 → X.I (p + 1) y = Ash f R C g 0 y := fun y hy => by
            rw [x3 y (by omega) hy, (i12 y (by omega)).2]
            unfold Ash
            rw [if_pos (show (0 : Nat) = 0 ∧ y < 8 from ⟨rfl, hy⟩)]
          have nX : X.n = p + 2 := x2.2.2.1.trans hn
          obtain ⟨Y, y1, y2, y3, y4⟩ := rests_ (Ls := Ls) (xs := xs) (pe := UN f R C g) (x2 := p + 1) (δ := X) s (PA_sh M.2.1 hg).1 ((PA_sh M.2.1 hg).2 0 8 (by omega) (by omega) (by omega)) (AR_DF fX a2) iX (by unfold Psh; rw [if_pos rfl, as0, Int.sub_zero])
          rw [nX] at y1 y2 y3 y4
          have a1Y := AR_DF y4 (AR_DF fX a1)
          obtain ⟨ε, z1, z2, z3⟩ := lv_142 (Ls := Ls) (xs := xs) (p := p) (r := p + 2) (F := L0 f R C g) (G := fun z => TB 0 (Psh f R C g) (Ash f R C g) 0 z) s (by omega) 100000 0 Y (by omega) (by omega) a1Y y2 (fun z hz => by rw [(y4.2.1 _ (by omega)).1, (fX.2.1 _ (by omega)).1, (i12 z (by omega)).1, if_neg (by omega), Int.add_zero]) y3
          refine ⟨ε, ?_, AR_DF (DF_WM (B := p) (Nat.le_refl _) z2) a1Y, z3, DF_c (DF_tr (DF_mono (by omega) (Nat.le_refl _) fX) (DF_tr (DF_mono (by omega) (Nat.le_refl _) y4) (DF_WM (Nat.le_refl _) z2))) (by omega)⟩
          have x1' : dm_248_96 Ls xs 100000 m g p (p + 1) (sg (L0 f R C g) 8) 0 s δ = _ := x1
          rw [x1']
          unfold dm_248_127
          rw [unknown_ s MX hg, Option.bind_some]
          dsimp only
          rw [if_pos (by omega), y1, Option.bind_some]
          exact z1
        · rw [if_neg q1, if_pos (by omega), if_neg (by omega)]
          exact ⟨δ, rfl, a1, no (fun t => q1 t.2), DF_c (DF_rf _ _) (by omega)⟩
    · obtain ⟨-, -, -, ⟨d1, d2⟩, -, -, h4, -, -, h7', -⟩ := M.1.1
      have v4 := M.1.2.2.2.2.2.1 g k hg (by omega)
      have go : ∀ y : Int, y = L0 f R C g k → ∃ ε : dS, dm_248_52 Ls xs (dm_248_16 Ls xs q) m g p (p + 1) (sg (L0 f R C g) k) k p k y s δ = some (p, s, ε) ∧ AR ε 1 p 8 ∧ (∀ z, z < 8 → ε.I p z = LV f R C g z) ∧ DF p 2 δ ε := fun y hy => by
        obtain ⟨X, hX⟩ : ∃ X, X = (δ.w p k y).w (p + 1) k y := ⟨_, rfl⟩
        have wX : WM δ X p (p + 2) := by rw [hX]; exact WM_tr (WM_w δ k _ (by omega)) (WM_w _ k _ (by omega))
        obtain ⟨ε, z1, z2, z3, z4⟩ := ih (k + 1) X (by omega) (by omega) (LM_DF (DF_WM (Nat.le_refl _) wX) (by omega) (by omega) M) (wX.2.2.1.trans hn) (by rw [hX]; exact a1) (by rw [hX]; exact a2) (fun z hz => by
          rw [hX, dw_I, dw_I, dw_I, dw_I]
          by_cases q1 : z = k
          · rw [if_neg (by omega), if_pos ⟨rfl, q1⟩, if_pos ⟨rfl, q1⟩, q1]
            exact ⟨hy, hy⟩
          · rw [if_neg (fun t => q1 t.2), if_neg (fun t => q1 t.2), if_neg (fun t => q1 t.2), if_neg (fun t => q1 t.2)]
            exact i12 z (by omega))
        refine ⟨ε, ?_, z2, z3, DF_c (DF_tr (DF_WM (Nat.le_refl _) wX) z4) (by omega)⟩
        rw [lv_52 s a1 a2 (by omega), ← hX]
        rw [sg, ← hy] at z1
        exact z1
      have nr := NC_nn f R C 0 (k : Nat)
      have n96 : (R : Int) * C ≤ 96 := by have := MP_N M.2.1; rw [← Int.natCast_mul]; omega
      rw [if_neg (by omega), if_pos o1, h4, Option.bind_some, cells_ s M (.inl ⟨rfl, rfl⟩) (by omega), Option.bind_some]
      dsimp only
      rw [if_pos (by omega)]
      by_cases q1 : NC f R C 0 (k : Nat) = 0
      · rw [if_neg (fun t => t q1)]
        exact go 0 (by unfold L0; rw [if_neg (by omega)])
      · have cb := (M.2.1.2.2.2.2.1 g hg)
        have ck := sg_at (f := fun z => f (5 + 9 * g + z)) (n := 9) (fun z hz => cb.1 z hz) k (by omega)
        have c0 := cb.1 k (by omega)
        rw [if_pos q1, if_pos o1, h7', Option.bind_some, if_pos (AR_A d1), if_pos (AR_I d1 hg), Int.toNat_natCast, (d2 g hg).2, Option.bind_some, if_pos (AR_A (d2 g hg).1), if_pos (AR_I (d2 g hg).1 (by omega)), Int.toNat_natCast, v4, if_pos (by omega)]
        exact go _ (by unfold L0; rw [if_pos (by omega)])
theorem living_ {g : Nat} {δ : dS} (s : gx_S) (M : LM δ m a f R C) (hg : g < 3) : ∃ ε : dS, dm_248 Ls xs m g s δ = some (δ.n, s, ε) ∧ AR ε 1 δ.n 8 ∧ (∀ z, z < 8 → ε.I δ.n z = LV f R C g z) ∧ DF δ.n 4 δ ε := by
  obtain ⟨m0, m1, m2, m3⟩ := M.1.1.1
  obtain ⟨X, hX⟩ : ∃ X, X = δ.al 1 8 := ⟨_, rfl⟩
  have fX : DF δ.n 1 δ X := by rw [hX]; exact DF_al δ 1 8 (Nat.le_refl _) (by omega)
  have nX : X.n = δ.n + 1 := by rw [hX, da_n]
  have aX : AR X 1 δ.n 8 := by rw [hX]; exact ⟨by omega, by rw [da_n]; omega, by rw [da_sh, if_pos rfl]⟩
  obtain ⟨Y, hY⟩ : ∃ Y, Y = X.al 0 8 := ⟨_, rfl⟩
  have fY : DF δ.n 1 X Y := by rw [hY]; exact DF_al X 0 8 (by omega) (by omega)
  have aY : AR Y 0 (δ.n + 1) 8 := by rw [hY, ← nX]; exact ⟨by omega, by rw [da_n]; omega, by rw [da_sh, if_pos rfl]⟩
  have F := DF_tr fX fY
  obtain ⟨ε, z1, z2, z3, z4⟩ := lv_16 (Ls := Ls) (xs := xs) (g := g) (p := δ.n) s hg m1 m2 100000 0 Y (by omega) (by omega) (LM_DF F m1 m2 M) (by rw [hY, da_n, nX]) (AR_DF fY aX) aY (fun z hz => absurd hz (Nat.not_lt_zero z))
  refine ⟨ε, ?_, z2, z3, DF_c (DF_tr F z4) (by omega)⟩
  unfold dm_248
  rw [if_pos (by decide), Option.bind_some, show ((8 : Int)).toNat = 8 from rfl, ← hX, Option.bind_some, ← hY, nX]
  exact z1
end
