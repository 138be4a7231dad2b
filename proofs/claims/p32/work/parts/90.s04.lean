section
/-! THE ORDER OF CELLS: it is one, and a sorted row of them tells how many come ahead -/
abbrev AH (f : Nat → Int) (R C g a b : Nat) : Prop := (tpv f R C g a * unv f R C g b = tpv f R C g b * unv f R C g a ∧ a < b) ∨ tpv f R C g b * unv f R C g a < tpv f R C g a * unv f R C g b
theorem AH_irr (f : Nat → Int) (R C g a : Nat) : ¬ AH f R C g a a := by
  unfold AH
  omega
theorem AH_tot {f : Nat → Int} {R C g a b : Nat} (h : a ≠ b) : AH f R C g a b ∨ AH f R C g b a := by
  unfold AH
  generalize tpv f R C g a * unv f R C g b = p
  generalize tpv f R C g b * unv f R C g a = q
  omega
theorem AH_asy {f : Nat → Int} {R C g a b : Nat} (h : AH f R C g a b) : ¬ AH f R C g b a := by
  unfold AH at h ⊢
  generalize tpv f R C g a * unv f R C g b = p at h ⊢
  generalize tpv f R C g b * unv f R C g a = q at h ⊢
  omega
theorem fr_tr {Ta Tb Tc Ua Ub Uc : Int} {a b c : Nat} (pa : 0 < Ua) (pb : 0 < Ub) (pc : 0 < Uc) (h1 : (Ta * Ub = Tb * Ua ∧ a < b) ∨ Tb * Ua < Ta * Ub) (h2 : (Tb * Uc = Tc * Ub ∧ b < c) ∨ Tc * Ub < Tb * Uc) : (Ta * Uc = Tc * Ua ∧ a < c) ∨ Tc * Ua < Ta * Uc := by
  have f1 : Ub * (Ta * Uc) = (Ta * Ub) * Uc := by rw [Int.mul_comm Ub, Int.mul_assoc, Int.mul_assoc, Int.mul_comm Uc]
  have f2 : (Tb * Ua) * Uc = (Tb * Uc) * Ua := by rw [Int.mul_assoc, Int.mul_assoc, Int.mul_comm Ua]
  have f3 : (Tc * Ub) * Ua = Ub * (Tc * Ua) := by rw [Int.mul_comm Ub, Int.mul_assoc, Int.mul_assoc, Int.mul_comm Ua]
  rcases h1 with ⟨h1, i1⟩ | h1
  · rcases h2 with ⟨h2, i2⟩ | h2
    · refine .inl ⟨Int.eq_of_mul_eq_mul_left (show Ub ≠ 0 by omega) ?_, by omega⟩
      rw [f1, h1, f2, h2, f3]
    · refine .inr (Int.lt_of_mul_lt_mul_left (a := Ub) ?_ (by omega))
      rw [← f3, f1, h1, f2]
      exact Int.mul_lt_mul_of_pos_right h2 pa
  · refine .inr (Int.lt_of_mul_lt_mul_left (a := Ub) ?_ (by omega))
    rw [← f3, f1]
    have k1 := Int.mul_lt_mul_of_pos_right h1 pc
    have k2 : (Tc * Ub) * Ua ≤ (Tb * Uc) * Ua := by
      rcases h2 with ⟨h2, _⟩ | h2
      · rw [h2]
        exact Int.le_refl _
      · exact Int.mul_le_mul_of_nonneg_right (by omega) (by omega)
    rw [← f2] at k2
    omega
theorem AH_tr {f : Nat → Int} {R C g a b c : Nat} (pa : 0 < unv f R C g a) (pb : 0 < unv f R C g b) (pc : 0 < unv f R C g c) (h1 : AH f R C g a b) (h2 : AH f R C g b c) : AH f R C g a c := fr_tr pa pb pc h1 h2
/-- a sum over a row that is another order of the same -/
theorem sg_perm {m : Nat} {σ : Nat → Nat} (h : ∀ i, i < m → σ i < m) (inj : ∀ i j, i < m → j < m → σ i = σ j → i = j) (F : Nat → Int) : sg (fun i => F (σ i)) m = sg F m := by
  have c1 : ∀ b, sg (fun i => if σ i = b then (1 : Int) else 0) m ≤ 1 := by
    intro b
    by_cases q : ∃ i, i < m ∧ σ i = b
    · obtain ⟨i, hi, e⟩ := q
      rw [sg_single hi fun c hc hn => if_neg fun z => hn (inj c i hc hi (z.trans e.symm)), if_pos e]
      exact Int.le_refl _
    · rw [sg_z fun k hk => if_neg fun z => q ⟨k, hk, z⟩]
      decide
  have c2 : sg (fun b => sg (fun i => if σ i = b then (1 : Int) else 0) m) m = m := by
    rw [sg_swap (fun b i => if σ i = b then (1 : Int) else 0) m m]
    rw [sg_eq (g := fun _ => 1) fun i hi => by
      show sg (fun b => if σ i = b then (1 : Int) else 0) m = 1
      rw [sg_single (h i hi) fun c hc hn => if_neg fun z => hn z.symm, if_pos rfl], sg_one]
  have c3 : ∀ b, b < m → sg (fun i => if σ i = b then (1 : Int) else 0) m = 1 := by
    intro b hb
    by_cases q : sg (fun i => if σ i = b then (1 : Int) else 0) m = 1
    · exact q
    · have l := sg_lt (f := fun b => sg (fun i => if σ i = b then (1 : Int) else 0) m) (g := fun _ => 1) (n := m) (i := b) (fun k _ => c1 k) hb (by have := c1 b; show sg _ m < 1; omega)
      rw [c2, sg_one] at l
      omega
  have e1 : sg (fun i => F (σ i)) m = sg (fun i => sg (fun b => F b * (if σ i = b then (1 : Int) else 0)) m) m := sg_eq fun i hi => by
    show F (σ i) = sg (fun b => F b * (if σ i = b then (1 : Int) else 0)) m
    rw [sg_single (h i hi) fun c hc hn => by rw [if_neg fun z => hn z.symm, Int.mul_zero], if_pos rfl, Int.mul_one]
  rw [e1, sg_swap (fun i b => F b * (if σ i = b then (1 : Int) else 0)) m m]
  exact sg_eq fun b hb => by
    show sg (fun i => F b * (if σ i = b then (1 : Int) else 0)) m = F b
    rw [sg_mul (F b) (fun i => if σ i = b then (1 : Int) else 0) m, c3 b hb, Int.mul_one]
theorem sg_bel {y m : Nat} (h : y ≤ m) : sg (fun i => if i < y then (1 : Int) else 0) m = y := by
  rw [sg_cut0 h fun k h1 _ => if_neg (by omega), sg_eq (g := fun _ => 1) fun k hk => if_pos hk, sg_one]
/-- cells in their order -/
def OY (f : Nat → Int) (R C g : Nat) (X : Nat → Int) (c : Nat) : Prop := (∀ j, j < c → ∃ o : Nat, X j = o ∧ o < c) ∧ ∀ i j, i < j → j < c → AH f R C g (X i).toNat (X j).toNat
theorem OY_QK {f : Nat → Int} {R C g : Nat} {X : Nat → Int} (h : OY f R C g X (R * C)) : ∀ k, k < R * C → QK f R C g k (X k) := by
  intro y hy
  obtain ⟨h1, h2⟩ := h
  have b : ∀ i, i < R * C → (X i).toNat < R * C := fun i hi => by
    obtain ⟨o, e1, e2⟩ := h1 i hi
    rw [e1]
    omega
  have inj : ∀ i j, i < R * C → j < R * C → (X i).toNat = (X j).toNat → i = j := by
    intro i j hi hj e
    by_cases q : i < j
    · have := h2 i j q hj
      rw [e] at this
      exact absurd this (AH_irr f R C g _)
    · by_cases q2 : j < i
      · have := h2 j i q2 hi
        rw [e] at this
        exact absurd this (AH_irr f R C g _)
      · omega
  obtain ⟨o, e1, e2⟩ := h1 y hy
  have hm : ((R * C : Nat) : Int) = R * C := Int.natCast_mul R C
  refine ⟨by omega, by rw [e1, ← hm]; omega, ?_⟩
  unfold AHn
  rw [← sg_perm (σ := fun i => (X i).toNat) b inj (fun b => gb (AHb f R C g b (X y).toNat))]
  rw [sg_eq (g := fun i => if i < y then (1 : Int) else 0) fun i hi => ?_, sg_bel (Nat.le_of_lt hy)]
  show gb (decide (AH f R C g (X i).toNat (X y).toNat)) = _
  by_cases q : i < y
  · rw [decide_eq_true (h2 i y q hy), if_pos q]
    rfl
  · rw [if_neg q]
    by_cases q2 : i = y
    · rw [q2, decide_eq_false (AH_irr f R C g _)]
      rfl
    · rw [decide_eq_false (AH_asy (h2 y i (by omega) hi))]
      rfl
/-- the same with a hole at p, where c is to stand -/
def HO (f : Nat → Int) (R C g : Nat) (X : Nat → Int) (c p : Nat) : Prop := (∀ j, j ≤ c → j ≠ p → ∃ o : Nat, X j = o ∧ o < c) ∧ (∀ i j, i < j → j ≤ c → i ≠ p → j ≠ p → AH f R C g (X i).toNat (X j).toNat) ∧ ∀ j, p < j → j ≤ c → AH f R C g c (X j).toNat
theorem HO_put {f : Nat → Int} {R C g c p : Nat} {X Y : Nat → Int} (hU : ∀ k, k < R * C → 0 < unv f R C g k) (hc : c < R * C) (hp : p ≤ c) (h : HO f R C g X c p) (hl : p = 0 ∨ AH f R C g (X (p - 1)).toNat c) (e1 : Y p = c) (e2 : ∀ j, j ≠ p → Y j = X j) : OY f R C g Y (c + 1) := by
  obtain ⟨h1, h2, h3⟩ := h
  have ec : (Y p).toNat = c := by rw [e1]; omega
  have u : ∀ j, j ≤ c → j ≠ p → 0 < unv f R C g (X j).toNat := fun j hj hn => by
    obtain ⟨o, q1, q2⟩ := h1 j hj hn
    exact hU _ (by rw [q1]; omega)
  refine ⟨fun j hj => ?_, fun i j hij hj => ?_⟩
  · by_cases q : j = p
    · rw [q, e1]
      exact ⟨c, rfl, by omega⟩
    · obtain ⟨o, q1, q2⟩ := h1 j (by omega) q
      exact ⟨o, (e2 j q).trans q1, by omega⟩
  · by_cases qj : j = p
    · rw [qj, ec, e2 i (by omega)]
      rcases hl with hl | hl
      · omega
      · by_cases q : i = p - 1
        · rw [q]
          exact hl
        · exact AH_tr (u i (by omega) (by omega)) (u (p - 1) (by omega) (by omega)) (hU c hc) (h2 i (p - 1) (by omega) (by omega) (by omega) (by omega)) hl
    · by_cases qi : i = p
      · rw [qi, ec, e2 j qj]
        exact h3 j (by omega) (by omega)
      · rw [e2 i qi, e2 j qj]
        exact h2 i j hij (by omega) qi qj
theorem HO_move {f : Nat → Int} {R C g c p : Nat} {X Y : Nat → Int} (hp : p + 1 ≤ c) (h : HO f R C g X c (p + 1)) (hl : AH f R C g c (X p).toNat) (e1 : Y (p + 1) = X p) (e2 : ∀ j, j ≠ p + 1 → Y j = X j) : HO f R C g Y c p := by
  obtain ⟨h1, h2, h3⟩ := h
  refine ⟨fun j hj hn => ?_, fun i j hij hj ni nj => ?_, fun j h j2 => ?_⟩
  · by_cases q : j = p + 1
    · rw [q, e1]
      exact h1 p (by omega) (by omega)
    · rw [e2 j q]
      exact h1 j hj q
  · by_cases qj : j = p + 1
    · rw [qj, e1, e2 i (by omega)]
      exact h2 i p (by omega) (by omega) (by omega) (by omega)
    · by_cases qi : i = p + 1
      · rw [qi, e1, e2 j qj]
        exact h2 p j (by omega) hj (by omega) qj
      · rw [e2 i qi, e2 j qj]
        exact h2 i j hij hj qi qj
  · by_cases q : j = p + 1
    · rw [q, e1]
      exact hl
    · rw [e2 j q]
      exact h3 j (by omega) j2
end
section
/-! THE CLASS: cells sorted (that it ends, within the cells), ready -/
theorem tpv_r {f : Nat → Int} {R C g k : Nat} (M : MP f R C) (h7 : f 2 = 7) (hg : g < 3) (hk : k < R * C) : (0 ≤ tpv f R C g k ∧ tpv f R C g k ≤ 809919) ∧ (0 ≤ unv f R C g k ∧ unv f R C g k ≤ 864) := by
  obtain ⟨p1, p2⟩ := PA_mv M h7 hg
  obtain ⟨v1, v2, v3⟩ := GV_r M h7 hg
  obtain ⟨l1, l2⟩ := LV_r M hg
  refine ⟨?_, ?_⟩
  · unfold tpv
    by_cases q : co f C 0 k < 8
    · rw [if_pos q]
      have a := l1 (co f C 0 k) q
      have b := sg_at l1 (co f C 0 k) q
      have w := wt_b M h7 hg hk
      split
      · omega
      · have x := Int.mul_nonneg a w.1
        have y := Int.mul_le_mul (show LV f R C g (co f C 0 k) ≤ 89991 by omega) w.2 w.1 (by omega)
        omega
    · rw [if_neg q]
      omega
  · unfold unv
    by_cases q : co f C 0 k < 8
    · rw [if_pos q]
      have nn : ∀ x, x < 8 → 0 ≤ sg (fun y => PMV f R C g x y) 9 := fun x hx => sg_nn fun y hy => (p1.2.1 x y hx hy).1
      have := sg_at (f := fun x => sg (fun y => PMV f R C g x y) 9) (n := 8) nn (co f C 0 k) q
      have := nn (co f C 0 k) q
      omega
    · rw [if_neg q]
      omega
theorem sp_27 {s : gx_S} {f : Nat → Int} {R C g a k : Nat} (m : MR s 1 f R C) (M : MP f R C) (h7 : f 2 = 7) (hg : g < 3) (ho : fx_oc a 2 = true) (e9 : s.1 a 9 = g) (hl : ∀ z, z < 8 → s.1 (a + 1) z = LV f R C g z) (hT : TM s (a + 3) f R C g) (hk : k < R * C) : gm_27 a k s = some (tpv f R C g k, s) ∧ gm_28 a k s = some (unv f R C g k, s) := by
  obtain ⟨g0, g1, g2⟩ := sp_60g m M h7 hk
  have g3 := sp_61g m M h7 hg hk
  constructor
  · unfold gm_27 tpv
    rw [if_pos ho, g0, Option.bind_some, if_pos (by have := (co_s M h7 hk).1.2; omega)]
    by_cases q : co f C 0 k < 8
    · have i5 : ((co f C 0 k : Int)).toNat = co f C 0 k := by omega
      have pv := hT.2 (co f C 0 k) q
      rw [if_pos (by omega), if_pos (by omega), if_pos q]
      show (if (-2147483648 ≤ (s.1 (a + 3 + 3) (co f C 0 k : Int).toNat) ∧ (s.1 (a + 3 + 3) (co f C 0 k : Int).toNat) ≤ 2147483647) then (if ¬ (s.1 (a + 3 + 3) (co f C 0 k : Int).toNat) = 1 then ((gm_61 1 (s.1 a 9) k s).bind fun q25 => gm_27_47 a (co f C 0 k) q25.1 q25.2) else gm_27_47 a (co f C 0 k) 1 s) else none) = _
      rw [i5, pv]
      have st : ∀ v : Int, gm_27_47 a (co f C 0 k) v s = some (LV f R C g (co f C 0 k) * v, s) := fun v => by
        unfold gm_27_47
        rw [if_pos (by omega), i5, hl _ q]
      by_cases z : SO f R C g (co f C 0 k) (-1) false = 0
      · rw [if_pos z, if_pos (by decide), if_neg (by decide), st, if_pos z]
      · rw [if_neg z, if_pos (by decide), if_pos (by decide), e9, g3, Option.bind_some, if_neg z]
        exact st _
    · rw [if_neg (by omega), if_neg q]
  · unfold gm_28 unv
    rw [if_pos ho, g0, Option.bind_some, if_pos (by have := (co_s M h7 hk).1.2; omega)]
    by_cases q : co f C 0 k < 8
    · have i5 : ((co f C 0 k : Int)).toNat = co f C 0 k := by omega
      rw [if_neg (by omega), if_pos (by omega), if_pos q]
      show some (s.1 (a + 3 + 2) (co f C 0 k : Int).toNat, s) = _
      rw [i5, (hT.1 _ q).2.1]
    · rw [if_pos (by omega), if_neg q]
/-- the order's cells alone change -/
def OR (a : Nat) (s u : gx_S) : Prop := u.2 = s.2 ∧ ∀ k j, k ≠ a + 2 → u.1 k j = s.1 k j
theorem OR_w (a : Nat) (s : gx_S) (i : Nat) (v : Int) : OR a s (gw1 s (a + 2) i v) := ⟨rfl, fun k j h => by rw [gw1_1, if_neg (fun x => h x.1)]⟩
theorem OR_tr {a : Nat} {s t u : gx_S} (x : OR a s t) (y : OR a t u) : OR a s u := ⟨y.1.trans x.1, fun k j h => (y.2 k j h).trans (x.2 k j h)⟩
/-- what the sort stands on -/
def SB (s : gx_S) (f : Nat → Int) (R C g a : Nat) : Prop := MR s 1 f R C ∧ s.1 a 9 = g ∧ (∀ z, z < 8 → s.1 (a + 1) z = LV f R C g z) ∧ TM s (a + 3) f R C g
theorem SB_o {s u : gx_S} {f : Nat → Int} {R C g a : Nat} (h71 : 71 ≤ a) (o : OR a s u) (h : SB s f R C g a) : SB u f R C g a := ⟨MR_o (fun k j h1 h2 => o.2 k j (by omega)) h.1, (o.2 _ _ (by omega)).trans h.2.1, fun z hz => (o.2 _ _ (by omega)).trans (h.2.2.1 z hz), TM_o (fun k j h1 h2 => o.2 k j (by omega)) h.2.2.2⟩
theorem sl_29_33 {f : Nat → Int} {R C g a c : Nat} (k : Nat → Int → Int → gx_S → Option gx_S) (M : MP f R C) (h7 : f 2 = 7) (hg : g < 3) (h71 : 71 ≤ a) (ho : fx_oc a 2 = true) (hc : c < R * C) : ∀ (p n : Nat) (s : gx_S), p < n → p ≤ c → SB s f R C g a → HO f R C g (s.1 (a + 2)) c p → ∃ u : gx_S, gm_29_33 k n a ((R * C : Nat) : Int) c (tpv f R C g c) (unv f R C g c) p s = k a ((R * C : Nat) : Int) ((c + 1 : Nat) : Int) u ∧ OR a s u ∧ OY f R C g (u.1 (a + 2)) (c + 1) := by
  have hU : ∀ k, k < R * C → 0 < unv f R C g k := fun k hk => unv_p M h7 hg hk
  have hRC := RC_96 M.1.2.2.1 M.1.2.2.2
  have hRC' : ((R * C : Nat) : Int) = R * C := Int.natCast_mul R C
  intro p
  induction p with
  | zero =>
    intro n s hn hp B hj
    obtain ⟨n, rfl⟩ : ∃ n', n = n' + 1 := ⟨n - 1, by omega⟩
    have ce : ((c : Int) + 1) = ((c + 1 : Nat) : Int) := rfl
    refine ⟨gw1 s (a + 2) 0 c, ?_, OR_w a s 0 c, HO_put hU hc hp hj (.inl rfl) (by rw [gw1_1, if_pos ⟨rfl, rfl⟩]) fun j hn => by rw [gw1_1, if_neg (fun x => hn x.2)]⟩
    rw [gm_29_33, if_pos (by decide), if_pos (by decide)]
    unfold gm_29_97
    rw [if_pos (by decide), ce]
    rfl
  | succ p ih =>
    intro n s hn hp B hj
    obtain ⟨n, rfl⟩ : ∃ n', n = n' + 1 := ⟨n - 1, by omega⟩
    have ce : ((c : Int) + 1) = ((c + 1 : Nat) : Int) := rfl
    obtain ⟨o, eo, oc⟩ := hj.1 p (by omega) (by omega)
    have ho' : o < R * C := by omega
    have et : (s.1 (a + 2) p).toNat = o := by rw [eo]; omega
    obtain ⟨b1, b2, b3, b4⟩ := B
    obtain ⟨c27, c28⟩ := sp_27 b1 M h7 hg ho b2 b3 b4 ho'
    obtain ⟨r1, r2⟩ := tpv_r M h7 hg ho'
    obtain ⟨r3, r4⟩ := tpv_r M h7 hg hc
    have i1 : (((p + 1 : Nat) : Int) - 1).toNat = p := by omega
    have i2 : (((p + 1 : Nat) : Int)).toNat = p + 1 := by omega
    have i3 : (((p + 1 : Nat) : Int) + (-1)) = (p : Int) := by omega
    rw [gm_29_33, if_pos (by omega), if_neg (by omega), if_pos (by omega), i1, eo, c28, Option.bind_some]
    show ∃ u : gx_S, (if (-2147483648 ≤ unv f R C g o ∧ unv f R C g o ≤ 2147483647) then ((gm_27 a (s.1 (a + 2) p) s).bind fun q12 => if (-2147483648 ≤ q12.1 ∧ q12.1 ≤ 2147483647) then (if (-9223372036854775808 ≤ (tpv f R C g c * unv f R C g o) ∧ (tpv f R C g c * unv f R C g o) ≤ 9223372036854775807) then (if (-9223372036854775808 ≤ (q12.1 * unv f R C g c) ∧ (q12.1 * unv f R C g c) ≤ 9223372036854775807) then (if (tpv f R C g c * unv f R C g o) ≤ (q12.1 * unv f R C g c) then (gm_29_97 k a ((R * C : Nat) : Int) c ((p + 1 : Nat) : Int) q12.2) else (if 0 ≤ ((p + 1 : Nat) : Int) ∧ ((p + 1 : Nat) : Int) < 96 then (gm_29_33 k n a ((R * C : Nat) : Int) c (tpv f R C g c) (unv f R C g c) (((p + 1 : Nat) : Int) + (-1)) (gw1 q12.2 (a + 2) (((p + 1 : Nat) : Int)).toNat (q12.2.1 (a + 2) p))) else none)) else none) else none) else none) else none) = _ ∧ _
    rw [if_pos (by omega), eo, c27, Option.bind_some]
    have m1 := Int.mul_nonneg r3.1 r2.1
    have m2 := Int.mul_le_mul r3.2 r2.2 r2.1 (by omega)
    have m3 := Int.mul_nonneg r1.1 r4.1
    have m4 := Int.mul_le_mul r1.2 r4.2 r4.1 (by omega)
    show ∃ u : gx_S, (if (-2147483648 ≤ tpv f R C g o ∧ tpv f R C g o ≤ 2147483647) then (if (-9223372036854775808 ≤ (tpv f R C g c * unv f R C g o) ∧ (tpv f R C g c * unv f R C g o) ≤ 9223372036854775807) then (if (-9223372036854775808 ≤ (tpv f R C g o * unv f R C g c) ∧ (tpv f R C g o * unv f R C g c) ≤ 9223372036854775807) then (if (tpv f R C g c * unv f R C g o) ≤ (tpv f R C g o * unv f R C g c) then (gm_29_97 k a ((R * C : Nat) : Int) c ((p + 1 : Nat) : Int) s) else (if 0 ≤ ((p + 1 : Nat) : Int) ∧ ((p + 1 : Nat) : Int) < 96 then (gm_29_33 k n a ((R * C : Nat) : Int) c (tpv f R C g c) (unv f R C g c) (((p + 1 : Nat) : Int) + (-1)) (gw1 s (a + 2) (((p + 1 : Nat) : Int)).toNat (s.1 (a + 2) p))) else none)) else none) else none) else none) = _ ∧ _
    rw [if_pos (by omega), if_pos (by omega), if_pos (by omega)]
    by_cases z : (tpv f R C g c * unv f R C g o) ≤ (tpv f R C g o * unv f R C g c)
    · rw [if_pos z]
      have hl : AH f R C g o c := (AH_tot (show o ≠ c by omega)).resolve_right fun q => by
        unfold AH at q
        omega
      refine ⟨gw1 s (a + 2) (p + 1) c, ?_, OR_w a s (p + 1) c, HO_put hU hc hp hj (.inr (by rw [show p + 1 - 1 = p from rfl, et]; exact hl)) (by rw [gw1_1, if_pos ⟨rfl, rfl⟩]) fun j hn => by rw [gw1_1, if_neg (fun x => hn x.2)]⟩
      unfold gm_29_97
      rw [if_pos (by omega), i2, ce]
    · rw [if_neg z, if_pos (by omega), i2, i3]
      have ow := OR_w a s (p + 1) (s.1 (a + 2) p)
      obtain ⟨u, u1, u2, u3⟩ := ih n (gw1 s (a + 2) (p + 1) (s.1 (a + 2) p)) (by omega) (by omega) (SB_o h71 ow ⟨b1, b2, b3, b4⟩) (HO_move hp hj (by rw [et]; exact .inr (by omega)) (by rw [gw1_1, if_pos ⟨rfl, rfl⟩]) fun j hn => by rw [gw1_1, if_neg (fun x => hn x.2)])
      exact ⟨u, u1, OR_tr ow u2, u3⟩
theorem sl_29_10 {f : Nat → Int} {R C g a : Nat} (M : MP f R C) (h7 : f 2 = 7) (hg : g < 3) (h71 : 71 ≤ a) (ho : fx_oc a 2 = true) : ∀ (r c n : Nat) (s : gx_S), c + r = R * C → r < n → SB s f R C g a → OY f R C g (s.1 (a + 2)) c → ∃ u : gx_S, gm_29_10 n a ((R * C : Nat) : Int) c s = some u ∧ OR a s u ∧ OY f R C g (u.1 (a + 2)) (R * C) := by
  have hRC := RC_96 M.1.2.2.1 M.1.2.2.2
  intro r
  induction r with
  | zero =>
    intro c n s hk hn B hj
    obtain ⟨n, rfl⟩ : ∃ n', n = n' + 1 := ⟨n - 1, by omega⟩
    refine ⟨s, ?_, ⟨rfl, fun _ _ _ => rfl⟩, (show c = R * C by omega) ▸ hj⟩
    rw [gm_29_10, if_pos (by omega), if_pos (by omega), if_pos (by omega)]
  | succ r ih =>
    intro c n s hk hn B hj
    obtain ⟨n, rfl⟩ : ∃ n', n = n' + 1 := ⟨n - 1, by omega⟩
    have hc : c < R * C := by omega
    obtain ⟨b1, b2, b3, b4⟩ := id B
    obtain ⟨c27, c28⟩ := sp_27 b1 M h7 hg ho b2 b3 b4 hc
    obtain ⟨r3, r4⟩ := tpv_r M h7 hg hc
    rw [gm_29_10, if_pos (by omega), if_pos (by omega), if_neg (by omega), c27, Option.bind_some, if_pos (by omega)]
    show ∃ u : gx_S, ((gm_28 a c s).bind fun q8 => if (-2147483648 ≤ q8.1 ∧ q8.1 ≤ 2147483647) then (gm_29_33 (gm_29_10 n) 100000 a ((R * C : Nat) : Int) c (tpv f R C g c) q8.1 c q8.2) else none) = some u ∧ _
    rw [c28, Option.bind_some, if_pos (by omega)]
    obtain ⟨t, t1, t2, t3⟩ := sl_29_33 (gm_29_10 n) M h7 hg h71 ho hc c 100000 s (by omega) (Nat.le_refl c) B ⟨fun j h1 h2 => hj.1 j (by omega), fun i j h1 h2 h3 h4 => hj.2 i j h1 (by omega), fun j h1 h2 => absurd h1 (by omega)⟩
    show ∃ u : gx_S, gm_29_33 (gm_29_10 n) 100000 a ((R * C : Nat) : Int) c (tpv f R C g c) (unv f R C g c) c s = some u ∧ _
    rw [t1]
    obtain ⟨u, u1, u2, u3⟩ := ih (c + 1) n t (by omega) (by omega) (SB_o h71 t2 B) t3
    exact ⟨u, u1, OR_tr t2 u2, u3⟩
theorem rd_32 {s : gx_S} {f : Nat → Int} {R C g a D : Nat} (m : MR s 1 f R C) (M : MP f R C) (h7 : f 2 = 7) (hg : g < 3) (ha : ga a) (G : GGD s f R C g a D) (l1 : D / 1 % 2 = 1) (l2 : D / 2 % 2 = 1) : ∃ (D' : Nat) (u : gx_S), gm_19_201 a 32 s = some u ∧ KG a s u ∧ GGD u f R C g a D' ∧ D' / 32 % 2 = 1 ∧ D' / 1 % 2 = 1 ∧ D' / 2 % 2 = 1 := by
  obtain ⟨a71, a215, ho, t3, t12, t21, t30, t39⟩ := id ha
  obtain ⟨hD, e8, e9, g1, g2, g4, g8, g16, g32⟩ := G
  obtain ⟨D', t, q1, q2, q3, q4, q5, q6, q7⟩ := sp_21 (w := 32) ho hD (by decide) e8
  have q1 : gm_21 a 32 s = some (decide (¬ D / 32 % 2 = 1), t) := q1
  have n1 := q7 1 (by decide) (by decide)
  have n2 := q7 2 (by decide) (by decide)
  have n4 := q7 4 (by decide) (by decide)
  have n8 := q7 8 (by decide) (by decide)
  have n16 := q7 16 (by decide) (by decide)
  have to : ∀ k j, ¬ (k = a ∧ j = 8) → t.1 k j = s.1 k j := q3
  obtain ⟨li1, li2, li3⟩ := g1 l1
  have hRC := RC_96 M.1.2.2.1 M.1.2.2.2
  unfold gm_19_201
  rw [if_pos (by decide), if_neg (by decide), q1, Option.bind_some]
  by_cases z : D / 32 % 2 = 1
  · rw [decide_eq_false (fun h => h z), if_pos (show gb (false, t).1 = 0 from (by decide : gb false = 0))]
    refine ⟨D', t, rfl, ⟨q2, fun k j h1 h2 => to k j (by omega)⟩, ⟨q5, q4, (to a 9 (by omega)).trans e9, fun _ => ⟨fun z hz => (to _ _ (by omega)).trans (li1 z hz), (to _ _ (by omega)).trans li2, (to _ _ (by omega)).trans li3⟩, fun h => ?_, fun h => ?_, fun h => ?_, fun h => ?_, fun h => ?_⟩, q6, n1.trans l1, n2.trans l2⟩
    · exact ⟨n1.trans l1, TM_o (fun k j h1 h2 => to k j (by omega)) (g2 l2).2⟩
    · exact TR_o (fun k j h1 h2 => to k j (by omega)) (g4 (n4 ▸ h))
    · exact ⟨n1.trans l1, TR_o (fun k j h1 h2 => to k j (by omega)) (g8 (n8 ▸ h)).2⟩
    · exact TR_o (fun k j h1 h2 => to k j (by omega)) (g16 (n16 ▸ h))
    · obtain ⟨x1, x2⟩ := g32 z
      exact ⟨n2.trans x1, fun k hk => by rw [to _ _ (by omega)]; exact x2 k hk⟩
  · rw [decide_eq_true z, if_neg (show ¬ gb (true, t).1 = 0 from (by decide : ¬ gb true = 0))]
    have B : SB t f R C g a := ⟨MR_o (fun k j h1 h2 => to k j (by omega)) m, (to a 9 (by omega)).trans e9, fun z hz => (to _ _ (by omega)).trans (li1 z hz), TM_o (fun k j h1 h2 => to k j (by omega)) (g2 l2).2⟩
    obtain ⟨u, u1, u2, u3⟩ := sl_29_10 M h7 hg a71 ho (R * C) 0 100000 t (by omega) (by omega) B ⟨fun j h => absurd h (by omega), fun i j h1 h2 => absurd h2 (by omega)⟩
    have u1 : gm_29_10 100000 a ((R * C : Nat) : Int) 0 t = some u := u1
    have st : gm_29 a t = some u := by
      unfold gm_29
      rw [if_pos ho, sp_58 (MR_cz B.1 M), Option.bind_some, u1]
    have wo : ∀ k j, k ≠ a + 2 → ¬ (k = a ∧ j = 8) → u.1 k j = s.1 k j := fun k j h1 h2 => (u2.2 k j h1).trans (to k j h2)
    show ∃ (D' : Nat) (w : gx_S), ((gm_29 a t).bind fun q7 => gm_19_220 a q7) = some w ∧ _
    rw [st, Option.bind_some]
    refine ⟨D', u, rfl, ⟨u2.1.trans q2, fun k j h1 h2 => wo k j (by omega) (by omega)⟩, ⟨q5, (u2.2 _ _ (by omega)).trans q4, (wo a 9 (by omega) (by omega)).trans e9, fun _ => ⟨fun z hz => (wo _ _ (by omega) (by omega)).trans (li1 z hz), (wo _ _ (by omega) (by omega)).trans li2, (wo _ _ (by omega) (by omega)).trans li3⟩, fun h => ?_, fun h => ?_, fun h => ?_, fun h => ?_, fun h => ?_⟩, q6, n1.trans l1, n2.trans l2⟩
    · exact ⟨n1.trans l1, TM_o (fun k j h1 h2 => wo k j (by omega) (by omega)) (g2 l2).2⟩
    · exact TR_o (fun k j h1 h2 => wo k j (by omega) (by omega)) (g4 (n4 ▸ h))
    · exact ⟨n1.trans l1, TR_o (fun k j h1 h2 => wo k j (by omega) (by omega)) (g8 (n8 ▸ h)).2⟩
    · exact TR_o (fun k j h1 h2 => wo k j (by omega) (by omega)) (g16 (n16 ▸ h))
    · exact ⟨n2.trans l2, OY_QK u3⟩
/-- ready: what is asked for is there -/
theorem sp_19 {s : gx_S} {f : Nat → Int} {R C g a D w : Nat} (hw : w = 2 ∨ w = 4 ∨ w = 8 ∨ w = 16 ∨ w = 32) (m : MR s 1 f R C) (M : MP f R C) (h7 : f 2 = 7) (hg : g < 3) (ha : ga a) (G : GGD s f R C g a D) : ∃ (D' : Nat) (u : gx_S), gm_19 a w s = some u ∧ KG a s u ∧ GGD u f R C g a D' ∧ D' / w % 2 = 1 ∧ (w = 2 ∨ w = 4 ∨ w = 32 → D' / 2 % 2 = 1 ∧ D' / 1 % 2 = 1) := by
  obtain ⟨a71, a215, ho, _⟩ := id ha
  obtain ⟨D1, s1, p1, p2, p3, p4⟩ := sp_20 m M hg ha G
  have m1 := KG_MR ha p2 m
  unfold gm_19
  rw [if_pos ho, p1, Option.bind_some]
  rcases hw with e | e | e | e | e
  · obtain ⟨D2, s2, q1, q2, q3, q4, q5⟩ := rd_2 (what := 2) m1 M h7 hg ha p3 p4
    rw [e]
    refine ⟨D2, s2, ?_, KG_tr p2 q2, q3, q5, fun _ => ⟨q5, q4⟩⟩
    show (if (-2147483648 ≤ (2 : Int) ∧ (2 : Int) ≤ 2147483647) then (if (2 : Int) = 2 then gm_19_20 a 2 s1 else _) else none) = _
    rw [if_pos (by decide), if_pos rfl, q1]
    rfl
  · obtain ⟨D2, s2, q1, q2, q3, q4, q5⟩ := rd_2 (what := 4) m1 M h7 hg ha p3 p4
    obtain ⟨D3, s3, r1, r2, r3, r4, r5, r6⟩ := rd_4 (KG_MR ha q2 m1) M h7 hg ha q3 q4 q5
    rw [e]
    refine ⟨D3, s3, ?_, KG_tr (KG_tr p2 q2) r2, r3, r4, fun _ => ⟨r6, r5⟩⟩
    show (if (-2147483648 ≤ (4 : Int) ∧ (4 : Int) ≤ 2147483647) then (if (4 : Int) = 2 then _ else (if (4 : Int) = 4 then gm_19_20 a 4 s1 else _)) else none) = _
    rw [if_pos (by decide), if_neg (by decide), if_pos rfl, q1, r1]
    rfl
  · obtain ⟨D3, s3, r1, r2, r3, r4, r5⟩ := rd_8 (what := 8) (.inl rfl) m1 M h7 hg ha p3 p4
    rw [e]
    refine ⟨D3, s3, ?_, KG_tr p2 r2, r3, r4, fun h => absurd h (by omega)⟩
    show (if (-2147483648 ≤ (8 : Int) ∧ (8 : Int) ≤ 2147483647) then (if (8 : Int) = 2 then _ else (if (8 : Int) = 4 then _ else (if ¬ (8 : Int) = 32 then gm_19_59 a 8 s1 else _))) else none) = _
    rw [if_pos (by decide), if_neg (by decide), if_neg (by decide), if_pos (by decide)]
    show gm_19_103 a 8 s1 = _
    rw [r1]
    rfl
  · obtain ⟨D3, s3, r1, r2, r3, r4, r5⟩ := rd_8 (what := 16) (.inr rfl) m1 M h7 hg ha p3 p4
    obtain ⟨D4, s4, t1, t2, t3, t4, t5⟩ := rd_16 (KG_MR ha r2 m1) M h7 hg ha r3 r5 r4
    rw [e]
    refine ⟨D4, s4, ?_, KG_tr (KG_tr p2 r2) t2, t3, t4, fun h => absurd h (by omega)⟩
    show (if (-2147483648 ≤ (16 : Int) ∧ (16 : Int) ≤ 2147483647) then (if (16 : Int) = 2 then _ else (if (16 : Int) = 4 then _ else (if ¬ (16 : Int) = 32 then gm_19_59 a 16 s1 else _))) else none) = _
    rw [if_pos (by decide), if_neg (by decide), if_neg (by decide), if_pos (by decide)]
    show gm_19_103 a 16 s1 = _
    rw [r1, t1]
    rfl
  · obtain ⟨D2, s2, q1, q2, q3, q4, q5⟩ := rd_2 (what := 32) m1 M h7 hg ha p3 p4
    obtain ⟨D3, s3, r1, r2, r3, r4, r5, r6⟩ := rd_32 (KG_MR ha q2 m1) M h7 hg ha q3 q4 q5
    rw [e]
    refine ⟨D3, s3, ?_, KG_tr (KG_tr p2 q2) r2, r3, r4, fun _ => ⟨r6, r5⟩⟩
    show (if (-2147483648 ≤ (32 : Int) ∧ (32 : Int) ≤ 2147483647) then (if (32 : Int) = 2 then _ else (if (32 : Int) = 4 then _ else (if ¬ (32 : Int) = 32 then _ else gm_19_20 a 32 s1))) else none) = _
    rw [if_pos (by decide), if_neg (by decide), if_neg (by decide), if_neg (by decide), q1]
    show gm_19_201 a 32 s2 = _
    exact r1
end
section
/-! THE CLASS: states copied, history, tables forgotten -/
theorem gcp_1 (s : gx_S) (a sp b dp n k j : Nat) : (gcp s a sp b dp n).1 k j = if k = b ∧ dp ≤ j ∧ j < dp + n then s.1 a (sp + (j - dp)) else s.1 k j := rfl
/-- x0 becomes a copy of x1; the rest stays -/
theorem sp_54 {s : gx_S} {x0 x1 : Nat} (h0 : fx_oc x0 6 = true) (h1 : fx_oc x1 6 = true) (hd : x0 + 5 ≤ x1 ∨ x1 + 5 ≤ x0) : ∃ u : gx_S, gm_54 x0 x1 s = some u ∧ u.2 = s.2 ∧ (∀ k j, ¬ (x0 ≤ k ∧ k < x0 + 5) → u.1 k j = s.1 k j) ∧ (∀ j, 4 ≤ j → j ≤ 8 → u.1 x0 j = s.1 x1 j) ∧ (∀ j, j < 288 → u.1 (x0 + 1) j = s.1 (x1 + 1) j) ∧ (∀ j, j < 27 → u.1 (x0 + 2) j = s.1 (x1 + 2) j) ∧ (∀ j, j < 12 → u.1 (x0 + 3) j = s.1 (x1 + 3) j) ∧ ∀ j, j < 8 → u.1 (x0 + 4) j = s.1 (x1 + 4) j := by
  obtain ⟨b, hb⟩ : ∃ b, b = gcp (gcp (gcp (gcp s (x1 + 1) 0 (x0 + 1) 0 288) (x1 + 2) 0 (x0 + 2) 0 27) (x1 + 3) 0 (x0 + 3) 0 12) (x1 + 4) 0 (x0 + 4) 0 8 := ⟨_, rfl⟩
  obtain ⟨c, hc⟩ : ∃ c, c = gw1 b x0 4 (b.1 x1 4) := ⟨_, rfl⟩
  obtain ⟨d, hd'⟩ : ∃ d, d = gw1 c x0 5 (c.1 x1 5) := ⟨_, rfl⟩
  obtain ⟨e, he⟩ : ∃ e, e = gw1 d x0 6 (d.1 x1 6) := ⟨_, rfl⟩
  obtain ⟨g, hg⟩ : ∃ g, g = gw1 e x0 7 (e.1 x1 7) := ⟨_, rfl⟩
  obtain ⟨h, hh⟩ : ∃ h, h = gw1 g x0 8 (g.1 x1 8) := ⟨_, rfl⟩
  have st : gm_54 x0 x1 s = some h := by
    unfold gm_54
    rw [if_pos ⟨h0, h1⟩, ← hb, ← hc, ← hd', ← he, ← hg, ← hh]
  have h2 : h.2 = s.2 := by rw [hh, hg, he, hd', hc, hb]; rfl
  have bo : ∀ k j, ¬ (x0 < k ∧ k < x0 + 5) → b.1 k j = s.1 k j := fun k j q => by
    rw [hb, gcp_1, if_neg (by omega), gcp_1, if_neg (by omega), gcp_1, if_neg (by omega), gcp_1, if_neg (by omega)]
  have ho : ∀ k j, k ≠ x0 → h.1 k j = b.1 k j := fun k j q => by
    rw [hh, gw1_1, if_neg (fun x => q x.1), hg, gw1_1, if_neg (fun x => q x.1), he, gw1_1, if_neg (fun x => q x.1), hd', gw1_1, if_neg (fun x => q x.1), hc, gw1_1, if_neg (fun x => q x.1)]
  have x1c : ∀ j, c.1 x1 j = s.1 x1 j ∧ d.1 x1 j = s.1 x1 j ∧ e.1 x1 j = s.1 x1 j ∧ g.1 x1 j = s.1 x1 j ∧ b.1 x1 j = s.1 x1 j := fun j => by
    have b0 := bo x1 j (by omega)
    have c0 : c.1 x1 j = s.1 x1 j := by rw [hc, gw1_1, if_neg (by omega), b0]
    have d0 : d.1 x1 j = s.1 x1 j := by rw [hd', gw1_1, if_neg (by omega), c0]
    have e0 : e.1 x1 j = s.1 x1 j := by rw [he, gw1_1, if_neg (by omega), d0]
    have g0 : g.1 x1 j = s.1 x1 j := by rw [hg, gw1_1, if_neg (by omega), e0]
    exact ⟨c0, d0, e0, g0, b0⟩
  refine ⟨h, st, h2, fun k j q => by rw [ho k j (by omega), bo k j (by omega)], fun j q1 q2 => ?_, fun j q => ?_, fun j q => ?_, fun j q => ?_, fun j q => ?_⟩
  · rcases (show j = 4 ∨ j = 5 ∨ j = 6 ∨ j = 7 ∨ j = 8 by omega) with z | z | z | z | z
    · rw [z, hh, gw1_1, if_neg (by omega), hg, gw1_1, if_neg (by omega), he, gw1_1, if_neg (by omega), hd', gw1_1, if_neg (by omega), hc, gw1_1, if_pos ⟨rfl, rfl⟩, (x1c 4).2.2.2.2]
    · rw [z, hh, gw1_1, if_neg (by omega), hg, gw1_1, if_neg (by omega), he, gw1_1, if_neg (by omega), hd', gw1_1, if_pos ⟨rfl, rfl⟩, (x1c 5).1]
    · rw [z, hh, gw1_1, if_neg (by omega), hg, gw1_1, if_neg (by omega), he, gw1_1, if_pos ⟨rfl, rfl⟩, (x1c 6).2.1]
    · rw [z, hh, gw1_1, if_neg (by omega), hg, gw1_1, if_pos ⟨rfl, rfl⟩, (x1c 7).2.2.1]
    · rw [z, hh, gw1_1, if_pos ⟨rfl, rfl⟩, (x1c 8).2.2.2.1]
  · rw [ho _ _ (by omega), hb, gcp_1, if_neg (by omega), gcp_1, if_neg (by omega), gcp_1, if_neg (by omega), gcp_1, if_pos (by omega)]
    rw [show 0 + (j - 0) = j by omega]
  · rw [ho _ _ (by omega), hb, gcp_1, if_neg (by omega), gcp_1, if_neg (by omega), gcp_1, if_pos (by omega), gcp_1, if_neg (by omega)]
    rw [show 0 + (j - 0) = j by omega]
  · rw [ho _ _ (by omega), hb, gcp_1, if_neg (by omega), gcp_1, if_pos (by omega), gcp_1, if_neg (by omega), gcp_1, if_neg (by omega)]
    rw [show 0 + (j - 0) = j by omega]
  · rw [ho _ _ (by omega), hb, gcp_1, if_pos (by omega), gcp_1, if_neg (by omega), gcp_1, if_neg (by omega), gcp_1, if_neg (by omega)]
    rw [show 0 + (j - 0) = j by omega]
theorem kC {R C k l : Nat} (hR : R ≤ 8) (hC : C ≤ 12) (hk : k < R * C) (hl : l < 3) : 52 + 96 * l + 12 * (k / C) + k % C < 340 ∧ 96 * l + k < 288 := by
  have h0 : 0 < C := Nat.pos_of_ne_zero fun h => by rw [h, Nat.mul_zero] at hk; omega
  have a : k / C < R := (Nat.div_lt_iff_lt_mul h0).mpr hk
  have b := Nat.mod_lt k h0
  have := RC_96 hR hC
  omega
theorem MP_c {f f' : Nat → Int} {R C : Nat} (h : ∀ i, i < 340 → f' i = f i) (M : MP f R C) : MP f' R C := by
  obtain ⟨m1, m2, m3, m4, m5, m6, m7, m8, m10⟩ := M
  refine ⟨by rw [h 0 (by omega), h 1 (by omega)]; exact m1, by rw [h 2 (by omega)]; exact m2, by rw [h 3 (by omega)]; exact m3, by rw [h 4 (by omega)]; exact m4, fun g hg => ⟨fun z hz => by rw [h _ (by omega)]; exact (m5 g hg).1 z hz, ?_⟩, fun i hi => by rw [h _ (by omega)]; exact m6 i hi, fun z hz => by rw [h _ (by omega)]; exact m7 z hz, fun l hl b k hk => ?_, by rw [h 2 (by omega)]; exact m10⟩
  · rw [sg_eq (g := fun z => f (5 + 9 * g + z)) fun z hz => h _ (by omega)]
    exact (m5 g hg).2
  · rw [h _ (kC m1.2.2.1 m1.2.2.2 hk hl).1]
    rw [h 2 (by omega)] at b
    exact m8 l hl b k hk
theorem MR_c {s : gx_S} {a : Nat} {f f' : Nat → Int} {R C : Nat} (hR : R ≤ 8) (hC : C ≤ 12) (h : ∀ i, i < 340 → f' i = f i) (m : MR s a f R C) : MR s a f' R C := by
  obtain ⟨m1, m2, m3, m4, m5, m6, m7, m8, m9⟩ := m
  refine ⟨by rw [h 0 (by omega)]; exact m1, by rw [h 1 (by omega)]; exact m2, by rw [h 2 (by omega)]; exact m3, by rw [h 3 (by omega)]; exact m4, by rw [h 4 (by omega)]; exact m5, fun i hi => by rw [h _ (by omega)]; exact m6 i hi, fun i hi => by rw [h _ (by omega)]; exact m7 i hi, fun i hi => by rw [h _ (by omega)]; exact m8 i hi, fun l hl b k hk => ?_⟩
  rw [h _ (kC hR hC hk hl).1]
  rw [h 2 (by omega)] at b
  exact m9 l hl b k hk
theorem MR_54 {s u : gx_S} {x0 x1 : Nat} {f : Nat → Int} {R C : Nat} (hR : R ≤ 8) (hC : C ≤ 12) (c1 : ∀ j, 4 ≤ j → j ≤ 8 → u.1 x0 j = s.1 x1 j) (c2 : ∀ j, j < 288 → u.1 (x0 + 1) j = s.1 (x1 + 1) j) (c3 : ∀ j, j < 27 → u.1 (x0 + 2) j = s.1 (x1 + 2) j) (c4 : ∀ j, j < 12 → u.1 (x0 + 3) j = s.1 (x1 + 3) j) (c5 : ∀ j, j < 8 → u.1 (x0 + 4) j = s.1 (x1 + 4) j) (m : MR s x1 f R C) : MR u x0 f R C := by
  obtain ⟨m1, m2, m3, m4, m5, m6, m7, m8, m9⟩ := m
  exact ⟨by rw [c1 4 (by omega) (by omega)]; exact m1, by rw [c1 5 (by omega) (by omega)]; exact m2, by rw [c1 6 (by omega) (by omega)]; exact m3, by rw [c1 7 (by omega) (by omega)]; exact m4, by rw [c1 8 (by omega) (by omega)]; exact m5, fun i hi => by rw [c3 i hi]; exact m6 i hi, fun i hi => by rw [c4 i hi]; exact m7 i hi, fun i hi => by rw [c5 i hi]; exact m8 i hi, fun l hl b k hk => by rw [c2 _ (kC hR hC hk hl).2]; exact m9 l hl b k hk⟩
/-- what is kept of the past: pf k is the k-th of n maps -/
def HC (s : gx_S) (n : Nat) (pf : Nat → Nat → Int) : Prop := n ≤ 8 ∧ ∃ p : Nat, p < 8 ∧ s.1 16 1 = p ∧ s.1 16 2 = n ∧ ∀ k, k < n → ∃ R C : Nat, MP (pf k) R C ∧ MR s (18 + 5 * ((p + 8 - n + k) % 8)) (pf k) R C
/-- the past with one map more -/
def pn (n : Nat) (pf : Nat → Nat → Int) (f : Nat → Int) (k : Nat) : Nat → Int := if n < 8 then (if k = n then f else pf k) else (if k = 7 then f else pf (k + 1))
def nn (n : Nat) : Nat := if n < 8 then n + 1 else 8
theorem rf17 : ∀ p : Nat, p < 8 → fx_rf 17 p = 18 + 5 * p ∧ fx_oc (18 + 5 * p) 6 = true := by decide +kernel
theorem sp_31 {s : gx_S} {f : Nat → Int} {R C n : Nat} {pf : Nat → Nat → Int} (m : MR s 1 f R C) (M : MP f R C) (H : HC s n pf) : ∃ u : gx_S, gm_31 1 s = some u ∧ u.2 = s.2 ∧ (∀ k j, ¬ (16 ≤ k ∧ k ≤ 57) → u.1 k j = s.1 k j) ∧ HC u (nn n) (pn n pf f) := by
  obtain ⟨hn, p, hp, e1, e2, hk⟩ := H
  obtain ⟨r1, r2⟩ := rf17 p hp
  obtain ⟨b, b1, b2, b3, b4, b5, b6, b7, b8⟩ := sp_54 (s := s) (x0 := 18 + 5 * p) (x1 := 1) r2 (by decide +kernel) (by omega)
  have mb : MR b (18 + 5 * p) f R C := MR_54 M.1.2.2.1 M.1.2.2.2 b4 b5 b6 b7 b8 m
  have be1 : b.1 16 1 = p := (b3 16 1 (by omega)).trans e1
  have be2 : b.1 16 2 = n := (b3 16 2 (by omega)).trans e2
  obtain ⟨c, hc⟩ : ∃ c, c = gw1 b 16 1 (((p : Int) + 1) % 8) := ⟨_, rfl⟩
  have c2 : c.1 16 2 = n := by rw [hc, gw1_1, if_neg (by omega), be2]
  obtain ⟨d, hd⟩ : ∃ d, d = gw1 c 16 2 (if (n : Int) + 1 < 8 then (n : Int) + 1 else 8) := ⟨_, rfl⟩
  have st : gm_31 1 s = some d := by
    unfold gm_31
    rw [if_pos (by decide +kernel), if_pos (by omega), e1, show ((p : Int)).toNat = p by omega, r1, Option.bind_some, b1, Option.bind_some, be1, if_pos (by omega), ← hc, c2, if_pos (by omega), ← hd]
  have d1 : d.1 16 1 = (((p + 1) % 8 : Nat) : Int) := by rw [hd, gw1_1, if_neg (by omega), hc, gw1_1, if_pos ⟨rfl, rfl⟩]; omega
  have d2 : d.1 16 2 = ((nn n : Nat) : Int) := by
    rw [hd, gw1_1, if_pos ⟨rfl, rfl⟩]
    unfold nn
    by_cases z : n < 8
    · rw [if_pos z]
      split <;> omega
    · rw [if_neg z, if_neg (by omega)]
      rfl
  have dk : ∀ k j, k ≠ 16 → d.1 k j = b.1 k j := fun k j q => by rw [hd, gw1_1, if_neg (fun x => q x.1), hc, gw1_1, if_neg (fun x => q x.1)]
  refine ⟨d, st, by rw [hd, hc]; exact b2, fun k j q => by rw [dk k j (by omega), b3 k j (by omega)], ?_, (p + 1) % 8, by omega, d1, d2, fun k hk' => ?_⟩
  · unfold nn
    split <;> omega
  · have keep : ∀ q : Nat, q < 8 → q ≠ p → ∀ (g : Nat → Int) (R C : Nat), MR s (18 + 5 * q) g R C → MR d (18 + 5 * q) g R C := fun q hq hqp g R C mm => MR_o (fun k j h1 h2 => by rw [dk k j (by omega), b3 k j (by omega)]) mm
    have new : MR d (18 + 5 * p) f R C := MR_o (fun k j h1 h2 => dk k j (by omega)) mb
    unfold nn at hk' ⊢
    unfold pn
    by_cases z : n < 8
    · rw [if_pos z] at hk' ⊢
      rw [if_pos z]
      by_cases q : k = n
      · rw [if_pos q, show ((p + 1) % 8 + 8 - (n + 1) + k) % 8 = p by omega]
        exact ⟨R, C, M, new⟩
      · rw [if_neg q, show ((p + 1) % 8 + 8 - (n + 1) + k) % 8 = (p + 8 - n + k) % 8 by omega]
        obtain ⟨R', C', x1, x2⟩ := hk k (by omega)
        exact ⟨R', C', x1, keep _ (by omega) (by omega) _ _ _ x2⟩
    · rw [if_neg z] at hk' ⊢
      rw [if_neg z]
      by_cases q : k = 7
      · rw [if_pos q, show ((p + 1) % 8 + 8 - 8 + k) % 8 = p by omega]
        exact ⟨R, C, M, new⟩
      · rw [if_neg q, show ((p + 1) % 8 + 8 - 8 + k) % 8 = (p + 8 - n + (k + 1)) % 8 by omega]
        obtain ⟨R', C', x1, x2⟩ := hk (k + 1) (by omega)
        exact ⟨R', C', x1, keep _ (by omega) (by omega) _ _ _ x2⟩
theorem sp_32 {s : gx_S} {n : Nat} {pf : Nat → Nat → Int} (hn0 : 0 < n) (H : HC s n pf) : ∃ (u : gx_S) (R C : Nat), gm_32 1 s = some u ∧ u.2 = s.2 ∧ (∀ k j, ¬ (1 ≤ k ∧ k ≤ 5) → k ≠ 16 → u.1 k j = s.1 k j) ∧ HC u (n - 1) pf ∧ MP (pf (n - 1)) R C ∧ MR u 1 (pf (n - 1)) R C := by
  obtain ⟨hn, p, hp, e1, e2, hk⟩ := H
  obtain ⟨r1, r2⟩ := rf17 ((p + 7) % 8) (by omega)
  obtain ⟨R, C, x1, x2⟩ := hk (n - 1) (by omega)
  rw [show (p + 8 - n + (n - 1)) % 8 = (p + 7) % 8 by omega] at x2
  obtain ⟨a, ha⟩ : ∃ a, a = gw1 s 16 1 (((p + 7) % 8 : Nat) : Int) := ⟨_, rfl⟩
  have ak : ∀ k j, k ≠ 16 → a.1 k j = s.1 k j := fun k j q => by rw [ha, gw1_1, if_neg (fun x => q x.1)]
  have a1 : a.1 16 1 = (((p + 7) % 8 : Nat) : Int) := by rw [ha, gw1_1, if_pos ⟨rfl, rfl⟩]
  have a2 : a.1 16 2 = n := by rw [ha, gw1_1, if_neg (by omega), e2]
  obtain ⟨b, b1, b2, b3, b4, b5, b6, b7, b8⟩ := sp_54 (s := a) (x0 := 1) (x1 := 18 + 5 * ((p + 7) % 8)) (by decide +kernel) r2 (by omega)
  have ma : MR a (18 + 5 * ((p + 7) % 8)) (pf (n - 1)) R C := MR_o (fun k j h1 h2 => ak k j (by omega)) x2
  have mb : MR b 1 (pf (n - 1)) R C := MR_54 x1.1.2.2.1 x1.1.2.2.2 b4 b5 b6 b7 b8 ma
  have e3 : (((p : Int) + 8) - 1) % 8 = (((p + 7) % 8 : Nat) : Int) := by omega
  have st : gm_32 1 s = some (gw1 b 16 2 ((n : Int) - 1)) := by
    unfold gm_32
    rw [if_pos (by decide +kernel), e1, if_pos (by omega), e3, ← ha, a1, if_pos (by omega), show ((((p + 7) % 8 : Nat) : Int)).toNat = (p + 7) % 8 by omega, r1, Option.bind_some, b1, Option.bind_some, b3 16 2 (by omega), a2]
  have ck : ∀ k j, ¬ (k = 16 ∧ j = 2) → (gw1 b 16 2 ((n : Int) - 1)).1 k j = b.1 k j := fun k j q => by rw [gw1_1, if_neg q]
  refine ⟨_, R, C, st, by rw [gw1_2, b2, ha]; rfl, fun k j q1 q2 => by rw [ck k j (by omega), b3 k j (by omega), ak k j q2], ⟨by omega, (p + 7) % 8, by omega, ?_, ?_, fun k hk' => ?_⟩, x1, MR_o (fun k j h1 h2 => ck k j (by omega)) mb⟩
  · rw [ck 16 1 (by omega), b3 16 1 (by omega), a1]
  · rw [gw1_1, if_pos ⟨rfl, rfl⟩]
    omega
  · obtain ⟨R', C', y1, y2⟩ := hk k (by omega)
    rw [show ((p + 7) % 8 + 8 - (n - 1) + k) % 8 = (p + 8 - n + k) % 8 by omega]
    exact ⟨R', C', y1, MR_o (fun k j h1 h2 => by rw [ck k j (by omega), b3 k j (by omega), ak k j (by omega)]) y2⟩
theorem rf70 : ∀ g : Nat, g < 3 → fx_rf 70 g = 71 + 48 * g := by decide +kernel
/-- nothing is made -/
def G0 (s : gx_S) : Prop := ∀ g, g < 3 → s.1 (71 + 48 * g) 8 = 0 ∧ s.1 (71 + 48 * g) 9 = g
theorem sp_120 (s : gx_S) : ∃ u : gx_S, gm_120 s = some u ∧ u.2 = s.2 ∧ (∀ k j, ¬ ((k = 71 ∨ k = 119 ∨ k = 167) ∧ j = 8) → u.1 k j = s.1 k j) ∧ u.1 71 8 = 0 ∧ u.1 119 8 = 0 ∧ u.1 167 8 = 0 := by
  refine ⟨gw1 (gw1 (gw1 s 71 8 0) 119 8 0) 167 8 0, ?_, rfl, fun k j q => by rw [gw1_1, if_neg (by omega), gw1_1, if_neg (by omega), gw1_1, if_neg (by omega)], ?_, ?_, ?_⟩
  · have r0 := rf70 0 (by omega)
    have r1 := rf70 1 (by omega)
    have r2 := rf70 2 (by omega)
    unfold gm_120
    rw [gm_120_2, if_pos (by decide), if_neg (by decide), if_pos (by decide)]
    show ((some (fx_rf 70 0)).bind _) = _
    rw [r0, Option.bind_some, gm_120_2, if_pos (by decide), if_neg (by decide), if_pos (by decide)]
    show ((some (fx_rf 70 1)).bind _) = _
    rw [r1, Option.bind_some, gm_120_2, if_pos (by decide), if_neg (by decide), if_pos (by decide)]
    show ((some (fx_rf 70 2)).bind _) = _
    rw [r2, Option.bind_some, gm_120_2, if_pos (by decide), if_pos (by decide)]
  · rw [gw1_1, if_neg (by omega), gw1_1, if_neg (by omega), gw1_1, if_pos ⟨rfl, rfl⟩]
  · rw [gw1_1, if_neg (by omega), gw1_1, if_pos ⟨rfl, rfl⟩]
  · rw [gw1_1, if_pos ⟨rfl, rfl⟩]
end
section
/-! BOTH SIDES beside one map, one past, one tape -/
def HRf (s : gx_S) (n : Nat) (pf : Nat → Nat → Int) : Prop := s.1 215 2 = n ∧ ∀ k, k < n → ∀ i, i < 340 → s.1 217 (340 * k + i) = pf k i
theorem sl_132_54 {n : Nat} (hn : n < 8) : ∀ (m j : Nat) (s : gx_S), 340 < m + j → j ≤ 340 → s.1 215 2 = n → ∃ u : gx_S, gm_132_54 m j s = some u ∧ u.2 = s.2 ∧ (∀ k i, k ≠ 217 → ¬ (k = 215 ∧ i = 2) → u.1 k i = s.1 k i) ∧ u.1 215 2 = ((n + 1 : Nat) : Int) ∧ ∀ i, u.1 217 i = if 340 * n + j ≤ i ∧ i < 340 * n + 340 then s.1 216 (i - 340 * n) else s.1 217 i := by
  intro m
  induction m with
  | zero => intro j s h; omega
  | succ m ih =>
    intro j s h hj e
    rw [gm_132_54, if_pos (by omega)]
    by_cases q : j = 340
    · rw [if_pos (by omega), e]
      refine ⟨gw1 s 215 2 ((n : Int) + 1), rfl, rfl, fun k i h1 h2 => by rw [gw1_1, if_neg h2], by rw [gw1_1, if_pos ⟨rfl, rfl⟩]; rfl, fun i => ?_⟩
      rw [if_neg (by omega), gw1_1, if_neg (by omega)]
    · have ce : ((j : Int) + 1) = ((j + 1 : Nat) : Int) := rfl
      have i5 : ((j : Int)).toNat = j := by omega
      have i6 : ((340 * (n : Int)) + (j : Int)).toNat = 340 * n + j := by omega
      rw [if_neg (by omega), if_pos (by omega), e, if_pos (by omega), i5, i6, ce]
      obtain ⟨u, u1, u2, u3, u4, u5⟩ := ih (j + 1) (gw1 s 217 (340 * n + j) (s.1 216 j)) (by omega) (by omega) (by rw [gw1_1, if_neg (by omega)]; exact e)
      refine ⟨u, u1, u2, fun k i h1 h2 => by rw [u3 k i h1 h2, gw1_1, if_neg (fun x => h1 x.1)], u4, fun i => ?_⟩
      rw [u5]
      by_cases z : i = 340 * n + j
      · rw [if_neg (show ¬ (340 * n + (j + 1) ≤ i ∧ i < 340 * n + 340) by omega), gw1_1, if_pos ⟨rfl, z⟩, if_pos (show 340 * n + j ≤ i ∧ i < 340 * n + 340 by omega), z, show 340 * n + j - 340 * n = j by omega]
      · by_cases z2 : 340 * n + (j + 1) ≤ i ∧ i < 340 * n + 340
        · rw [if_pos z2, if_pos (show 340 * n + j ≤ i ∧ i < 340 * n + 340 by omega), gw1_1, if_neg (by omega)]
        · rw [if_neg z2, if_neg (show ¬ (340 * n + j ≤ i ∧ i < 340 * n + 340) by omega), gw1_1, if_neg (fun x => z x.2)]
theorem sl_132_13 : ∀ (m j : Nat) (s : gx_S), 2720 < m + j → 340 ≤ j → j ≤ 2720 → ∃ u : gx_S, gm_132_13 m j s = gm_132_52 (gw1 u 215 2 (u.1 215 2 - 1)) ∧ u.2 = s.2 ∧ (∀ k i, k ≠ 217 → u.1 k i = s.1 k i) ∧ ∀ i, u.1 217 i = if j ≤ i + 340 ∧ i < 2380 then s.1 217 (i + 340) else s.1 217 i := by
  intro m
  induction m with
  | zero => intro j s h; omega
  | succ m ih =>
    intro j s h h3 hj
    rw [gm_132_13, if_pos (by omega)]
    by_cases q : j = 2720
    · rw [if_pos (by omega)]
      exact ⟨s, rfl, rfl, fun _ _ _ => rfl, fun i => by rw [if_neg (by omega)]⟩
    · have ce : ((j : Int) + 1) = ((j + 1 : Nat) : Int) := rfl
      have i5 : ((j : Int)).toNat = j := by omega
      have i6 : ((j : Int) - 340).toNat = j - 340 := by omega
      rw [if_neg (by omega), if_pos (by omega), if_pos (by omega), i5, i6, ce]
      obtain ⟨u, u1, u2, u3, u4⟩ := ih (j + 1) (gw1 s 217 (j - 340) (s.1 217 j)) (by omega) (by omega) (by omega)
      refine ⟨u, u1, u2, fun k i h1 => by rw [u3 k i h1, gw1_1, if_neg (fun x => h1 x.1)], fun i => ?_⟩
      rw [u4]
      by_cases z : i + 340 = j
      · rw [if_neg (show ¬ (j + 1 ≤ i + 340 ∧ i < 2380) by omega), gw1_1, if_pos ⟨rfl, by omega⟩, if_pos (show j ≤ i + 340 ∧ i < 2380 by omega), z]
      · by_cases z2 : j + 1 ≤ i + 340 ∧ i < 2380
        · rw [if_pos z2, if_pos (show j ≤ i + 340 ∧ i < 2380 by omega), gw1_1, if_neg (by omega)]
        · rw [if_neg z2, if_neg (show ¬ (j ≤ i + 340 ∧ i < 2380) by omega), gw1_1, if_neg (by omega)]
theorem sp_132 {s : gx_S} {n : Nat} {pf : Nat → Nat → Int} (hn : n ≤ 8) (H : HRf s n pf) : ∃ u : gx_S, gm_132 s = some u ∧ u.2 = s.2 ∧ (∀ k i, k ≠ 217 → ¬ (k = 215 ∧ i = 2) → u.1 k i = s.1 k i) ∧ HRf u (nn n) (pn n pf (s.1 216)) := by
  obtain ⟨e, hk⟩ := H
  unfold gm_132
  rw [e, if_pos (by omega)]
  by_cases z : n < 8
  · rw [if_pos (by omega)]
    obtain ⟨u, u1, u2, u3, u4, u5⟩ := sl_132_54 z 100000 0 s (by omega) (by omega) e
    have u1 : gm_132_54 100000 0 s = some u := u1
    unfold gm_132_52 nn
    rw [if_pos z]
    refine ⟨u, u1, u2, u3, u4, fun k hk' i hi => ?_⟩
    unfold pn
    rw [if_pos z, u5]
    by_cases q : k = n
    · rw [if_pos (by omega), if_pos q, q, show 340 * n + i - 340 * n = i by omega]
    · rw [if_neg (by omega), if_neg q]
      exact hk k (by omega) i hi
  · rw [if_neg (by omega)]
    have e8 : n = 8 := by omega
    obtain ⟨a, a1, a2, a3, a4⟩ := sl_132_13 100000 340 s (by omega) (by omega) (by omega)
    have a1 : gm_132_13 100000 340 s = _ := a1
    have ae : a.1 215 2 = 8 := by rw [a3 215 2 (by decide), e, e8]; rfl
    obtain ⟨b, hb⟩ : ∃ b, b = gw1 a 215 2 (a.1 215 2 - 1) := ⟨_, rfl⟩
    have b7 : b.1 215 2 = ((7 : Nat) : Int) := by rw [hb, gw1_1, if_pos ⟨rfl, rfl⟩, ae]; rfl
    have bk : ∀ k i, ¬ (k = 215 ∧ i = 2) → b.1 k i = a.1 k i := fun k i q => by rw [hb, gw1_1, if_neg q]
    obtain ⟨u, u1, u2, u3, u4, u5⟩ := sl_132_54 (n := 7) (by omega) 100000 0 b (by omega) (by omega) b7
    have u1 : gm_132_54 100000 0 b = some u := u1
    rw [a1, ← hb]
    unfold gm_132_52 nn
    rw [if_neg z]
    refine ⟨u, u1, by rw [u2, hb]; exact a2, fun k i h1 h2 => by rw [u3 k i h1 h2, bk k i h2, a3 k i h1], u4, fun k hk' i hi => ?_⟩
    unfold pn
    rw [if_neg z, u5]
    by_cases q : k = 7
    · rw [if_pos (by omega), if_pos q, bk 216 _ (by omega), a3 216 _ (by decide), show 340 * k + i - 340 * 7 = i by omega]
    · rw [if_neg (by omega), if_neg q, bk 217 _ (by omega), a4, if_pos (by omega)]
      rw [← hk (k + 1) (by omega) i hi, show 340 * k + i + 340 = 340 * (k + 1) + i by omega]
theorem sl_133_21 {n : Nat} (hn : n < 8) : ∀ (m j : Nat) (s : gx_S), 340 < m + j → j ≤ 340 → s.1 215 2 = n → ∃ u : gx_S, gm_133_21 m j s = some ((n : Int), u) ∧ u.2 = s.2 ∧ (∀ k i, k ≠ 216 → u.1 k i = s.1 k i) ∧ ∀ i, u.1 216 i = if j ≤ i ∧ i < 340 then s.1 217 (340 * n + i) else s.1 216 i := by
  intro m
  induction m with
  | zero => intro j s h; omega
  | succ m ih =>
    intro j s h hj e
    rw [gm_133_21, if_pos (by omega)]
    by_cases q : j = 340
    · rw [if_pos (by omega), e]
      exact ⟨s, rfl, rfl, fun _ _ _ => rfl, fun i => by rw [if_neg (by omega)]⟩
    · have ce : ((j : Int) + 1) = ((j + 1 : Nat) : Int) := rfl
      have i5 : ((j : Int)).toNat = j := by omega
      have i6 : ((340 * (n : Int)) + (j : Int)).toNat = 340 * n + j := by omega
      rw [if_neg (by omega), e, if_pos (by omega), if_pos (by omega), i5, i6, ce]
      obtain ⟨u, u1, u2, u3, u4⟩ := ih (j + 1) (gw1 s 216 j (s.1 217 (340 * n + j))) (by omega) (by omega) (by rw [gw1_1, if_neg (by omega)]; exact e)
      refine ⟨u, u1, u2, fun k i h1 => by rw [u3 k i h1, gw1_1, if_neg (fun x => h1 x.1)], fun i => ?_⟩
      rw [u4]
      by_cases z : i = j
      · rw [if_neg (show ¬ (j + 1 ≤ i ∧ i < 340) by omega), gw1_1, if_pos ⟨rfl, z⟩, if_pos (show j ≤ i ∧ i < 340 by omega), z]
      · by_cases z2 : j + 1 ≤ i ∧ i < 340
        · rw [if_pos z2, if_pos (show j ≤ i ∧ i < 340 by omega), gw1_1, if_neg (by omega)]
        · rw [if_neg z2, if_neg (show ¬ (j ≤ i ∧ i < 340) by omega), gw1_1, if_neg (fun x => z x.2)]
theorem sp_133 {s : gx_S} {n : Nat} {pf : Nat → Nat → Int} (hn : n ≤ 8) (h0 : 0 < n) (H : HRf s n pf) : ∃ u : gx_S, gm_133 s = some (((n - 1 : Nat) : Int), u) ∧ u.2 = s.2 ∧ (∀ k i, k ≠ 216 → ¬ (k = 215 ∧ i = 2) → u.1 k i = s.1 k i) ∧ (∀ i, i < 340 → u.1 216 i = pf (n - 1) i) ∧ HRf u (n - 1) pf := by
  obtain ⟨e, hk⟩ := H
  obtain ⟨a, ha⟩ : ∃ a, a = gw1 s 215 2 (((n - 1 : Nat) : Int)) := ⟨_, rfl⟩
  have a2 : a.1 215 2 = ((n - 1 : Nat) : Int) := by rw [ha, gw1_1, if_pos ⟨rfl, rfl⟩]
  have ak : ∀ k i, ¬ (k = 215 ∧ i = 2) → a.1 k i = s.1 k i := fun k i q => by rw [ha, gw1_1, if_neg q]
  obtain ⟨u, u1, u2, u3, u4⟩ := sl_133_21 (n := n - 1) (by omega) 100000 0 a (by omega) (by omega) a2
  have u1 : gm_133_21 100000 0 a = _ := u1
  refine ⟨u, ?_, by rw [u2, ha]; rfl, fun k i h1 h2 => by rw [u3 k i h1, ak k i h2], fun i hi => ?_, ?_, fun k hk' i hi => ?_⟩
  · unfold gm_133
    rw [e, if_pos (by omega), if_pos (by omega), show (n : Int) - 1 = ((n - 1 : Nat) : Int) by omega, ← ha, u1]
  · rw [u4, if_pos ⟨by omega, hi⟩, ak 217 _ (by omega)]
    exact hk (n - 1) (by omega) i hi
  · rw [u3 215 2 (by decide), a2]
  · rw [u3 217 _ (by decide), ak 217 _ (by omega)]
    exact hk k (by omega) i hi
/-- the class's side -/
def CV (s : gx_S) (f : Nat → Int) (R C n : Nat) (pf : Nat → Nat → Int) (L : Nat) (tb : Nat → Int) : Prop := MR s 1 f R C ∧ (∀ g, g < 3 → ∃ D, GGD s f R C g (71 + 48 * g) D) ∧ HC s n pf ∧ s.1 14 1 = L ∧ ∀ i, i < L → s.1 15 i = tb i
/-- the class's side behind an act -/
def CW (s : gx_S) (f : Nat → Int) (R C n : Nat) (pf : Nat → Nat → Int) (L : Nat) (tb : Nat → Int) : Prop := MR s 1 f R C ∧ G0 s ∧ HC s n pf ∧ s.1 14 1 = L ∧ ∀ i, i < L → s.1 15 i = tb i
/-- the reference's side -/
def RV (s : gx_S) (f : Nat → Int) (n : Nat) (pf : Nat → Nat → Int) (L : Nat) (tb : Nat → Int) : Prop := s.1 216 = f ∧ HRf s n pf ∧ s.1 215 4 = L ∧ (∀ i, i < L → (Int32.ofInt (s.1 218 i) &&& Int32.ofInt 255).toInt = tb i) ∧ SC s
/-- the map and the tape themselves -/
def AV (f : Nat → Int) (R C L : Nat) (tb : Nat → Int) : Prop := MP f R C ∧ L ≤ 200 ∧ ∀ i, i < L → 0 ≤ tb i ∧ tb i ≤ 255
def INV (s : gx_S) : Prop := ∃ (f : Nat → Int) (R C n : Nat) (pf : Nat → Nat → Int) (L : Nat) (tb : Nat → Int), CV s f R C n pf L tb ∧ RV s f n pf L tb ∧ AV f R C L tb
/-- only the class's cells change; only the reference's -/
def KC (s u : gx_S) : Prop := (∀ k j, 215 ≤ k → u.1 k j = s.1 k j) ∧ ∀ k j, 215 ≤ k → u.2 k j = s.2 k j
def KF (s u : gx_S) : Prop := (∀ k j, k < 215 → u.1 k j = s.1 k j) ∧ ∀ k j, k < 215 → u.2 k j = s.2 k j
theorem KC_tr {s t u : gx_S} (a : KC s t) (b : KC t u) : KC s u := ⟨fun k j h => (b.1 k j h).trans (a.1 k j h), fun k j h => (b.2 k j h).trans (a.2 k j h)⟩
theorem KF_tr {s t u : gx_S} (a : KF s t) (b : KF t u) : KF s u := ⟨fun k j h => (b.1 k j h).trans (a.1 k j h), fun k j h => (b.2 k j h).trans (a.2 k j h)⟩
theorem KC_rf (s : gx_S) : KC s s := ⟨fun _ _ _ => rfl, fun _ _ _ => rfl⟩
theorem KF_rf (s : gx_S) : KF s s := ⟨fun _ _ _ => rfl, fun _ _ _ => rfl⟩
theorem KR_KF {s u : gx_S} (a : KRw s u) : KF s u := ⟨fun k j h => a.1 k j (.inl h), a.2.1⟩
theorem KG_KC {a : Nat} {s u : gx_S} (ha : ga a) (x : KG a s u) : KC s u := ⟨fun k j h => x.2 k j (by omega) (by have := ha.2.1; omega), fun k j _ => by rw [x.1]⟩
theorem HC_o {s u : gx_S} {n : Nat} {pf : Nat → Nat → Int} (o : ∀ k j, 16 ≤ k → k ≤ 57 → u.1 k j = s.1 k j) (h : HC s n pf) : HC u n pf := by
  obtain ⟨h1, p, h2, h3, h4, h5⟩ := h
  refine ⟨h1, p, h2, (o _ _ (by omega) (by omega)).trans h3, (o _ _ (by omega) (by omega)).trans h4, fun k hk => ?_⟩
  obtain ⟨R, C, x, y⟩ := h5 k hk
  exact ⟨R, C, x, MR_o (fun k' j q1 q2 => o k' j (by omega) (by omega)) y⟩
theorem GGD_o {s u : gx_S} {f : Nat → Int} {R C g a D : Nat} (o : ∀ k j, a ≤ k → k < a + 48 → u.1 k j = s.1 k j) (h : GGD s f R C g a D) : GGD u f R C g a D := by
  obtain ⟨h1, h2, h3, g1, g2, g4, g8, g16, g32⟩ := h
  refine ⟨h1, (o _ _ (by omega) (by omega)).trans h2, (o _ _ (by omega) (by omega)).trans h3, fun h => ?_, fun h => ⟨(g2 h).1, TM_o (fun k j q1 q2 => o k j (by omega) (by omega)) (g2 h).2⟩, fun h => TR_o (fun k j q1 q2 => o k j (by omega) (by omega)) (g4 h), fun h => ⟨(g8 h).1, TR_o (fun k j q1 q2 => o k j (by omega) (by omega)) (g8 h).2⟩, fun h => TR_o (fun k j q1 q2 => o k j (by omega) (by omega)) (g16 h), fun h => ⟨(g32 h).1, fun k hk => by rw [o _ _ (by omega) (by omega)]; exact (g32 h).2 k hk⟩⟩
  obtain ⟨x1, x2, x3⟩ := g1 h
  exact ⟨fun z hz => (o _ _ (by omega) (by omega)).trans (x1 z hz), (o _ _ (by omega) (by omega)).trans x2, (o _ _ (by omega) (by omega)).trans x3⟩
theorem CV_o {s u : gx_S} {f : Nat → Int} {R C n L : Nat} {pf : Nat → Nat → Int} {tb : Nat → Int} (o : ∀ k j, (1 ≤ k ∧ k ≤ 5) ∨ (14 ≤ k ∧ k ≤ 57) ∨ (71 ≤ k ∧ k < 215) → u.1 k j = s.1 k j) (h : CV s f R C n pf L tb) : CV u f R C n pf L tb := by
  obtain ⟨h1, h2, h3, h4, h5⟩ := h
  refine ⟨MR_o (fun k j q1 q2 => o k j (by omega)) h1, fun g hg => ?_, HC_o (fun k j q1 q2 => o k j (by omega)) h3, (o _ _ (by omega)).trans h4, fun i hi => (o _ _ (by omega)).trans (h5 i hi)⟩
  obtain ⟨D, x⟩ := h2 g hg
  exact ⟨D, GGD_o (fun k j q1 q2 => o k j (by omega)) x⟩
theorem CV_KF {s u : gx_S} {f : Nat → Int} {R C n L : Nat} {pf : Nat → Nat → Int} {tb : Nat → Int} (k : KF s u) (h : CV s f R C n pf L tb) : CV u f R C n pf L tb := CV_o (fun k' j q => k.1 k' j (by omega)) h
theorem RV_KC {s u : gx_S} {f : Nat → Int} {n L : Nat} {pf : Nat → Nat → Int} {tb : Nat → Int} (k : KC s u) (h : RV s f n pf L tb) : RV u f n pf L tb := by
  obtain ⟨h1, ⟨h2, h3⟩, h4, h5, h6⟩ := h
  refine ⟨?_, ⟨(k.1 _ _ (by omega)).trans h2, fun k' hk i hi => (k.1 _ _ (by omega)).trans (h3 k' hk i hi)⟩, (k.1 _ _ (by omega)).trans h4, fun i hi => by rw [k.1 218 i (by omega)]; exact h5 i hi, ⟨fun j hj => ?_, fun c hc => ?_, fun i hi => ?_⟩⟩
  · funext i
    rw [k.1 216 i (by omega), h1]
  · rw [k.1 232 j (by omega), k.1 233 j (by omega), k.1 234 j (by omega), k.2 225 j (by omega)]
    exact h6.1 j hj
  · rw [k.1 235 c (by omega), k.2 229 c (by omega), k.2 230 c (by omega), k.2 227 c (by omega), k.2 228 c (by omega)]
    exact h6.2.1 c hc
  · rw [k.2 231 i (by omega)]
    exact h6.2.2 i hi
theorem RV_KR {s u : gx_S} {f : Nat → Int} {n L : Nat} {pf : Nat → Nat → Int} {tb : Nat → Int} (k : KRw s u) (h : RV s f n pf L tb) : RV u f n pf L tb := by
  obtain ⟨h1, ⟨h2, h3⟩, h4, h5, h6⟩ := h
  exact ⟨(KRw_216 k).trans h1, ⟨(k.1 215 2 (by omega)).trans h2, fun k' hk i hi => (k.1 217 _ (by omega)).trans (h3 k' hk i hi)⟩, (k.1 215 4 (by omega)).trans h4, fun i hi => by rw [k.1 218 i (by omega)]; exact h5 i hi, k.2.2 h6⟩
theorem CW_CV {s : gx_S} {f f' : Nat → Int} {R C n L : Nat} {pf : Nat → Nat → Int} {tb : Nat → Int} (M : MP f R C) (e : ∀ i, i < 340 → f' i = f i) (h : CW s f R C n pf L tb) : CV s f' R C n pf L tb := by
  obtain ⟨h1, h2, h3, h4, h5⟩ := h
  refine ⟨MR_c M.1.2.2.1 M.1.2.2.2 e h1, fun g hg => ⟨0, by omega, (h2 g hg).1, (h2 g hg).2, fun h => absurd h (by decide), fun h => absurd h (by decide), fun h => absurd h (by decide), fun h => absurd h (by decide), fun h => absurd h (by decide), fun h => absurd h (by decide)⟩, h3, h4, h5⟩
theorem CW_KF {s u : gx_S} {f : Nat → Int} {R C n L : Nat} {pf : Nat → Nat → Int} {tb : Nat → Int} (k : KF s u) (h : CW s f R C n pf L tb) : CW u f R C n pf L tb := by
  obtain ⟨h1, h2, h3, h4, h5⟩ := h
  exact ⟨MR_o (fun k' j q1 q2 => k.1 k' j (by omega)) h1, fun g hg => ⟨(k.1 _ _ (by omega)).trans (h2 g hg).1, (k.1 _ _ (by omega)).trans (h2 g hg).2⟩, HC_o (fun k' j q1 q2 => k.1 k' j (by omega)) h3, (k.1 _ _ (by omega)).trans h4, fun i hi => (k.1 _ _ (by omega)).trans (h5 i hi)⟩
/-- an act begins -/
theorem sp_119 {s : gx_S} {f : Nat → Int} {R C n L : Nat} {pf : Nat → Nat → Int} {tb : Nat → Int} (M : MP f R C) (h : CV s f R C n pf L tb) : ∃ u : gx_S, gm_119 s = some u ∧ CW u f R C (nn n) (pn n pf f) L tb ∧ u.2 = s.2 ∧ ∀ k j, ¬ (16 ≤ k ∧ k ≤ 57) → ¬ ((k = 71 ∨ k = 119 ∨ k = 167) ∧ j = 8) → u.1 k j = s.1 k j := by
  obtain ⟨h1, h2, h3, h4, h5⟩ := h
  obtain ⟨a, a1, a2, a3, a4⟩ := sp_31 h1 M h3
  obtain ⟨b, b1, b2, b3, b4, b5, b6⟩ := sp_120 a
  refine ⟨b, ?_, ⟨MR_o (fun k j q1 q2 => (b3 k j (by omega)).trans (a3 k j (by omega))) h1, fun g hg => ?_, HC_o (fun k j q1 q2 => b3 k j (by omega)) a4, ?_, fun i hi => ?_⟩, b2.trans a2, fun k j q1 q2 => (b3 k j q2).trans (a3 k j q1)⟩
  · unfold gm_119
    rw [a1, Option.bind_some, b1, Option.bind_some]
  · obtain ⟨D, x1, x2, x3, _⟩ := h2 g hg
    have e9 : b.1 (71 + 48 * g) 9 = g := by rw [b3 _ _ (by omega), a3 _ _ (by omega)]; exact x3
    refine ⟨?_, e9⟩
    rcases (show g = 0 ∨ g = 1 ∨ g = 2 by omega) with z | z | z
    · rw [z]; exact b4
    · rw [z]; exact b5
    · rw [z]; exact b6
  · rw [b3 _ _ (by omega), a3 _ _ (by omega)]
    exact h4
  · rw [b3 _ _ (by omega), a3 _ _ (by omega)]
    exact h5 i hi
/-- undo, on both sides -/
theorem inv_undo {s : gx_S} (h : INV s) : ∃ (r : Int) (u w : gx_S), gm_94 s = some (r, u) ∧ gm_133 u = some (r, w) ∧ INV w := by
  obtain ⟨f, R, C, n, pf, L, tb, c, r, v⟩ := h
  obtain ⟨c1, c2, c3, c4, c5⟩ := id c
  obtain ⟨n8, p, p8, e1, e2, e3⟩ := id c3
  unfold gm_94
  rw [e2, if_pos (by omega)]
  by_cases z : n = 0
  · rw [if_neg (by omega)]
    refine ⟨-1, s, s, rfl, ?_, f, R, C, n, pf, L, tb, c, r, v⟩
    unfold gm_133
    rw [r.2.1.1, if_pos (by omega), if_neg (by omega)]
  · rw [if_pos (by omega)]
    obtain ⟨a, a1, a2, a3, a4, a5, a6⟩ := sp_120 s
    have Ha : HC a n pf := HC_o (fun k j q1 q2 => a3 k j (by omega)) c3
    obtain ⟨b, R', C', b1, b2, b3, b4, b5, b6⟩ := sp_32 (by omega) Ha
    obtain ⟨_, p', _, _, b42, _⟩ := id b4
    have kc : KC s b := ⟨fun k j q => by rw [b3 k j (by omega) (by omega), a3 k j (by omega)], fun k j _ => by rw [b2, a2]⟩
    have rv := RV_KC kc r
    obtain ⟨w, w1, w2, w3, w4, w5⟩ := sp_133 n8 (by omega) rv.2.1
    rw [a1, Option.bind_some, b1, Option.bind_some]
    have ca : CW b (pf (n - 1)) R' C' (n - 1) pf L tb := by
      refine ⟨b6, fun g hg => ?_, b4, ?_, fun i hi => ?_⟩
      · obtain ⟨D, x1, x2, x3, _⟩ := c2 g hg
        refine ⟨?_, by rw [b3 _ _ (by omega) (by omega), a3 _ _ (by omega)]; exact x3⟩
        rw [b3 _ _ (by omega) (by omega)]
        rcases (show g = 0 ∨ g = 1 ∨ g = 2 by omega) with z | z | z
        · rw [z]; exact a4
        · rw [z]; exact a5
        · rw [z]; exact a6
      · rw [b3 _ _ (by omega) (by omega), a3 _ _ (by omega)]
        exact c4
      · rw [b3 _ _ (by omega) (by omega), a3 _ _ (by omega)]
        exact c5 i hi
    have kf : KF b w := ⟨fun k j q => w3 k j (by omega) (by omega), fun k j _ => by rw [w2]⟩
    refine ⟨((n - 1 : Nat) : Int), b, w, ?_, w1, w.1 216, R', C', n - 1, pf, L, tb, CW_CV b5 w4 (CW_KF kf ca), ⟨rfl, w5, by rw [w3 _ _ (by omega) (by omega)]; exact rv.2.2.1, fun i hi => by rw [w3 218 i (by omega) (by omega)]; exact rv.2.2.2.1 i hi, ⟨fun j hj => ?_, fun d hd => ?_, fun i hi => ?_⟩⟩, MP_c w4 b5, v.2⟩
    · rw [b42]
    · rw [w3 232 j (by omega) (by omega), w3 233 j (by omega) (by omega), w3 234 j (by omega) (by omega), w2]
      exact rv.2.2.2.2.1 j hj
    · rw [w3 235 d (by omega) (by omega), w2]
      exact rv.2.2.2.2.2.1 d hd
    · rw [w2]
      exact rv.2.2.2.2.2.2 i hi
end
section
/-! CALLS: end, weight, districtOf, settle, district -/
theorem sp_114 (s : gx_S) {x : Int} (h : i32 x) : gm_114 x s = some (decide (0 ≤ x ∧ x < 3), s) := by
  unfold i32 at h
  unfold gm_114
  rw [if_pos h]
  by_cases a : x < 0
  · rw [if_pos a, decide_eq_false (by omega)]
  · rw [if_neg a]
    by_cases b : 3 ≤ x
    · rw [if_pos b, decide_eq_false (by omega)]
    · rw [if_neg b, decide_eq_true (by omega)]
theorem sp_115 (s : gx_S) {x : Int} (h : i32 x) : gm_115 x s = some (decide (0 ≤ x ∧ x < 8), s) := by
  unfold i32 at h
  unfold gm_115
  rw [if_pos h]
  by_cases a : x < 0
  · rw [if_pos a, decide_eq_false (by omega)]
  · rw [if_neg a]
    by_cases b : 8 ≤ x
    · rw [if_pos b, decide_eq_false (by omega)]
    · rw [if_neg b, decide_eq_true (by omega)]
theorem sp_116 (s : gx_S) {x : Int} (h : i32 x) : gm_116 x s = some (decide (0 ≤ x ∧ x < 4), s) := by
  unfold i32 at h
  unfold gm_116
  rw [if_pos h]
  by_cases a : x < 0
  · rw [if_pos a, decide_eq_false (by omega)]
  · rw [if_neg a]
    by_cases b : 4 ≤ x
    · rw [if_pos b, decide_eq_false (by omega)]
    · rw [if_neg b, decide_eq_true (by omega)]
theorem sp_117 (s : gx_S) {x : Int} (h : i32 x) : gm_117 x s = some (decide (0 ≤ x ∧ x < 4), s) := by
  unfold i32 at h
  unfold gm_117
  rw [if_pos h]
  by_cases a : x < 0
  · rw [if_pos a, decide_eq_false (by omega)]
  · rw [if_neg a]
    by_cases b : 4 ≤ x
    · rw [if_pos b, decide_eq_false (by omega)]
    · rw [if_neg b, decide_eq_true (by omega)]
theorem in_ (s : gx_S) {x a b : Int} (h : i32 x) (ha : -1000 ≤ a ∧ a ≤ 1000) (hb : -1000 ≤ b ∧ b ≤ 1000) : gm_130 x a b s = some (decide (a ≤ x ∧ x ≤ b), s) := by
  unfold i32 at h
  exact sp_130 (by omega) (by omega) (by omega) s
theorem sp_148 (s : gx_S) {x : Int} (h : i32 x) : gm_148 x s = some (decide (0 ≤ x ∧ x ≤ 2), s) := by
  have h' := h
  unfold i32 at h'
  unfold gm_148
  rw [if_pos h', in_ s h (by omega) (by omega), Option.bind_some]
theorem gbD {c : Prop} [Decidable c] (s : gx_S) : (gb (decide c, s).1 = 0) ↔ ¬ c := by
  show gb (decide c) = 0 ↔ ¬ c
  rw [gb_bi]
  unfold bi
  by_cases h : c
  · rw [if_pos h]
    exact ⟨fun q => absurd q (by decide), fun q => absurd h q⟩
  · rw [if_neg h]
    exact ⟨fun _ => h, fun _ => rfl⟩
/-- a call on both sides, with the same answer -/
def two (s : gx_S) (a b : gx_S → Option (Int × gx_S)) : Prop := ∃ (r : Int) (u w : gx_S), a s = some (r, u) ∧ b u = some (r, w) ∧ INV w
theorem inv_end {s : gx_S} (h : INV s) {x : Int} (hx : i32 x) : two s (gm_86 x) (gm_136 x) := by
  obtain ⟨f, R, C, n, pf, L, tb, c, r, v⟩ := id h
  unfold i32 at hx
  have e1 := c.2.2.2.1
  have e2 := r.2.2.1
  have hL := v.2.1
  unfold two gm_86 gm_136
  by_cases a : x < 0
  · exact ⟨-1, s, s, by rw [if_pos hx, if_pos a], by rw [if_pos hx, if_pos a], h⟩
  · by_cases b : x ≤ L
    · refine ⟨x, gw1 s 14 1 x, gw1 (gw1 s 14 1 x) 215 4 x, by rw [if_pos hx, if_neg a, e1, if_pos (by omega), if_pos b], ?_, ?_⟩
      · have e3 : (gw1 s 14 1 x).1 215 4 = L := by rw [gw1_1, if_neg (by omega), e2]
        rw [if_pos hx, if_neg a, e3, if_pos (by omega), if_pos b]
      · have o : ∀ k j, ¬ (k = 14 ∧ j = 1) → ¬ (k = 215 ∧ j = 4) → (gw1 (gw1 s 14 1 x) 215 4 x).1 k j = s.1 k j := fun k j h1 h2 => by rw [gw1_1, if_neg h2, gw1_1, if_neg h1]
        refine ⟨f, R, C, n, pf, x.toNat, tb, ?_, ?_, v.1, by omega, fun i hi => v.2.2 i (by omega)⟩
        · obtain ⟨c1, c2, c3, c4, c5⟩ := c
          refine ⟨MR_o (fun k j q1 q2 => o k j (by omega) (by omega)) c1, fun g hg => ?_, HC_o (fun k j q1 q2 => o k j (by omega) (by omega)) c3, ?_, fun i hi => (o _ _ (by omega) (by omega)).trans (c5 i (by omega))⟩
          · obtain ⟨D, z⟩ := c2 g hg
            exact ⟨D, GGD_o (fun k j q1 q2 => o k j (by omega) (by omega)) z⟩
          · rw [gw1_1, if_neg (by omega), gw1_1, if_pos ⟨rfl, rfl⟩]
            omega
        · obtain ⟨r1, ⟨r2, r3⟩, r4, r5, r6⟩ := r
          refine ⟨?_, ⟨(o _ _ (by omega) (by omega)).trans r2, fun k hk i hi => (o _ _ (by omega) (by omega)).trans (r3 k hk i hi)⟩, ?_, fun i hi => by rw [o _ _ (by omega) (by omega)]; exact r5 i (by omega), ⟨fun j hj => ?_, fun d hd => ?_, r6.2.2⟩⟩
          · funext i
            rw [o 216 i (by omega) (by omega), r1]
          · rw [gw1_1, if_pos ⟨rfl, rfl⟩]
            omega
          · rw [o 232 j (by omega) (by omega), o 233 j (by omega) (by omega), o 234 j (by omega) (by omega)]
            exact r6.1 j hj
          · rw [o 235 d (by omega) (by omega)]
            exact r6.2.1 d hd
    · exact ⟨-1, s, s, by rw [if_pos hx, if_neg a, e1, if_pos (by omega), if_neg b], by rw [if_pos hx, if_neg a, e2, if_pos (by omega), if_neg b], h⟩
theorem inv_weight {s : gx_S} (h : INV s) {x y : Int} (hx : i32 x) (hy : i32 y) : two s (gm_112 x y) (gm_227 x y) := by
  obtain ⟨f, R, C, n, pf, L, tb, c, r, v⟩ := id h
  have hx' := hx
  have hy' := hy
  unfold i32 at hx' hy'
  unfold two gm_112 gm_227
  rw [sp_114 s hx, Option.bind_some]
  by_cases a : 0 ≤ x ∧ x < 3
  · rw [if_neg (fun q => (gbD s).mp q a), sp_116 s hy, Option.bind_some]
    by_cases b : 0 ≤ y ∧ y < 4
    · rw [if_neg (fun q => (gbD s).mp q b), if_pos (by omega)]
      have e : s.1 4 (x * 4 + y).toNat = s.1 216 ((32 + (4 * x)) + y).toNat := by
        have e1 := c.1.2.2.2.2.2.2.1 (x * 4 + y).toNat (by omega)
        rw [r.1]
        rw [show (1 : Nat) + 3 = 4 from rfl] at e1
        rw [e1]
        congr 1
        omega
      refine ⟨_, s, s, rfl, ?_, h⟩
      rw [sp_148 s hx, Option.bind_some, if_neg (fun q => (gbD s).mp q (by omega)), if_pos hy', in_ s hy (by omega) (by omega), Option.bind_some, if_neg (fun q => (gbD s).mp q (by omega)), if_pos (by omega), ← e]
    · rw [if_pos ((gbD s).mpr b)]
      refine ⟨-1, s, s, rfl, ?_, h⟩
      rw [sp_148 s hx, Option.bind_some, if_neg (fun q => (gbD s).mp q (by omega)), if_pos hy', in_ s hy (by omega) (by omega), Option.bind_some, if_pos ((gbD s).mpr (by omega))]
  · rw [if_pos ((gbD s).mpr a)]
    refine ⟨-1, s, s, rfl, ?_, h⟩
    rw [sp_148 s hx, Option.bind_some, if_pos ((gbD s).mpr (by omega))]
theorem inv_districtOf {s : gx_S} (h : INV s) {x : Int} (hx : i32 x) : two s (gm_113 x) (gm_228 x) := by
  obtain ⟨f, R, C, n, pf, L, tb, c, r, v⟩ := id h
  have hx' := hx
  unfold i32 at hx'
  unfold two gm_113 gm_228
  rw [sp_115 s hx, Option.bind_some]
  by_cases a : 0 ≤ x ∧ x < 8
  · rw [if_neg (fun q => (gbD s).mp q a), if_pos (by omega)]
    have e : s.1 5 x.toNat = s.1 216 (44 + x).toNat := by
      have e1 := c.1.2.2.2.2.2.2.2.1 x.toNat (by omega)
      rw [r.1]
      rw [show (1 : Nat) + 4 = 5 from rfl] at e1
      rw [e1]
      congr 1
      omega
    refine ⟨_, s, s, rfl, ?_, h⟩
    rw [if_pos hx', in_ s hx (by omega) (by omega), Option.bind_some, if_neg (fun q => (gbD s).mp q (by omega)), if_pos (by omega), ← e]
  · rw [if_pos ((gbD s).mpr a)]
    refine ⟨-1, s, s, rfl, ?_, h⟩
    rw [if_pos hx', in_ s hx (by omega) (by omega), Option.bind_some, if_pos ((gbD s).mpr (by omega))]
/-- an act that writes one cell of the map on each side -/
theorem inv_one {s : gx_S} {f : Nat → Int} {R C n L : Nat} {pf : Nat → Nat → Int} {tb : Nat → Int} (c : CV s f R C n pf L tb) (r : RV s f n pf L tb) (v : AV f R C L tb) {k j i : Nat} {x : Int} (hk : k < 6) (hM : MP (fun q => if q = i then x else f q) R C) (hR : ∀ u : gx_S, MR u 1 f R C → MR (gw1 u k j x) 1 (fun q => if q = i then x else f q) R C) : ∃ u w : gx_S, gm_119 s = some u ∧ gm_132 (gw1 u k j x) = some w ∧ w.1 216 = f ∧ INV (gw1 w 216 i x) := by
  obtain ⟨u, u1, u2, u3, u4⟩ := sp_119 v.1 c
  have kc : KC s (gw1 u k j x) := ⟨fun k' j' q => by rw [gw1_1, if_neg (by omega), u4 k' j' (by omega) (by omega)], fun k' j' _ => by rw [gw1_2, u3]⟩
  have rv := RV_KC kc r
  obtain ⟨w, w1, w2, w3, w4⟩ := sp_132 c.2.2.1.1 rv.2.1
  have ew : w.1 216 = f := by
    funext q
    rw [w3 216 q (by decide) (by omega), rv.1]
  rw [rv.1] at w4
  refine ⟨u, w, u1, w1, ew, fun q => if q = i then x else f q, R, C, nn n, pn n pf f, L, tb, ?_, ?_, hM, v.2⟩
  · have ca : CW (gw1 u k j x) (fun q => if q = i then x else f q) R C (nn n) (pn n pf f) L tb := by
      obtain ⟨a1, a2, a3, a4, a5⟩ := u2
      exact ⟨hR u a1, fun g hg => ⟨by rw [gw1_1, if_neg (by omega)]; exact (a2 g hg).1, by rw [gw1_1, if_neg (by omega)]; exact (a2 g hg).2⟩, HC_o (fun k' j' q1 q2 => by rw [gw1_1, if_neg (by omega)]) a3, by rw [gw1_1, if_neg (by omega)]; exact a4, fun q hq => by rw [gw1_1, if_neg (by omega)]; exact a5 q hq⟩
    have kf : KF (gw1 u k j x) (gw1 w 216 i x) := ⟨fun k' j' q => by rw [gw1_1 w, if_neg (by omega)]; exact w3 k' j' (by omega) (by omega), fun k' j' _ => by rw [gw1_2, w2]⟩
    exact CW_CV hM (fun _ _ => rfl) (CW_KF kf ca)
  · obtain ⟨r1, r2, r3, r4, r5⟩ := rv
    refine ⟨?_, ⟨by rw [gw1_1, if_neg (by omega)]; exact w4.1, fun q hq p hp => by rw [gw1_1, if_neg (by omega)]; exact w4.2 q hq p hp⟩, by rw [gw1_1, if_neg (by omega), w3 215 4 (by decide) (by omega)]; exact r3, fun p hp => by rw [gw1_1, if_neg (by omega), w3 218 p (by decide) (by omega)]; exact r4 p hp, ⟨fun p hp => ?_, fun d hd => ?_, fun p hp => ?_⟩⟩
    · funext q
      rw [gw1_1, ew]
      by_cases z : q = i
      · rw [if_pos ⟨rfl, z⟩, if_pos z]
      · rw [if_neg (fun t => z t.2), if_neg z]
    · rw [gw1_1, if_neg (by omega), gw1_1, if_neg (by omega), gw1_1, if_neg (by omega), w3 232 p (by decide) (by omega), w3 233 p (by decide) (by omega), w3 234 p (by decide) (by omega), gw1_2, w2]
      exact r5.1 p hp
    · rw [gw1_1, if_neg (by omega), w3 235 d (by decide) (by omega), gw1_2, w2]
      exact r5.2.1 d hd
    · rw [gw1_2, w2]
      exact r5.2.2 p hp
theorem MP_up {f : Nat → Int} {R C i : Nat} {x : Int} (M : MP f R C) (h : (i = 3 ∧ (x = 0 ∨ x = 1)) ∨ (i = 4 ∧ (x = 0 ∨ x = 1)) ∨ (32 ≤ i ∧ i < 44 ∧ 0 ≤ x ∧ x ≤ 9) ∨ (44 ≤ i ∧ i < 52 ∧ 0 ≤ x ∧ x ≤ 3)) : MP (fun q => if q = i then x else f q) R C := by
  obtain ⟨m1, m2, m3, m4, m5, m6, m7, m8, m10⟩ := M
  have o : ∀ q, q ≠ i → (if q = i then x else f q) = f q := fun q hq => if_neg hq
  refine ⟨?_, ?_, ?_, ?_, fun g hg => ⟨fun z hz => ?_, ?_⟩, fun q hq => ?_, fun q hq => ?_, fun l hl b k hk => ?_, by
    show ¬ (if 2 = i then x else f 2) = 0 → (if 2 = i then x else f 2) % 2 = 1 ∧ _
    rw [o 2 (by omega)]
    exact m10⟩
  · show ((if 0 = i then x else f 0) = _ ∧ (if 1 = i then x else f 1) = _ ∧ _ ∧ _)
    rw [o 0 (by omega), o 1 (by omega)]
    exact m1
  · show 0 ≤ (if 2 = i then x else f 2) ∧ (if 2 = i then x else f 2) < 8
    rw [o 2 (by omega)]
    exact m2
  · show (if 3 = i then x else f 3) = 0 ∨ (if 3 = i then x else f 3) = 1
    by_cases z : 3 = i
    · rw [if_pos z]; omega
    · rw [if_neg z]; exact m3
  · show (if 4 = i then x else f 4) = 0 ∨ (if 4 = i then x else f 4) = 1
    by_cases z : 4 = i
    · rw [if_pos z]; omega
    · rw [if_neg z]; exact m4
  · show 0 ≤ (if 5 + 9 * g + z = i then x else f (5 + 9 * g + z))
    rw [o _ (by omega)]
    exact (m5 g hg).1 z hz
  · rw [sg_eq (g := fun z => f (5 + 9 * g + z)) fun z hz => o _ (by omega)]
    exact (m5 g hg).2
  · show 0 ≤ (if 32 + q = i then x else f (32 + q)) ∧ (if 32 + q = i then x else f (32 + q)) ≤ 9
    by_cases z : 32 + q = i
    · rw [if_pos z]; omega
    · rw [if_neg z]; exact m6 q hq
  · show 0 ≤ (if 44 + q = i then x else f (44 + q)) ∧ (if 44 + q = i then x else f (44 + q)) ≤ 3
    by_cases z : 44 + q = i
    · rw [if_pos z]; omega
    · rw [if_neg z]; exact m7 q hq
  · show 0 ≤ (if 52 + 96 * l + 12 * (k / C) + k % C = i then x else f (52 + 96 * l + 12 * (k / C) + k % C)) ∧ (if 52 + 96 * l + 12 * (k / C) + k % C = i then x else f (52 + 96 * l + 12 * (k / C) + k % C)) ≤ _
    rw [o _ (by omega)]
    have b' : (if 2 = i then x else f 2) / 2 ^ l % 2 = 1 := b
    rw [o 2 (by omega)] at b'
    exact m8 l hl b' k hk
theorem MR_up {u : gx_S} {f : Nat → Int} {R C k j i : Nat} {x : Int} (m : MR u 1 f R C) (h : (k = 1 ∧ j = 7 ∧ i = 3) ∨ (k = 1 ∧ j = 8 ∧ i = 4) ∨ (k = 4 ∧ j < 12 ∧ i = 32 + j) ∨ (k = 5 ∧ j < 8 ∧ i = 44 + j)) : MR (gw1 u k j x) 1 (fun q => if q = i then x else f q) R C := by
  obtain ⟨m1, m2, m3, m4, m5, m6, m7, m8, m9⟩ := m
  have o : ∀ q, q ≠ i → (if q = i then x else f q) = f q := fun q hq => if_neg hq
  refine ⟨?_, ?_, ?_, ?_, ?_, fun q hq => ?_, fun q hq => ?_, fun q hq => ?_, fun l hl b k' hk => ?_⟩
  · show _ = (if 0 = i then x else f 0)
    rw [gw1_1, if_neg (by omega), o 0 (by omega)]; exact m1
  · show _ = (if 1 = i then x else f 1)
    rw [gw1_1, if_neg (by omega), o 1 (by omega)]; exact m2
  · show _ = (if 2 = i then x else f 2)
    rw [gw1_1, if_neg (by omega), o 2 (by omega)]; exact m3
  · show _ = (if 3 = i then x else f 3)
    rw [gw1_1]
    by_cases z : 3 = i
    · rw [if_pos z, if_pos (by omega)]
    · rw [if_neg z, if_neg (by omega)]; exact m4
  · show _ = (if 4 = i then x else f 4)
    rw [gw1_1]
    by_cases z : 4 = i
    · rw [if_pos z, if_pos (by omega)]
    · rw [if_neg z, if_neg (by omega)]; exact m5
  · show _ = (if 5 + q = i then x else f (5 + q))
    rw [gw1_1, if_neg (by omega), o _ (by omega)]; exact m6 q hq
  · show _ = (if 32 + q = i then x else f (32 + q))
    rw [gw1_1]
    by_cases z : 32 + q = i
    · rw [if_pos z, if_pos (by omega)]
    · rw [if_neg z, if_neg (by omega)]; exact m7 q hq
  · show _ = (if 44 + q = i then x else f (44 + q))
    rw [gw1_1]
    by_cases z : 44 + q = i
    · rw [if_pos z, if_pos (by omega)]
    · rw [if_neg z, if_neg (by omega)]; exact m8 q hq
  · show _ = (if 52 + 96 * l + 12 * (k' / C) + k' % C = i then x else f (52 + 96 * l + 12 * (k' / C) + k' % C))
    have b' : (if 2 = i then x else f 2) / 2 ^ l % 2 = 1 := b
    rw [o 2 (by omega)] at b'
    rw [gw1_1, if_neg (by omega), o _ (by omega)]
    exact m9 l hl b' k' hk
theorem inv_district {s : gx_S} (h : INV s) {x y : Int} (hx : i32 x) (hy : i32 y) : two s (gm_91 x y) (gm_216 x y) := by
  obtain ⟨f, R, C, n, pf, L, tb, c, r, v⟩ := id h
  have hx' := hx
  have hy' := hy
  unfold i32 at hx' hy'
  unfold two gm_91 gm_216
  rw [sp_115 s hx, Option.bind_some]
  by_cases a : 0 ≤ x ∧ x < 8
  · rw [if_neg (fun q => (gbD s).mp q a), sp_117 s hy, Option.bind_some]
    by_cases b : 0 ≤ y ∧ y < 4
    · obtain ⟨z, rfl⟩ : ∃ z : Nat, x = z := ⟨x.toNat, by omega⟩
      have i1 : ((z : Int)).toNat = z := by omega
      have i2 : (44 + (z : Int)).toNat = 44 + z := by omega
      have e5 : s.1 5 z = f (44 + z) := by
        have := c.1.2.2.2.2.2.2.2.1 z (by omega)
        rw [show (1 : Nat) + 4 = 5 from rfl] at this
        exact this
      have mr := v.1.2.2.2.2.2.2.1 z (by omega)
      have gR : ∀ t : gx_S, t.1 216 = f → ((if (-2147483648 ≤ (z : Int) ∧ (z : Int) ≤ 2147483647) then ((gm_130 z 0 7 t).bind fun q20 => if (gb q20.1) = 0 then some ((-1), q20.2) else (if (-2147483648 ≤ y ∧ y ≤ 2147483647) then ((gm_130 y 0 3 q20.2).bind fun q24 => if ¬ (gb q24.1) = 0 then (if 0 ≤ (44 + (z : Int)) ∧ (44 + (z : Int)) < 340 then (if (-2147483648 ≤ (q24.2.1 216 ((44 + (z : Int))).toNat) ∧ (q24.2.1 216 ((44 + (z : Int))).toNat) ≤ 2147483647) then (if ¬ (q24.2.1 216 ((44 + (z : Int))).toNat) = y then ((gm_132 q24.2).bind fun q32 => some ((q24.2.1 216 ((44 + (z : Int))).toNat), (gw1 q32 216 ((44 + (z : Int))).toNat y))) else some ((-2), q24.2)) else none) else none) else some ((-1), q24.2)) else none)) else none) : Option (Int × gx_S)) = if ¬ f (44 + z) = y then ((gm_132 t).bind fun q32 => some (f (44 + z), gw1 q32 216 (44 + z) y)) else some (-2, t) := fun t ht => by
        rw [if_pos hx', in_ t hx (by omega) (by omega), Option.bind_some, if_neg (fun q => (gbD t).mp q (by omega)), if_pos hy', in_ t hy (by omega) (by omega), Option.bind_some, if_pos (fun q => (gbD t).mp q (by omega)), if_pos (by omega)]
        show (if (-2147483648 ≤ (t.1 216 ((44 + (z : Int))).toNat) ∧ (t.1 216 ((44 + (z : Int))).toNat) ≤ 2147483647) then (if ¬ (t.1 216 ((44 + (z : Int))).toNat) = y then ((gm_132 t).bind fun q32 => some ((t.1 216 ((44 + (z : Int))).toNat), (gw1 q32 216 ((44 + (z : Int))).toNat y))) else some ((-2), t)) else none) = _
        rw [i2, ht, if_pos (by omega)]
      rw [if_pos (fun q => (gbD s).mp q b), if_pos (by omega)]
      show ∃ (r' : Int) (u w : gx_S), (if (-2147483648 ≤ (s.1 5 ((z : Int)).toNat) ∧ (s.1 5 ((z : Int)).toNat) ≤ 2147483647) then (if (-2147483648 ≤ y ∧ y ≤ 2147483647) then (if ¬ (s.1 5 ((z : Int)).toNat) = y then ((gm_119 s).bind fun q30 => some ((s.1 5 ((z : Int)).toNat), (gw1 q30 5 ((z : Int)).toNat y))) else some ((-2), s)) else none) else none) = some (r', u) ∧ _ = some (r', w) ∧ INV w
      rw [i1, e5, if_pos (by omega), if_pos hy']
      by_cases d : f (44 + z) = y
      · rw [if_neg (fun q => q d)]
        exact ⟨-2, s, s, rfl, (gR s r.1).trans (if_neg fun q => q d), h⟩
      · rw [if_pos d]
        obtain ⟨u, w, u1, w1, w2, w3⟩ := inv_one c r v (k := 5) (j := z) (i := 44 + z) (x := y) (by omega) (MP_up v.1 (by omega)) fun u m => MR_up m (by omega)
        refine ⟨f (44 + z), gw1 u 5 z y, gw1 w 216 (44 + z) y, by rw [u1, Option.bind_some], ?_, w3⟩
        have eu : (gw1 u 5 z y).1 216 = f := by
          obtain ⟨u', q1, q2, q3, q4⟩ := sp_119 v.1 c
          have e : u' = u := Option.some.inj (q1.symm.trans u1)
          funext q
          rw [gw1_1, if_neg (by omega), ← e, q4 216 q (by omega) (by omega), r.1]
        rw [gR _ eu, if_pos d, w1, Option.bind_some]
    · rw [if_neg (fun q => q ((gbD s).mpr b))]
      refine ⟨-1, s, s, rfl, ?_, h⟩
      rw [if_pos hx', in_ s hx (by omega) (by omega), Option.bind_some, if_neg (fun q => (gbD s).mp q (by omega)), if_pos hy', in_ s hy (by omega) (by omega), Option.bind_some, if_neg (fun q => q ((gbD s).mpr (by omega)))]
  · rw [if_pos ((gbD s).mpr a)]
    refine ⟨-1, s, s, rfl, ?_, h⟩
    rw [if_pos hx', in_ s hx (by omega) (by omega), Option.bind_some, if_pos ((gbD s).mpr (by omega))]
end
section
/-! CALLS: settle, weigh -/
/-- an act on both sides: what it leaves -/
theorem act_pre {s : gx_S} {f : Nat → Int} {R C n L : Nat} {pf : Nat → Nat → Int} {tb : Nat → Int} (c : CV s f R C n pf L tb) (r : RV s f n pf L tb) (v : AV f R C L tb) : ∃ u : gx_S, gm_119 s = some u ∧ MR u 1 f R C ∧ u.1 216 = f ∧ ∀ u' : gx_S, (∀ k j, 6 ≤ k → u'.1 k j = u.1 k j) → u'.2 = u.2 → u'.1 216 = f ∧ ∃ w : gx_S, gm_132 u' = some w ∧ w.1 216 = f ∧ ∀ (w' : gx_S) (fn : Nat → Int) (R' C' : Nat), (∀ k j, k ≠ 216 → w'.1 k j = w.1 k j) → w'.2 = w.2 → MP fn R' C' → MR u' 1 fn R' C' → (∀ i, i < 340 → w'.1 216 i = fn i) → INV w' := by
  obtain ⟨u, u1, u2, u3, u4⟩ := sp_119 v.1 c
  have eu : u.1 216 = f := by
    funext q
    rw [u4 216 q (by omega) (by omega), r.1]
  refine ⟨u, u1, u2.1, eu, fun u' h1 h2 => ?_⟩
  have eu' : u'.1 216 = f := by
    funext q
    rw [h1 216 q (by omega), eu]
  have kc : KC s u' := ⟨fun k j q => by rw [h1 k j (by omega), u4 k j (by omega) (by omega)], fun k j _ => by rw [h2, u3]⟩
  have rv := RV_KC kc r
  obtain ⟨w, w1, w2, w3, w4⟩ := sp_132 c.2.2.1.1 rv.2.1
  rw [rv.1] at w4
  have ew : w.1 216 = f := by
    funext q
    rw [w3 216 q (by decide) (by omega), eu']
  refine ⟨eu', w, w1, ew, fun w' fn R' C' k1 k2 hM hR e => ?_⟩
  obtain ⟨a1, a2, a3, a4, a5⟩ := u2
  have ca : CW u' fn R' C' (nn n) (pn n pf f) L tb := ⟨hR, fun g hg => ⟨by rw [h1 _ _ (by omega)]; exact (a2 g hg).1, by rw [h1 _ _ (by omega)]; exact (a2 g hg).2⟩, HC_o (fun k j q1 q2 => h1 k j (by omega)) a3, by rw [h1 _ _ (by omega)]; exact a4, fun q hq => by rw [h1 _ _ (by omega)]; exact a5 q hq⟩
  have kf : KF u' w' := ⟨fun k j q => by rw [k1 k j (by omega)]; exact w3 k j (by omega) (by omega), fun k j _ => by rw [k2, w2]⟩
  obtain ⟨r1, r2, r3, r4, r5⟩ := rv
  refine ⟨w'.1 216, R', C', nn n, pn n pf f, L, tb, CW_CV hM e (CW_KF kf ca), ⟨rfl, ⟨by rw [k1 _ _ (by omega)]; exact w4.1, fun q hq p hp => by rw [k1 _ _ (by omega)]; exact w4.2 q hq p hp⟩, by rw [k1 _ _ (by omega), w3 215 4 (by decide) (by omega)]; exact r3, fun p hp => by rw [k1 _ _ (by omega), w3 218 p (by decide) (by omega)]; exact r4 p hp, ⟨fun p hp => ?_, fun d hd => ?_, fun p hp => ?_⟩⟩, MP_c e hM, v.2⟩
  · rw [k1 _ _ (by omega), k1 _ _ (by omega), k1 _ _ (by omega), w3 232 p (by decide) (by omega), w3 233 p (by decide) (by omega), w3 234 p (by decide) (by omega), k2, w2]
    exact r5.1 p hp
  · rw [k1 _ _ (by omega), w3 235 d (by decide) (by omega), k2, w2]
    exact r5.2.1 d hd
  · rw [k2, w2]
    exact r5.2.2 p hp
theorem inv_settle {s : gx_S} (h : INV s) {x y : Int} (hx : i32 x) (hy : i32 y) : two s (gm_90 x y) (gm_215 x y) := by
  obtain ⟨f, R, C, n, pf, L, tb, c, r, v⟩ := id h
  have hx' := hx
  have hy' := hy
  unfold i32 at hx' hy'
  by_cases a : 0 ≤ x ∧ x ≤ 1
  · by_cases b : 0 ≤ y ∧ y ≤ 1
    · obtain ⟨z, rfl⟩ : ∃ z : Nat, x = z := ⟨x.toNat, by omega⟩
      have z2 : z = 0 ∨ z = 1 := by omega
      have i2 : (3 + (z : Int)).toNat = 3 + z := by omega
      have fr : f (3 + z) = 0 ∨ f (3 + z) = 1 := by
        rcases z2 with e | e
        · rw [e]; exact v.1.2.2.1
        · rw [e]; exact v.1.2.2.2.1
      have cl : s.1 1 (7 + z) = f (3 + z) := by
        rcases z2 with e | e
        · rw [e]; exact c.1.2.2.2.1
        · rw [e]; exact c.1.2.2.2.2.1
      have e1 : gm_90 z y s = if ¬ f (3 + z) = y then ((gm_119 s).bind fun q5 => some (f (3 + z), gw1 q5 1 (7 + z) y)) else some (-2, s) := by
        have st : gm_90 z y s = gm_90_41 z y (f (3 + z)) s := by
          unfold gm_90
          rw [if_pos hx', if_neg (by omega), if_neg (by omega), if_pos hy', if_neg (by omega), if_pos b.2]
          rcases z2 with e | e
          · rw [e] at cl ⊢
            have cl : s.1 1 7 = f (3 + 0) := cl
            rw [if_neg (by omega), cl]
          · rw [e] at cl ⊢
            have cl : s.1 1 8 = f (3 + 1) := cl
            rw [if_pos (by omega), cl]
        rw [st]
        unfold gm_90_41
        rw [if_pos (by omega), if_pos hy']
        by_cases d : f (3 + z) = y
        · rw [if_neg (fun q => q d), if_neg (fun q => q d)]
        · rw [if_pos d, if_pos d]
          congr 1
          funext q5
          rw [if_pos hx']
          rcases z2 with e | e
          · rw [e, if_neg (by omega)]
            rfl
          · rw [e, if_pos (by omega)]
            rfl
      have e2 : ∀ t : gx_S, t.1 216 = f → gm_215 z y t = if ¬ f (3 + z) = y then ((gm_132 t).bind fun q32 => some (f (3 + z), gw1 q32 216 (3 + z) y)) else some (-2, t) := fun t ht => by
        unfold gm_215
        rw [if_pos hx', in_ t hx (by omega) (by omega), Option.bind_some, if_neg (fun q => (gbD t).mp q (by omega)), if_pos hy', in_ t hy (by omega) (by omega), Option.bind_some, if_pos (fun q => (gbD t).mp q (by omega)), if_pos (by omega)]
        show (if (-2147483648 ≤ (t.1 216 ((3 + (z : Int))).toNat) ∧ (t.1 216 ((3 + (z : Int))).toNat) ≤ 2147483647) then (if ¬ (t.1 216 ((3 + (z : Int))).toNat) = y then ((gm_132 t).bind fun q32 => some ((t.1 216 ((3 + (z : Int))).toNat), (gw1 q32 216 ((3 + (z : Int))).toNat y))) else some ((-2), t)) else none) = _
        rw [i2, ht, if_pos (by omega)]
      unfold two
      by_cases d : f (3 + z) = y
      · exact ⟨-2, s, s, e1.trans (if_neg fun q => q d), (e2 s r.1).trans (if_neg fun q => q d), h⟩
      · obtain ⟨u, u1, u2, u3, u4⟩ := act_pre c r v
        obtain ⟨g1, w, w1, w2, w3⟩ := u4 (gw1 u 1 (7 + z) y) (fun k j q => by rw [gw1_1, if_neg (by omega)]) rfl
        refine ⟨f (3 + z), gw1 u 1 (7 + z) y, gw1 w 216 (3 + z) y, ?_, ?_, w3 _ (fun q => if q = 3 + z then y else f q) R C (fun k j q => by rw [gw1_1, if_neg (fun t => q t.1)]) rfl (MP_up v.1 (by omega)) (MR_up u2 (by omega)) fun i hi => ?_⟩
        · rw [e1, if_pos d, u1, Option.bind_some]
        · rw [e2 _ g1, if_pos d, w1, Option.bind_some]
        · show _ = (if i = 3 + z then y else f i)
          rw [gw1_1, w2]
          by_cases q : i = 3 + z
          · rw [if_pos ⟨rfl, q⟩, if_pos q]
          · rw [if_neg (fun t => q t.2), if_neg q]
    · unfold two gm_90 gm_215
      refine ⟨-1, s, s, ?_, ?_, h⟩
      · rw [if_pos hx', if_neg (by omega), if_neg (by omega), if_pos hy']
        by_cases d : y < 0
        · rw [if_pos d]
        · rw [if_neg d, if_neg (by omega)]
      · rw [if_pos hx', in_ s hx (by omega) (by omega), Option.bind_some, if_neg (fun q => (gbD s).mp q (by omega)), if_pos hy', in_ s hy (by omega) (by omega), Option.bind_some, if_neg (fun q => q ((gbD s).mpr (by omega)))]
  · unfold two gm_90 gm_215
    refine ⟨-1, s, s, ?_, ?_, h⟩
    · rw [if_pos hx']
      by_cases d : x < 0
      · rw [if_pos d]
      · rw [if_neg d, if_pos (by omega)]
    · rw [if_pos hx', in_ s hx (by omega) (by omega), Option.bind_some, if_pos ((gbD s).mpr (by omega))]
/-- weights of a row of groups -/
def fw (f : Nat → Int) (a b y : Nat) (x : Int) (q : Nat) : Int := if 32 + 4 * a + y ≤ q ∧ q ≤ 32 + 4 * b + y ∧ (q - 32 - y) % 4 = 0 then x else f q
theorem sl_89_137 {a b y : Nat} {x v : Int} (hy : y < 4) (hb : b < 3) : ∀ (n j : Nat) (s : gx_S), b + 1 < n + j → j ≤ b + 1 → ∃ u : gx_S, gm_89_137 n y x b v j s = some (v, u) ∧ u.2 = s.2 ∧ (∀ k i, k ≠ 4 → u.1 k i = s.1 k i) ∧ ∀ i, u.1 4 i = if 4 * j + y ≤ i ∧ i ≤ 4 * b + y ∧ (i - y) % 4 = 0 then x else s.1 4 i := by
  intro n
  induction n with
  | zero => intro j s h; omega
  | succ n ih =>
    intro j s h hj
    rw [gm_89_137, if_pos (by omega), if_pos (by omega)]
    by_cases q : j = b + 1
    · rw [if_pos (by omega)]
      exact ⟨s, rfl, rfl, fun _ _ _ => rfl, fun i => by rw [if_neg (by omega)]⟩
    · have ce : ((j : Int) + 1) = ((j + 1 : Nat) : Int) := rfl
      have i1 : (((j : Int) * 4) + (y : Int)).toNat = 4 * j + y := by omega
      rw [if_neg (by omega), if_pos (by omega), i1, ce]
      obtain ⟨u, u1, u2, u3, u4⟩ := ih (j + 1) (gw1 s 4 (4 * j + y) x) (by omega) (by omega)
      refine ⟨u, u1, u2, fun k i h1 => by rw [u3 k i h1, gw1_1, if_neg (fun t => h1 t.1)], fun i => ?_⟩
      rw [u4, gw1_1]
      by_cases z : i = 4 * j + y
      · rw [if_neg (show ¬ (4 * (j + 1) + y ≤ i ∧ i ≤ 4 * b + y ∧ (i - y) % 4 = 0) by omega), if_pos ⟨rfl, z⟩, if_pos (show 4 * j + y ≤ i ∧ i ≤ 4 * b + y ∧ (i - y) % 4 = 0 by omega)]
      · rw [if_neg (show ¬ ((4 : Nat) = 4 ∧ i = 4 * j + y) from fun t => z t.2)]
        by_cases z2 : 4 * (j + 1) + y ≤ i ∧ i ≤ 4 * b + y ∧ (i - y) % 4 = 0
        · rw [if_pos z2, if_pos (show 4 * j + y ≤ i ∧ i ≤ 4 * b + y ∧ (i - y) % 4 = 0 by omega)]
        · rw [if_neg z2, if_neg (show ¬ (4 * j + y ≤ i ∧ i ≤ 4 * b + y ∧ (i - y) % 4 = 0) by omega)]
theorem sl_89_62 {a b y : Nat} {x : Int} {s : gx_S} (hy : y < 4) (hab : a ≤ b) (hb : b < 3) (hx : i32 x) (hs : ∀ i, i < 12 → i32 (s.1 4 i)) : ∀ (n j : Nat) (fl : Int), b + 1 < n + j → a ≤ j → j ≤ b + 1 → (fl = 0 ∨ fl = 1) → ∃ v : Bool, gm_89_62 n y x a b fl j s = (if v = true then some (-2, s) else (gm_119 s).bind fun q => gm_89_137 100000 y x b (s.1 4 (4 * a + y)) a q) ∧ (v = true ↔ (fl = 1 ∧ ∀ g, j ≤ g → g ≤ b → s.1 4 (4 * g + y) = x)) := by
  unfold i32 at hx hs
  intro n
  induction n with
  | zero => intro j fl h; omega
  | succ n ih =>
    intro j fl h h1 h2 h3
    have ia : (((a : Int) * 4) + (y : Int)).toNat = 4 * a + y := by omega
    rw [gm_89_62, if_pos (by omega), if_pos (by omega)]
    by_cases q : j = b + 1
    · rw [if_pos (by omega), if_pos (by omega)]
      rcases h3 with e | e
      · rw [e, if_pos rfl, if_pos (by omega), ia]
        exact ⟨false, (if_neg Bool.false_ne_true).symm, fun t => Bool.noConfusion t, fun t => absurd t.1 (by decide)⟩
      · rw [e, if_neg (by decide)]
        exact ⟨true, (if_pos rfl).symm, fun _ => ⟨rfl, fun g g1 g2 => by omega⟩, fun _ => rfl⟩
    · have ce : ((j : Int) + 1) = ((j + 1 : Nat) : Int) := rfl
      have i1 : (((j : Int) * 4) + (y : Int)).toNat = 4 * j + y := by omega
      have sr := hs (4 * j + y) (by omega)
      rw [if_neg (by omega), if_pos (by omega)]
      unfold gm_89_97
      rcases h3 with e | e
      · obtain ⟨v, v1, v2⟩ := ih (j + 1) 0 (by omega) (by omega) (by omega) (.inl rfl)
        rw [e, if_pos rfl, ce]
        exact ⟨v, v1, fun t => absurd (v2.mp t).1 (by decide), fun t => absurd t.1 (by decide)⟩
      · rw [e, if_neg (by decide), if_pos (by omega), i1, if_pos sr, if_pos hx, ce]
        by_cases z : s.1 4 (4 * j + y) = x
        · rw [if_neg (fun t => t z)]
          obtain ⟨v, v1, v2⟩ := ih (j + 1) 1 (by omega) (by omega) (by omega) (.inr rfl)
          refine ⟨v, v1, fun t => ⟨rfl, fun g g1 g2 => ?_⟩, fun t => v2.mpr ⟨rfl, fun g g1 g2 => t.2 g (by omega) g2⟩⟩
          by_cases e2 : g = j
          · rw [e2]; exact z
          · exact (v2.mp t).2 g (by omega) g2
        · rw [if_pos z]
          obtain ⟨v, v1, v2⟩ := ih (j + 1) 0 (by omega) (by omega) (by omega) (.inl rfl)
          exact ⟨v, v1, fun t => absurd (v2.mp t).1 (by decide), fun t => absurd (t.2 j (Nat.le_refl j) (by omega)) z⟩
/-- a group is meant -/
def mt (x : Int) (g : Nat) : Prop := x = -1 ∨ x = g
theorem sl_213 {x w : Int} {y : Nat} {s : gx_S} (hx : -1 ≤ x ∧ x ≤ 2) (hy : y < 4) (hw : i32 w) (hs : ∀ i, i < 12 → i32 (s.1 216 (32 + i))) : ∀ (n j : Nat), 3 < n + j → j ≤ 3 → ∃ v : Bool, gm_213_3 n x y w j s = some (v, s) ∧ (v = true ↔ ∀ g, j ≤ g → g < 3 → mt x g → s.1 216 (32 + 4 * g + y) = w) := by
  unfold i32 at hw hs
  intro n
  induction n with
  | zero => intro j h; omega
  | succ n ih =>
    intro j h hj
    rw [gm_213_3, if_pos (by omega)]
    by_cases q : j = 3
    · rw [if_pos (by omega)]
      exact ⟨true, rfl, fun _ g g1 g2 => by omega, fun _ => rfl⟩
    · have ce : ((j : Int) + 1) = ((j + 1 : Nat) : Int) := rfl
      have i1 : ((32 + (4 * (j : Int))) + (y : Int)).toNat = 32 + 4 * j + y := by omega
      have sr := hs (4 * j + y) (by omega)
      rw [show 32 + (4 * j + y) = 32 + 4 * j + y by omega] at sr
      obtain ⟨v, v1, v2⟩ := ih (j + 1) (by omega) (by omega)
      have hit : mt x j → ∃ v : Bool, gm_213_20 (gm_213_3 n) x y w j s = some (v, s) ∧ (v = true ↔ ∀ g, j ≤ g → g < 3 → mt x g → s.1 216 (32 + 4 * g + y) = w) := fun m => by
        unfold gm_213_20
        rw [if_pos (by omega), i1, if_pos sr, if_pos hw]
        by_cases z : s.1 216 (32 + 4 * j + y) = w
        · rw [if_pos z]
          unfold gm_213_40
          rw [ce]
          refine ⟨v, v1, fun t g g1 g2 g3 => ?_, fun t => v2.mpr fun g g1 g2 g3 => t g (by omega) g2 g3⟩
          by_cases e : g = j
          · rw [e]; exact z
          · exact v2.mp t g (by omega) g2 g3
        · rw [if_neg z]
          exact ⟨false, rfl, fun t => Bool.noConfusion t, fun t => absurd (t j (by omega) (by omega) m) z⟩
      rw [if_neg (by omega), if_pos (by omega)]
      by_cases m1 : x = -1
      · rw [if_pos m1]
        exact hit (.inl m1)
      · rw [if_neg m1]
        by_cases m2 : x = (j : Int)
        · rw [if_neg (fun t => t m2)]
          exact hit (.inr m2)
        · rw [if_pos m2]
          unfold gm_213_40
          rw [ce]
          refine ⟨v, v1, fun t g g1 g2 g3 => ?_, fun t => v2.mpr fun g g1 g2 g3 => t g (by omega) g2 g3⟩
          by_cases e : g = j
          · rw [e] at g3
            rcases g3 with g3 | g3
            · exact absurd g3 m1
            · exact absurd g3 m2
          · exact v2.mp t g (by omega) g2 g3
theorem sl_214_79 {x w v : Int} {y a b : Nat} (hx : -1 ≤ x ∧ x ≤ 2) (hy : y < 4) (hb : b < 3) (hm : ∀ g, g < 3 → (mt x g ↔ a ≤ g ∧ g ≤ b)) : ∀ (n j : Nat) (s : gx_S), 3 < n + j → j ≤ 3 → ∃ u : gx_S, gm_214_79 n x y w v j s = some (v, u) ∧ u.2 = s.2 ∧ (∀ k i, k ≠ 216 → u.1 k i = s.1 k i) ∧ ∀ i, u.1 216 i = if 32 + 4 * j + y ≤ i ∧ 32 + 4 * a + y ≤ i ∧ i ≤ 32 + 4 * b + y ∧ (i - 32 - y) % 4 = 0 then w else s.1 216 i := by
  intro n
  induction n with
  | zero => intro j s h; omega
  | succ n ih =>
    intro j s h hj
    rw [gm_214_79, if_pos (by omega)]
    by_cases q : j = 3
    · rw [if_pos (by omega)]
      exact ⟨s, rfl, rfl, fun _ _ _ => rfl, fun i => by rw [if_neg (by omega)]⟩
    · have ce : ((j : Int) + 1) = ((j + 1 : Nat) : Int) := rfl
      have i1 : ((32 + (4 * (j : Int))) + (y : Int)).toNat = 32 + 4 * j + y := by omega
      have hit : mt x j → ∃ u : gx_S, gm_214_96 (gm_214_79 n) x y w v j s = some (v, u) ∧ u.2 = s.2 ∧ (∀ k i, k ≠ 216 → u.1 k i = s.1 k i) ∧ ∀ i, u.1 216 i = if 32 + 4 * j + y ≤ i ∧ 32 + 4 * a + y ≤ i ∧ i ≤ 32 + 4 * b + y ∧ (i - 32 - y) % 4 = 0 then w else s.1 216 i := fun m => by
        have m' := (hm j (by omega)).mp m
        unfold gm_214_96 gm_214_111
        rw [if_pos (by omega), i1, ce]
        obtain ⟨u, u1, u2, u3, u4⟩ := ih (j + 1) (gw1 s 216 (32 + 4 * j + y) w) (by omega) (by omega)
        refine ⟨u, u1, u2, fun k i h1 => by rw [u3 k i h1, gw1_1, if_neg (fun t => h1 t.1)], fun i => ?_⟩
        rw [u4, gw1_1]
        by_cases z : i = 32 + 4 * j + y
        · rw [if_neg (show ¬ (32 + 4 * (j + 1) + y ≤ i ∧ 32 + 4 * a + y ≤ i ∧ i ≤ 32 + 4 * b + y ∧ (i - 32 - y) % 4 = 0) by omega), if_pos ⟨rfl, z⟩, if_pos (show 32 + 4 * j + y ≤ i ∧ 32 + 4 * a + y ≤ i ∧ i ≤ 32 + 4 * b + y ∧ (i - 32 - y) % 4 = 0 by omega)]
        · rw [if_neg (show ¬ ((216 : Nat) = 216 ∧ i = 32 + 4 * j + y) from fun t => z t.2)]
          by_cases z2 : 32 + 4 * (j + 1) + y ≤ i ∧ 32 + 4 * a + y ≤ i ∧ i ≤ 32 + 4 * b + y ∧ (i - 32 - y) % 4 = 0
          · rw [if_pos z2, if_pos (show 32 + 4 * j + y ≤ i ∧ 32 + 4 * a + y ≤ i ∧ i ≤ 32 + 4 * b + y ∧ (i - 32 - y) % 4 = 0 by omega)]
          · rw [if_neg z2, if_neg (show ¬ (32 + 4 * j + y ≤ i ∧ 32 + 4 * a + y ≤ i ∧ i ≤ 32 + 4 * b + y ∧ (i - 32 - y) % 4 = 0) by omega)]
      rw [if_neg (by omega), if_pos (by omega)]
      by_cases m1 : x = -1
      · rw [if_pos m1]
        exact hit (.inl m1)
      · rw [if_neg m1]
        by_cases m2 : x = (j : Int)
        · rw [if_neg (fun t => t m2)]
          exact hit (.inr m2)
        · rw [if_pos m2]
          have nm : ¬ (a ≤ j ∧ j ≤ b) := fun t => by
            rcases (hm j (by omega)).mpr t with t | t
            · exact m1 t
            · exact m2 t
          unfold gm_214_111
          rw [ce]
          obtain ⟨u, u1, u2, u3, u4⟩ := ih (j + 1) s (by omega) (by omega)
          refine ⟨u, u1, u2, u3, fun i => ?_⟩
          rw [u4]
          by_cases z2 : 32 + 4 * (j + 1) + y ≤ i ∧ 32 + 4 * a + y ≤ i ∧ i ≤ 32 + 4 * b + y ∧ (i - 32 - y) % 4 = 0
          · rw [if_pos z2, if_pos (show 32 + 4 * j + y ≤ i ∧ 32 + 4 * a + y ≤ i ∧ i ≤ 32 + 4 * b + y ∧ (i - 32 - y) % 4 = 0 by omega)]
          · rw [if_neg z2, if_neg (show ¬ (32 + 4 * j + y ≤ i ∧ 32 + 4 * a + y ≤ i ∧ i ≤ 32 + 4 * b + y ∧ (i - 32 - y) % 4 = 0) by omega)]
theorem inv_weigh {s : gx_S} (h : INV s) {x y z : Int} (hx : i32 x) (hy : i32 y) (hz : i32 z) : two s (gm_89 x y z) (gm_214 x y z) := by
  obtain ⟨f, R, C, n, pf, L, tb, c, r, v⟩ := id h
  have hx' := hx
  have hy' := hy
  have hz' := hz
  unfold i32 at hx' hy' hz'
  have c1 : gm_89 x y z s = if -1 ≤ x ∧ x ≤ 2 then gm_89_12 x y z s else some (-1, s) := by
    unfold gm_89
    rw [if_pos hx']
    by_cases a : x = -1
    · rw [if_pos a, if_pos (by omega)]
    · rw [if_neg a, sp_114 s hx, Option.bind_some]
      by_cases b : 0 ≤ x ∧ x < 3
      · rw [if_neg (fun q => (gbD s).mp q b), if_pos (by omega)]
      · rw [if_pos ((gbD s).mpr b), if_neg (by omega)]
  by_cases a : -1 ≤ x ∧ x ≤ 2
  · have c2 : gm_89_12 x y z s = if (0 ≤ y ∧ y < 4) ∧ 0 ≤ z ∧ z ≤ 9 then gm_89_41 x y z (if x = -1 then 0 else x) s else some (-1, s) := by
      unfold gm_89_12
      rw [sp_116 s hy, Option.bind_some]
      by_cases b : 0 ≤ y ∧ y < 4
      · rw [if_neg (fun q => (gbD s).mp q b), if_pos hz']
        by_cases d : z < 0
        · rw [if_pos d, if_neg (fun t => by omega)]
        · rw [if_neg d]
          by_cases d2 : z ≤ 9
          · rw [if_pos d2, if_pos hx', if_pos (show (0 ≤ y ∧ y < 4) ∧ 0 ≤ z ∧ z ≤ 9 from ⟨b, by omega, d2⟩)]
            by_cases m1 : x = -1
            · rw [if_neg (fun t => t m1), if_pos m1]
            · rw [if_pos m1, if_neg m1]
          · rw [if_neg d2, if_neg (fun t => d2 t.2.2)]
      · rw [if_pos ((gbD s).mpr b), if_neg (fun t => b t.1)]
    by_cases b : (0 ≤ y ∧ y < 4) ∧ 0 ≤ z ∧ z ≤ 9
    · obtain ⟨y', rfl⟩ : ∃ y' : Nat, y = y' := ⟨y.toNat, by omega⟩
      have y4 : y' < 4 := by omega
      obtain ⟨aa, bb, hab, hbb, ea, eb, hm⟩ : ∃ aa bb : Nat, aa ≤ bb ∧ bb < 3 ∧ (if x = -1 then (0 : Int) else x) = aa ∧ (if ¬ x = -1 then x else (2 : Int)) = bb ∧ ∀ g, g < 3 → (mt x g ↔ aa ≤ g ∧ g ≤ bb) := by
        by_cases m1 : x = -1
        · refine ⟨0, 2, by omega, by omega, if_pos m1, if_neg (fun t => t m1), fun g hg => ?_⟩
          unfold mt
          omega
        · refine ⟨x.toNat, x.toNat, by omega, by omega, (if_neg m1).trans (by omega), (if_pos m1).trans (by omega), fun g hg => ?_⟩
          unfold mt
          omega
      have wr : ∀ i, i < 12 → s.1 4 i = f (32 + i) ∧ 0 ≤ f (32 + i) ∧ f (32 + i) ≤ 9 := fun i hi => by
        have e := c.1.2.2.2.2.2.2.1 i hi
        rw [show (1 : Nat) + 3 = 4 from rfl] at e
        exact ⟨e, v.1.2.2.2.2.2.1 i hi⟩
      have c3 : gm_89_41 x y' z (if x = -1 then 0 else x) s = gm_89_62 100000 y' z aa bb 1 aa s := by
        unfold gm_89_41 gm_89_53
        rw [if_pos hx', ea]
        by_cases m1 : x = -1
        · rw [if_neg (fun t => t m1)] at eb ⊢
          rw [← eb]
        · rw [if_pos m1] at eb ⊢
          rw [eb]
      obtain ⟨k0, c4, c5⟩ := sl_89_62 (s := s) (x := z) y4 hab hbb hz (fun i hi => by
        have := wr i hi
        unfold i32
        omega) 100000 aa 1 (by omega) (Nat.le_refl aa) (by omega) (.inr rfl)
      have r0 : ∀ t : gx_S, t.1 216 = f → ∃ q : Bool, gm_214 x y' z t = (if q = true then some (-2, t) else (gm_132 t).bind fun q45 => gm_214_79 100000 x y' z (q45.1 216 (32 + 4 * aa + y')) 0 q45) ∧ (q = true ↔ ∀ g, aa ≤ g → g ≤ bb → s.1 4 (4 * g + y') = z) := fun t ht => by
        obtain ⟨q, q1, q2⟩ := sl_213 (x := x) (w := z) (s := t) a y4 hz (fun i hi => by
          rw [ht]
          have := wr i hi
          unfold i32
          omega) 100000 0 (by omega) (by omega)
        have q1 : gm_213_3 100000 x y' z 0 t = some (q, t) := q1
        have im : ((32 + (4 * (if 0 < x then x else 0))) + (y' : Int)) = ((32 + 4 * aa + y' : Nat) : Int) := by
          by_cases m1 : x = -1
          · rw [if_pos m1] at ea
            rw [if_neg (by omega)]
            omega
          · rw [if_neg m1] at ea
            by_cases m2 : 0 < x
            · rw [if_pos m2]
              omega
            · rw [if_neg m2]
              omega
        refine ⟨q, ?_, q2.trans ⟨fun w g g1 g2 => ?_, fun w g g1 g2 g3 => ?_⟩⟩
        · unfold gm_214 gm_213
          rw [if_pos hx', in_ t hx (by omega) (by omega), Option.bind_some, if_neg (fun q => (gbD t).mp q (by omega)), if_pos hy', in_ t hy (by omega) (by omega), Option.bind_some, if_neg (fun q => (gbD t).mp q (by omega)), if_pos hz', in_ t hz (by omega) (by omega), Option.bind_some, if_pos (fun q => (gbD t).mp q (by omega))]
          show ((gm_213_3 100000 x y' z 0 t).bind _) = _
          rw [q1, Option.bind_some, im]
          cases q with
          | true => rw [if_neg (show ¬ gb (true, t).1 = 0 from (by decide : ¬ gb true = 0)), if_pos rfl]
          | false =>
            rw [if_pos (show gb (false, t).1 = 0 from (by decide : gb false = 0)), if_neg Bool.false_ne_true]
            have en : (((32 + 4 * aa + y' : Nat) : Int)).toNat = 32 + 4 * aa + y' := by omega
            have eb' : (0 ≤ (((32 + 4 * aa + y' : Nat) : Int)) ∧ (((32 + 4 * aa + y' : Nat) : Int)) < 340) := by omega
            simp only [en, if_pos eb']
        · have := w g (by omega) (by omega) ((hm g (by omega)).mpr ⟨g1, g2⟩)
          rw [ht] at this
          rw [(wr (4 * g + y') (by omega)).1, show 32 + (4 * g + y') = 32 + 4 * g + y' by omega]
          exact this
        · have g4 := (hm g g2).mp g3
          have := w g g4.1 g4.2
          rw [(wr (4 * g + y') (by omega)).1, show 32 + (4 * g + y') = 32 + 4 * g + y' by omega] at this
          rw [ht]
          exact this
      unfold two
      rw [c1, if_pos a, c2, if_pos b, c3, c4]
      by_cases d : ∀ g, aa ≤ g → g ≤ bb → s.1 4 (4 * g + y') = z
      · obtain ⟨q, q1, q2⟩ := r0 s r.1
        rw [if_pos (c5.mpr ⟨rfl, d⟩)]
        exact ⟨-2, s, s, rfl, by rw [q1, if_pos (q2.mpr d)], h⟩
      · rw [if_neg (fun t => d (c5.mp t).2)]
        obtain ⟨u, u1, u2, u3, u4⟩ := act_pre c r v
        rw [u1, Option.bind_some]
        obtain ⟨u', p1, p2, p3, p4⟩ := sl_89_137 (a := aa) (x := z) (v := s.1 4 (4 * aa + y')) y4 hbb 100000 aa u (by omega) (by omega)
        obtain ⟨g1, w, w1, w2, w3⟩ := u4 u' (fun k j q => p3 k j (by omega)) p2
        obtain ⟨q, q1, q2⟩ := r0 u' g1
        have qf : ¬ q = true := fun t => d (q2.mp t)
        obtain ⟨w', t1, t2, t3, t4⟩ := sl_214_79 (x := x) (w := z) (v := w.1 216 (32 + 4 * aa + y')) a y4 hbb hm 100000 0 w (by omega) (by omega)
        have t1 : gm_214_79 100000 x y' z (w.1 216 (32 + 4 * aa + y')) 0 w = _ := t1
        refine ⟨s.1 4 (4 * aa + y'), u', w', p1, ?_, w3 w' (fw f aa bb y' z) R C t3 t2 ?_ ?_ fun i hi => ?_⟩
        · rw [q1, if_neg qf, w1, Option.bind_some, t1, w2, (wr (4 * aa + y') (by omega)).1, show 32 + (4 * aa + y') = 32 + 4 * aa + y' by omega]
        · obtain ⟨m1, m2, m3, m4, m5, m6, m7, m8, m10⟩ := v.1
          have o : ∀ q, ¬ (32 ≤ q ∧ q < 44) → fw f aa bb y' z q = f q := fun q hq => if_neg (by omega)
          refine ⟨by rw [o 0 (by omega), o 1 (by omega)]; exact m1, by rw [o 2 (by omega)]; exact m2, by rw [o 3 (by omega)]; exact m3, by rw [o 4 (by omega)]; exact m4, fun g hg => ⟨fun i hi => by rw [o _ (by omega)]; exact (m5 g hg).1 i hi, ?_⟩, fun i hi => ?_, fun i hi => by rw [o _ (by omega)]; exact m7 i hi, fun l hl b' k hk => ?_, by rw [o 2 (by omega)]; exact m10⟩
          · rw [sg_eq (g := fun z => f (5 + 9 * g + z)) fun z hz => o _ (by omega)]
            exact (m5 g hg).2
          · unfold fw
            split
            · omega
            · exact m6 i hi
          · rw [o _ (by omega)]
            rw [o 2 (by omega)] at b'
            exact m8 l hl b' k hk
        · obtain ⟨m1, m2, m3, m4, m5, m6, m7, m8, m9⟩ := u2
          have o : ∀ q, ¬ (32 ≤ q ∧ q < 44) → fw f aa bb y' z q = f q := fun q hq => if_neg (by omega)
          refine ⟨by rw [p3 _ _ (by omega), o 0 (by omega)]; exact m1, by rw [p3 _ _ (by omega), o 1 (by omega)]; exact m2, by rw [p3 _ _ (by omega), o 2 (by omega)]; exact m3, by rw [p3 _ _ (by omega), o 3 (by omega)]; exact m4, by rw [p3 _ _ (by omega), o 4 (by omega)]; exact m5, fun i hi => by rw [p3 _ _ (by omega), o _ (by omega)]; exact m6 i hi, fun i hi => ?_, fun i hi => by rw [p3 _ _ (by omega), o _ (by omega)]; exact m8 i hi, fun l hl b' k hk => ?_⟩
          · have e7 := m7 i hi
            rw [show (1 : Nat) + 3 = 4 from rfl] at e7 ⊢
            rw [p4]
            unfold fw
            by_cases t : 4 * aa + y' ≤ i ∧ i ≤ 4 * bb + y' ∧ (i - y') % 4 = 0
            · rw [if_pos t, if_pos (by omega)]
            · rw [if_neg t, if_neg (by omega)]
              exact e7
          · rw [o 2 (by omega)] at b'
            rw [p3 _ _ (by omega), o _ (by omega)]
            exact m9 l hl b' k hk
        · rw [t4, w2]
          unfold fw
          by_cases t : 32 + 4 * aa + y' ≤ i ∧ i ≤ 32 + 4 * bb + y' ∧ (i - 32 - y') % 4 = 0
          · rw [if_pos (by omega), if_pos t]
          · rw [if_neg (by omega), if_neg t]
    · unfold two
      rw [c1, if_pos a, c2, if_neg b]
      refine ⟨-1, s, s, rfl, ?_, h⟩
      unfold gm_214
      rw [if_pos hx', in_ s hx (by omega) (by omega), Option.bind_some, if_neg (fun q => (gbD s).mp q (by omega)), if_pos hy', in_ s hy (by omega) (by omega), Option.bind_some]
      by_cases d : 0 ≤ y ∧ y ≤ 3
      · rw [if_neg (fun q => (gbD s).mp q d), if_pos hz', in_ s hz (by omega) (by omega), Option.bind_some, if_neg (fun q => q ((gbD s).mpr (by omega)))]
      · rw [if_pos ((gbD s).mpr d)]
  · unfold two
    rw [c1, if_neg a]
    refine ⟨-1, s, s, rfl, ?_, h⟩
    unfold gm_214
    rw [if_pos hx', in_ s hx (by omega) (by omega), Option.bind_some, if_pos ((gbD s).mpr (by omega))]
end
section
/-! CALLS: adopt -/
theorem CV_ready {s : gx_S} {f : Nat → Int} {R C n L g w : Nat} {pf : Nat → Nat → Int} {tb : Nat → Int} (hw : w = 2 ∨ w = 4 ∨ w = 8 ∨ w = 16 ∨ w = 32) (M : MP f R C) (h7 : f 2 = 7) (hg : g < 3) (c : CV s f R C n pf L tb) : ∃ (D : Nat) (u : gx_S), gm_19 (71 + 48 * g) w s = some u ∧ CV u f R C n pf L tb ∧ KG (71 + 48 * g) s u ∧ GGD u f R C g (71 + 48 * g) D ∧ D / w % 2 = 1 ∧ (w = 2 ∨ w = 4 ∨ w = 32 → D / 2 % 2 = 1 ∧ D / 1 % 2 = 1) := by
  obtain ⟨c1, c2, c3, c4, c5⟩ := c
  obtain ⟨D0, d0⟩ := c2 g hg
  have a := ga_of hg
  obtain ⟨D, u, u1, u2, u3, u4, u5⟩ := sp_19 hw c1 M h7 hg a d0
  refine ⟨D, u, u1, ⟨KG_MR a u2 c1, fun g' hg' => ?_, HC_o (fun k j q1 q2 => u2.2 k j (by omega) (by omega)) c3, (u2.2 _ _ (by omega) (by omega)).trans c4, fun i hi => (u2.2 _ _ (by omega) (by omega)).trans (c5 i hi)⟩, u2, u3, u4, u5⟩
  by_cases e : g' = g
  · rw [e]
    exact ⟨D, u3⟩
  · obtain ⟨D', d'⟩ := c2 g' hg'
    exact ⟨D', GGD_o (fun k j q1 q2 => u2.2 k j (by omega) (by omega)) d'⟩
/-- the moves and who is left aside are there -/
def MV (s : gx_S) (f : Nat → Int) (R C g : Nat) : Prop := TM s (71 + 48 * g + 3) f R C g ∧ s.1 (71 + 48 * g) 7 = ASf f R C g
theorem MV_o {s u : gx_S} {f : Nat → Int} {R C g : Nat} (o : ∀ k j, 71 + 48 * g ≤ k → k < 71 + 48 * g + 48 → ¬ (k = 71 + 48 * g ∧ j = 8) → u.1 k j = s.1 k j) (h : MV s f R C g) : MV u f R C g := ⟨TM_o (fun k j q1 q2 => o k j (by omega) (by omega) (by omega)) h.1, (o _ _ (by omega) (by omega) (by omega)).trans h.2⟩
theorem sl_93_14 {f : Nat → Int} {R C n L : Nat} {pf : Nat → Nat → Int} {tb : Nat → Int} (M : MP f R C) (h7 : f 2 = 7) : ∀ (m j : Nat) (s : gx_S), 3 < m + j → j ≤ 3 → CV s f R C n pf L tb → (∀ g, g < j → MV s f R C g) → ∃ u : gx_S, gm_93_14 m j s = ((gm_119 u).bind fun q4 => gm_93_44 100000 0 0 q4) ∧ CV u f R C n pf L tb ∧ KC s u ∧ ∀ g, g < 3 → MV u f R C g := by
  intro m
  induction m with
  | zero => intro j s h; omega
  | succ m ih =>
    intro j s h hj c hm
    rw [gm_93_14, if_pos (by omega)]
    by_cases q : j = 3
    · rw [if_pos (by omega)]
      exact ⟨s, rfl, c, KC_rf s, fun g hg => hm g (by omega)⟩
    · have hj' : j < 3 := by omega
      have ce : ((j : Int) + 1) = ((j + 1 : Nat) : Int) := rfl
      have i5 : ((j : Int)).toNat = j := by omega
      obtain ⟨D, t, t1, t2, t3, t4, t5, t6⟩ := CV_ready (w := 2) (.inl rfl) M h7 hj' c
      have t1 : gm_19 (71 + 48 * j) 2 s = some t := t1
      rw [if_neg (by omega), if_pos (by omega), i5, rf70 j hj', Option.bind_some, t1, Option.bind_some, ce]
      obtain ⟨_, _, _, g1, g2, _⟩ := t4
      have a := ga_of hj'
      obtain ⟨u, u1, u2, u3, u4⟩ := ih (j + 1) t (by omega) (by omega) t2 fun g hg => by
        by_cases e : g = j
        · rw [e]
          exact ⟨(g2 (t6 (.inl rfl)).1).2, (g1 (t6 (.inl rfl)).2).2.2⟩
        · exact MV_o (fun k j' q1 q2 _ => t3.2 k j' (by omega) (by omega)) (hm g (by omega))
      exact ⟨u, u1, u2, KC_tr (KG_KC a t3) u3, u4⟩
/-- what is counted behind adopt -/
def cn (f : Nat → Int) (R C g z : Nat) : Int := sg (fun x => GV f R C g x z) 8 + if z = 8 then ASf f R C g else 0
theorem sl_122 {f : Nat → Int} {R C g : Nat} (hg : g < 3) : ∀ (m j : Nat) (x : Int) (s : gx_S), 8 < m + j → j ≤ 8 → MV s f R C g → ∃ u : gx_S, gm_122_12 m g (71 + 48 * g) x j s = some (x + (sg (fun z => sg (fun x => GV f R C g x z) 8) 8 - sg (fun z => sg (fun x => GV f R C g x z) 8) j), u) ∧ u.2 = s.2 ∧ (∀ k i, k ≠ 3 → u.1 k i = s.1 k i) ∧ ∀ i, u.1 3 i = if 9 * g + j ≤ i ∧ i < 9 * g + 9 then cn f R C g (i - 9 * g) else s.1 3 i := by
  obtain ⟨_, t3, _⟩ := ga_g g hg
  intro m
  induction m with
  | zero => intro j x s h; omega
  | succ m ih =>
    intro j x s h hj V
    have col : ∀ y : Nat, y < 9 → gm_76 (71 + 48 * g + 3) y s = some (sg (fun x => GV f R C g x y) 8, s) := fun y hy => by
      rw [sp_76 t3 hy, sg_eq (g := fun x => GV f R C g x y) fun x hx => ((V.1.1 x hx).2.2 y hy).2.2.2]
    rw [gm_122_12, if_pos (by omega)]
    by_cases q : j = 8
    · have c8 := col 8 (by omega)
      have c8 : gm_76 (71 + 48 * g + 3) 8 s = _ := c8
      have i1 : (((g : Int) * 9) + 8).toNat = 9 * g + 8 := by omega
      rw [if_pos (by omega), c8, Option.bind_some, if_pos (by omega), i1]
      refine ⟨gw1 s 3 (9 * g + 8) (cn f R C g 8), ?_, rfl, fun k i h1 => by rw [gw1_1, if_neg (fun t => h1 t.1)], fun i => ?_⟩
      · have e : sg (fun x => GV f R C g x 8) 8 + s.1 (71 + 48 * g) 7 = cn f R C g 8 := by
          rw [V.2]
          rfl
        show some (x, gw1 s 3 (9 * g + 8) (sg (fun x => GV f R C g x 8) 8 + s.1 (71 + 48 * g) 7)) = _
        rw [e, q, Int.sub_self, Int.add_zero]
      · rw [gw1_1]
        by_cases z : i = 9 * g + 8
        · rw [if_pos ⟨rfl, z⟩, if_pos (by omega), z, show 9 * g + 8 - 9 * g = 8 by omega]
        · rw [if_neg (fun t => z t.2), if_neg (by omega)]
    · have ce : ((j : Int) + 1) = ((j + 1 : Nat) : Int) := rfl
      have i1 : (((g : Int) * 9) + (j : Int)).toNat = 9 * g + j := by omega
      rw [if_neg (by omega), col j (by omega), Option.bind_some, if_pos (by omega), i1, ce]
      have o : ∀ k i, k ≠ 3 → (gw1 s 3 (9 * g + j) (sg (fun x => GV f R C g x j) 8)).1 k i = s.1 k i := fun k i h1 => by rw [gw1_1, if_neg (fun t => h1 t.1)]
      obtain ⟨u, u1, u2, u3, u4⟩ := ih (j + 1) (x + sg (fun x => GV f R C g x j) 8) (gw1 s 3 (9 * g + j) (sg (fun x => GV f R C g x j) 8)) (by omega) (by omega) (MV_o (fun k i q1 q2 _ => o k i (by omega)) V)
      refine ⟨u, ?_, u2, fun k i h1 => (u3 k i h1).trans (o k i h1), fun i => ?_⟩
      · have e : sg (fun z => sg (fun x => GV f R C g x z) 8) (j + 1) = sg (fun z => sg (fun x => GV f R C g x z) 8) j + sg (fun x => GV f R C g x j) 8 := rfl
        rw [e] at u1
        show gm_122_12 m g (71 + 48 * g) (x + sg (fun x => GV f R C g x j) 8) ((j + 1 : Nat) : Int) (gw1 s 3 (9 * g + j) (sg (fun x => GV f R C g x j) 8)) = _
        rw [u1]
        congr 2
        omega
      · rw [u4, gw1_1]
        by_cases z : i = 9 * g + j
        · rw [if_neg (by omega), if_pos ⟨rfl, z⟩, if_pos (by omega), z, show 9 * g + j - 9 * g = j by omega]
          unfold cn
          rw [if_neg q, Int.add_zero]
        · by_cases z2 : 9 * g + (j + 1) ≤ i ∧ i < 9 * g + 9
          · rw [if_pos z2, if_pos (by omega)]
          · rw [if_neg z2, if_neg (fun t => z t.2), if_neg (by omega)]
/-- all who are moved into zones -/
def inz (f : Nat → Int) (R C g : Nat) : Int := sg (fun z => sg (fun x => GV f R C g x z) 8) 8
theorem sl_93_44 {f : Nat → Int} {R C : Nat} : ∀ (m j : Nat) (x : Int) (s : gx_S), 3 < m + j → j ≤ 3 → (∀ g, g < 3 → MV s f R C g) → ∃ u : gx_S, gm_93_44 m x j s = some (x + (sg (inz f R C) 3 - sg (inz f R C) j), gcp u 2 96 2 0 96) ∧ u.2 = s.2 ∧ (∀ k i, k ≠ 3 → u.1 k i = s.1 k i) ∧ ∀ i, u.1 3 i = if 9 * j ≤ i ∧ i < 27 then cn f R C (i / 9) (i % 9) else s.1 3 i := by
  intro m
  induction m with
  | zero => intro j x s h; omega
  | succ m ih =>
    intro j x s h hj V
    rw [gm_93_44, if_pos (by omega)]
    by_cases q : j = 3
    · rw [if_pos (by omega)]
      refine ⟨s, ?_, rfl, fun _ _ _ => rfl, fun i => by rw [if_neg (by omega)]⟩
      rw [q, Int.sub_self, Int.add_zero]
    · have hj' : j < 3 := by omega
      have ce : ((j : Int) + 1) = ((j + 1 : Nat) : Int) := rfl
      have i5 : ((j : Int)).toNat = j := by omega
      obtain ⟨t, t1, t2, t3, t4⟩ := sl_122 hj' 100000 0 0 s (by omega) (by omega) (V j hj')
      have t1 : gm_122_12 100000 j (71 + 48 * j) 0 0 s = some (0 + (inz f R C j - 0), t) := t1
      have st : gm_122 j s = some (inz f R C j, t) := by
        unfold gm_122
        rw [if_pos (by omega), i5, rf70 j hj', Option.bind_some, t1]
        congr 2
        omega
      rw [if_neg (by omega), st, Option.bind_some, ce]
      obtain ⟨u, u1, u2, u3, u4⟩ := ih (j + 1) (x + inz f R C j) t (by omega) (by omega) fun g hg => MV_o (fun k i q1 q2 _ => t3 k i (by omega)) (V g hg)
      refine ⟨u, ?_, u2.trans t2, fun k i h1 => (u3 k i h1).trans (t3 k i h1), fun i => ?_⟩
      · have e : sg (inz f R C) (j + 1) = sg (inz f R C) j + inz f R C j := rfl
        rw [e] at u1
        show gm_93_44 m (x + inz f R C j) ((j + 1 : Nat) : Int) t = _
        rw [u1]
        congr 2
        omega
      · rw [u4, t4]
        by_cases z : 9 * (j + 1) ≤ i ∧ i < 27
        · rw [if_pos z, if_pos (by omega)]
        · rw [if_neg z]
          by_cases z2 : 9 * j + 0 ≤ i ∧ i < 9 * j + 9
          · rw [if_pos z2, if_pos (by omega), show i / 9 = j by omega, show i % 9 = i - 9 * j by omega]
          · rw [if_neg z2, if_neg (by omega)]
theorem sp_176 {s : gx_S} {R C g : Nat} (M : MP (s.1 216) R C) (hg : g < 3) : gm_176 g s = some (ASf (s.1 216) R C g, s) := by
  obtain ⟨v, v1, v2⟩ := sp_175 M
  unfold gm_176 ASf
  rw [v1, Option.bind_some]
  cases v with
  | true => rw [if_neg (show ¬ gb (true, s).1 = 0 from (by decide : ¬ gb true = 0)), if_pos (v2.mp rfl)]
  | false =>
    rw [if_pos (show gb (false, s).1 = 0 from (by decide : gb false = 0)), if_neg (fun h => Bool.false_ne_true (v2.mpr h))]
    show ((gm_174 g s).bind _) = _
    rw [sp_174 M hg, Option.bind_some]
/-- the reference's cells of what is adopted alone, beside its scratch -/
theorem KR_245 (s : gx_S) (i : Nat) (v : Int) : KRw s (gw1 s 245 i v) := by
  have o : ∀ k j, k ≠ 245 → (gw1 s 245 i v).1 k j = s.1 k j := fun k j h => by rw [gw1_1, if_neg (fun t => h t.1)]
  refine ⟨fun k j q => o k j (by omega), fun _ _ _ => rfl, fun S => ⟨fun j hj => ?_, fun c hc => ?_, S.2.2⟩⟩
  · rw [o 232 j (by decide), o 233 j (by decide), o 234 j (by decide)]
    exact S.1 j hj
  · rw [o 235 c (by decide)]
    exact S.2.1 c hc
theorem sl_217_29 {f : Nat → Int} {R C g : Nat} (k : Int → Int → gx_S → Option (Int × gx_S)) (M : MP f R C) (hg : g < 3) : ∀ (m j : Nat) (x : Int) (s : gx_S), 9 < m + j → j ≤ 9 → s.1 216 = f → s.1 215 17 = 8 → (∀ x y, x < 8 → y < 9 → s.2 224 (9 * x + y) = GV f R C g x y) → (∀ z, z < j → s.1 245 (9 * g + z) = sg (fun x => GV f R C g x z) 8) → ∃ u : gx_S, gm_217_29 k m x g j s = k (x + (inz f R C g - sg (fun z => if z < 8 then sg (fun x => GV f R C g x z) 8 else 0) j)) ((g + 1 : Nat) : Int) u ∧ KRw s u ∧ (∀ z, z < 9 → u.1 245 (9 * g + z) = cn f R C g z) ∧ ∀ i, ¬ (9 * g ≤ i ∧ i < 9 * g + 9) → u.1 245 i = s.1 245 i := by
  intro m
  induction m with
  | zero => intro j x s h; omega
  | succ m ih =>
    intro j x s h hj ef e17 hT hz
    have col : ∀ (t : gx_S) (y : Nat), t.1 215 17 = 8 → t.2 = s.2 → y < 9 → gm_183 y t = some (sg (fun x => GV f R C g x y) 8, t) := fun t y e1 e2 hy => by
      rw [sp_183 (R := 8) e1 (by omega) hy, sg_eq (g := fun x => GV f R C g x y) fun x hx => by rw [e2]; exact hT x y hx hy]
    rw [gm_217_29, if_pos (by omega)]
    by_cases q : j = 9
    · have i1 : ((9 * (g : Int)) + 8).toNat = 9 * g + 8 := by omega
      have ce : ((g : Int) + 1) = ((g + 1 : Nat) : Int) := rfl
      have c76 := sp_176 (s := s) (R := R) (C := C) (by rw [ef]; exact M) hg
      rw [ef] at c76
      rw [if_pos (by omega), if_pos (by omega), c76, Option.bind_some, i1, ce, hz 8 (by omega)]
      refine ⟨gw1 s 245 (9 * g + 8) (sg (fun x => GV f R C g x 8) 8 + ASf f R C g), ?_, KR_245 s _ _, fun z hz' => ?_, fun i hi => by rw [gw1_1, if_neg (by omega)]⟩
      · have e : sg (fun z => if z < 8 then sg (fun x => GV f R C g x z) 8 else 0) 9 = inz f R C g := by
          rw [sg_cut0 (m := 8) (by omega) fun k h1 h2 => if_neg (by omega)]
          exact sg_eq fun z hz => if_pos hz
        rw [q, e, Int.sub_self, Int.add_zero]
      · unfold cn
        rw [gw1_1]
        by_cases z8 : z = 8
        · rw [if_pos ⟨rfl, by omega⟩, if_pos z8, z8]
        · rw [if_neg (by omega), if_neg z8, Int.add_zero]
          exact hz z (by omega)
    · have ce : ((j : Int) + 1) = ((j + 1 : Nat) : Int) := rfl
      have i1 : ((9 * (g : Int)) + (j : Int)).toNat = 9 * g + j := by omega
      rw [if_neg (by omega), col s j e17 rfl (by omega), Option.bind_some, if_pos (by omega), i1]
      obtain ⟨t, ht⟩ : ∃ t, t = gw1 s 245 (9 * g + j) (sg (fun x => GV f R C g x j) 8) := ⟨_, rfl⟩
      have to : ∀ k i, ¬ (k = 245 ∧ i = 9 * g + j) → t.1 k i = s.1 k i := fun k i h1 => by rw [ht, gw1_1, if_neg h1]
      have t2 : t.2 = s.2 := by rw [ht]; rfl
      have tk : KRw s t := by rw [ht]; exact KR_245 s _ _
      have tz : ∀ z, z < j + 1 → t.1 245 (9 * g + z) = sg (fun x => GV f R C g x z) 8 := fun z hz' => by
        by_cases e : z = j
        · rw [ht, e, gw1_1, if_pos ⟨rfl, rfl⟩]
        · rw [to _ _ (by omega)]
          exact hz z (by omega)
      have sgs : sg (fun z => if z < 8 then sg (fun x => GV f R C g x z) 8 else 0) (j + 1) = sg (fun z => if z < 8 then sg (fun x => GV f R C g x z) 8 else 0) j + if j < 8 then sg (fun x => GV f R C g x j) 8 else 0 := rfl
      have go : ∀ v : Int, v = (if j < 8 then sg (fun x => GV f R C g x j) 8 else 0) → ∃ u : gx_S, gm_217_67 (gm_217_29 k m) g j x v t = k (x + (inz f R C g - sg (fun z => if z < 8 then sg (fun x => GV f R C g x z) 8 else 0) j)) ((g + 1 : Nat) : Int) u ∧ KRw s u ∧ (∀ z, z < 9 → u.1 245 (9 * g + z) = cn f R C g z) ∧ ∀ i, ¬ (9 * g ≤ i ∧ i < 9 * g + 9) → u.1 245 i = s.1 245 i := fun v hv => by
        unfold gm_217_67
        rw [ce]
        obtain ⟨u, u1, u2, u3, u4⟩ := ih (j + 1) (x + v) t (by omega) (by omega) ((KRw_216 tk).trans ef) ((to _ _ (by omega)).trans e17) (fun x y hx hy => by rw [t2]; exact hT x y hx hy) tz
        refine ⟨u, ?_, KRw_tr tk u2, u3, fun i hi => (u4 i hi).trans (to _ _ (by omega))⟩
        rw [u1, sgs, ← hv]
        congr 1
        omega
      show ∃ u : gx_S, (if 8 ≤ (j : Int) then gm_217_67 (gm_217_29 k m) g j x 0 (gw1 s 245 (9 * g + j) (sg (fun x => GV f R C g x j) 8)) else ((gm_183 j (gw1 s 245 (9 * g + j) (sg (fun x => GV f R C g x j) 8))).bind fun q17 => gm_217_67 (gm_217_29 k m) g j x q17.1 q17.2)) = _ ∧ _
      rw [← ht]
      by_cases z8 : j = 8
      · rw [if_pos (by omega)]
        exact go 0 (by rw [if_neg (by omega)])
      · rw [if_neg (by omega), col t j ((to _ _ (by omega)).trans e17) t2 (by omega), Option.bind_some]
        exact go _ (by rw [if_pos (by omega)])
theorem sl_217_13 {f : Nat → Int} {R C : Nat} (M : MP f R C) (h7 : f 2 = 7) : ∀ (m j : Nat) (x : Int) (s : gx_S), 3 < m + j → j ≤ 3 → s.1 216 = f → SC s → (∀ g z, g < j → z < 9 → s.1 245 (9 * g + z) = cn f R C g z) → ∃ u : gx_S, gm_217_13 m x j s = ((gm_132 u).bind fun q4 => gm_217_107 100000 (x + (sg (inz f R C) 3 - sg (inz f R C) j)) 0 q4) ∧ KRw s u ∧ ∀ g z, g < 3 → z < 9 → u.1 245 (9 * g + z) = cn f R C g z := by
  intro m
  induction m with
  | zero => intro j x s h; omega
  | succ m ih =>
    intro j x s h hj ef S hz
    rw [gm_217_13, if_pos (by omega)]
    by_cases q : j = 3
    · rw [if_pos (by omega), q, Int.sub_self, Int.add_zero]
      exact ⟨s, rfl, KRw_rf s, fun g z hg hz' => hz g z (by omega) hz'⟩
    · have hj' : j < 3 := by omega
      obtain ⟨a, b, a1, b1, a2, b2, b3, b4, b5⟩ := sp_181f (s := s) (R := R) (C := C) (g := j) (by rw [ef]; exact M) (by rw [ef]; exact h7) hj' S
      rw [ef] at b5
      have bo : ∀ i, b.1 245 i = s.1 245 i := fun i => b2.1 245 i (by omega)
      rw [if_neg (by omega), a1, Option.bind_some, b1, Option.bind_some]
      obtain ⟨t, t1, t2, t3, t4⟩ := sl_217_29 (gm_217_13 m) M hj' 100000 0 x b (by omega) (by omega) ((KR_216 b2).trans ef) b3 (fun x y hx hy => ((b5 x hx).2.2 y hy).2) fun z hz => absurd hz (by omega)
      have t1 : gm_217_29 (gm_217_13 m) 100000 x j 0 b = gm_217_13 m (x + (inz f R C j - 0)) ((j + 1 : Nat) : Int) t := t1
      rw [t1]
      have Kt := KRw_tr (KR_w b2) t2
      obtain ⟨u, u1, u2, u3⟩ := ih (j + 1) (x + (inz f R C j - 0)) t (by omega) (by omega) ((KRw_216 Kt).trans ef) (Kt.2.2 S) fun g z hg hz' => by
        by_cases e : g = j
        · rw [e]
          exact t3 z hz'
        · rw [t4 _ (by omega), bo]
          exact hz g z (by omega) hz'
      refine ⟨u, ?_, KRw_tr Kt u2, u3⟩
      have e : sg (inz f R C) (j + 1) = sg (inz f R C) j + inz f R C j := rfl
      have e2 : x + (inz f R C j - 0) + (sg (inz f R C) 3 - sg (inz f R C) (j + 1)) = x + (sg (inz f R C) 3 - sg (inz f R C) j) := by rw [e]; omega
      rw [e2] at u1
      exact u1
end
section
/-! CALLS: adopt, on both sides -/
theorem act_pre2 {s : gx_S} {f : Nat → Int} {R C n L : Nat} {pf : Nat → Nat → Int} {tb : Nat → Int} (c : CV s f R C n pf L tb) (r : RV s f n pf L tb) (v : AV f R C L tb) : ∃ u : gx_S, gm_119 s = some u ∧ MR u 1 f R C ∧ u.1 216 = f ∧ (∀ k j, ¬ (16 ≤ k ∧ k ≤ 57) → ¬ ((k = 71 ∨ k = 119 ∨ k = 167) ∧ j = 8) → u.1 k j = s.1 k j) ∧ ∀ u' t : gx_S, (∀ k j, 6 ≤ k → u'.1 k j = u.1 k j) → u'.2 = u.2 → KRw u' t → SC u' ∧ u'.1 216 = f ∧ ∃ w : gx_S, gm_132 t = some w ∧ w.1 216 = f ∧ (∀ k i, k ≠ 217 → ¬ (k = 215 ∧ i = 2) → w.1 k i = t.1 k i) ∧ ∀ (w' : gx_S) (fn : Nat → Int) (R' C' : Nat), (∀ k j, k ≠ 216 → w'.1 k j = w.1 k j) → w'.2 = w.2 → MP fn R' C' → MR u' 1 fn R' C' → (∀ i, i < 340 → w'.1 216 i = fn i) → INV w' := by
  obtain ⟨u, u1, u2, u3, u4⟩ := sp_119 v.1 c
  have eu : u.1 216 = f := by
    funext q
    rw [u4 216 q (by omega) (by omega), r.1]
  refine ⟨u, u1, u2.1, eu, u4, fun u' t h1 h2 kt => ?_⟩
  have eu' : u'.1 216 = f := by
    funext q
    rw [h1 216 q (by omega), eu]
  have kc : KC s u' := ⟨fun k j q => by rw [h1 k j (by omega), u4 k j (by omega) (by omega)], fun k j _ => by rw [h2, u3]⟩
  have rv0 := RV_KC kc r
  have rv := RV_KR kt rv0
  obtain ⟨w, w1, w2, w3, w4⟩ := sp_132 c.2.2.1.1 rv.2.1
  rw [rv.1] at w4
  have ew : w.1 216 = f := by
    funext q
    rw [w3 216 q (by decide) (by omega), rv.1]
  refine ⟨rv0.2.2.2.2, eu', w, w1, ew, w3, fun w' fn R' C' k1 k2 hM hR e => ?_⟩
  obtain ⟨a1, a2, a3, a4, a5⟩ := u2
  have ca : CW u' fn R' C' (nn n) (pn n pf f) L tb := ⟨hR, fun g hg => ⟨by rw [h1 _ _ (by omega)]; exact (a2 g hg).1, by rw [h1 _ _ (by omega)]; exact (a2 g hg).2⟩, HC_o (fun k j q1 q2 => h1 k j (by omega)) a3, by rw [h1 _ _ (by omega)]; exact a4, fun q hq => by rw [h1 _ _ (by omega)]; exact a5 q hq⟩
  have kf : KF u' w' := KF_tr (KR_KF kt) ⟨fun k j q => by rw [k1 k j (by omega)]; exact w3 k j (by omega) (by omega), fun k j _ => by rw [k2, w2]⟩
  obtain ⟨r1, r2, r3, r4, r5⟩ := rv
  refine ⟨w'.1 216, R', C', nn n, pn n pf f, L, tb, CW_CV hM e (CW_KF kf ca), ⟨rfl, ⟨by rw [k1 _ _ (by omega)]; exact w4.1, fun q hq p hp => by rw [k1 _ _ (by omega)]; exact w4.2 q hq p hp⟩, by rw [k1 _ _ (by omega), w3 215 4 (by decide) (by omega)]; exact r3, fun p hp => by rw [k1 _ _ (by omega), w3 218 p (by decide) (by omega)]; exact r4 p hp, ⟨fun p hp => ?_, fun d hd => ?_, fun p hp => ?_⟩⟩, MP_c e hM, v.2⟩
  · rw [k1 _ _ (by omega), k1 _ _ (by omega), k1 _ _ (by omega), w3 232 p (by decide) (by omega), w3 233 p (by decide) (by omega), w3 234 p (by decide) (by omega), k2, w2]
    exact r5.1 p hp
  · rw [k1 _ _ (by omega), w3 235 d (by decide) (by omega), k2, w2]
    exact r5.2.1 d hd
  · rw [k2, w2]
    exact r5.2.2 p hp
theorem sl_217_135 {x : Int} : ∀ (m j : Nat) (s : gx_S), 96 < m + j → j ≤ 96 → ∃ u : gx_S, gm_217_135 m x j s = some (x, u) ∧ u.2 = s.2 ∧ (∀ k i, k ≠ 216 → u.1 k i = s.1 k i) ∧ ∀ i, u.1 216 i = if 52 + j ≤ i ∧ i < 148 then s.1 216 (i + 96) else s.1 216 i := by
  intro m
  induction m with
  | zero => intro j s h; omega
  | succ m ih =>
    intro j s h hj
    rw [gm_217_135, if_pos (by omega)]
    by_cases q : j = 96
    · rw [if_pos (by omega)]
      exact ⟨s, rfl, rfl, fun _ _ _ => rfl, fun i => by rw [if_neg (by omega)]⟩
    · have ce : ((j : Int) + 1) = ((j + 1 : Nat) : Int) := rfl
      have i1 : (52 + (j : Int)).toNat = 52 + j := by omega
      have i2 : (148 + (j : Int)).toNat = 148 + j := by omega
      rw [if_neg (by omega), if_pos (by omega), if_pos (by omega), i1, i2, ce]
      obtain ⟨u, u1, u2, u3, u4⟩ := ih (j + 1) (gw1 s 216 (52 + j) (s.1 216 (148 + j))) (by omega) (by omega)
      refine ⟨u, u1, u2, fun k i h1 => by rw [u3 k i h1, gw1_1, if_neg (fun t => h1 t.1)], fun i => ?_⟩
      rw [u4, gw1_1, gw1_1]
      by_cases z : i = 52 + j
      · rw [if_neg (show ¬ (52 + (j + 1) ≤ i ∧ i < 148) by omega), if_pos (show (216 : Nat) = 216 ∧ i = 52 + j from ⟨rfl, z⟩), if_pos (show 52 + j ≤ i ∧ i < 148 by omega), z, show 148 + j = 52 + j + 96 by omega]
      · by_cases z2 : 52 + (j + 1) ≤ i ∧ i < 148
        · rw [if_pos z2, if_neg (show ¬ ((216 : Nat) = 216 ∧ i + 96 = 52 + j) by omega), if_pos (show 52 + j ≤ i ∧ i < 148 by omega)]
        · rw [if_neg z2, if_neg (show ¬ ((216 : Nat) = 216 ∧ i = 52 + j) from fun t => z t.2), if_neg (show ¬ (52 + j ≤ i ∧ i < 148) by omega)]
theorem sl_217_107 {x : Int} : ∀ (m j : Nat) (s : gx_S), 27 < m + j → j ≤ 27 → ∃ u : gx_S, gm_217_107 m x j s = gm_217_135 100000 x 0 u ∧ u.2 = s.2 ∧ (∀ k i, k ≠ 216 → u.1 k i = s.1 k i) ∧ ∀ i, u.1 216 i = if 5 + j ≤ i ∧ i < 32 then s.1 245 (i - 5) else s.1 216 i := by
  intro m
  induction m with
  | zero => intro j s h; omega
  | succ m ih =>
    intro j s h hj
    rw [gm_217_107, if_pos (by omega)]
    by_cases q : j = 27
    · rw [if_pos (by omega)]
      exact ⟨s, rfl, rfl, fun _ _ _ => rfl, fun i => by rw [if_neg (by omega)]⟩
    · have ce : ((j : Int) + 1) = ((j + 1 : Nat) : Int) := rfl
      have i1 : (5 + (j : Int)).toNat = 5 + j := by omega
      have i2 : ((j : Int)).toNat = j := by omega
      rw [if_neg (by omega), if_pos (by omega), if_pos (by omega), i1, i2, ce]
      obtain ⟨u, u1, u2, u3, u4⟩ := ih (j + 1) (gw1 s 216 (5 + j) (s.1 245 j)) (by omega) (by omega)
      refine ⟨u, u1, u2, fun k i h1 => by rw [u3 k i h1, gw1_1, if_neg (fun t => h1 t.1)], fun i => ?_⟩
      rw [u4, gw1_1, gw1_1]
      by_cases z : i = 5 + j
      · rw [if_neg (show ¬ (5 + (j + 1) ≤ i ∧ i < 32) by omega), if_pos (show (216 : Nat) = 216 ∧ i = 5 + j from ⟨rfl, z⟩), if_pos (show 5 + j ≤ i ∧ i < 32 by omega), z, show 5 + j - 5 = j by omega]
      · by_cases z2 : 5 + (j + 1) ≤ i ∧ i < 32
        · rw [if_pos z2, if_neg (show ¬ ((245 : Nat) = 216 ∧ i - 5 = 5 + j) by omega), if_pos (show 5 + j ≤ i ∧ i < 32 by omega)]
        · rw [if_neg z2, if_neg (show ¬ ((216 : Nat) = 216 ∧ i = 5 + j) from fun t => z t.2), if_neg (show ¬ (5 + j ≤ i ∧ i < 32) by omega)]
/-- the map behind adopt -/
def fa (f : Nat → Int) (R C i : Nat) : Int := if 5 ≤ i ∧ i < 32 then cn f R C ((i - 5) / 9) ((i - 5) % 9) else if 52 ≤ i ∧ i < 148 then f (i + 96) else f i
theorem cn_r {f : Nat → Int} {R C g : Nat} (M : MP f R C) (h7 : f 2 = 7) (hg : g < 3) : (∀ z, z < 9 → 0 ≤ cn f R C g z) ∧ sg (fun z => cn f R C g z) 9 ≤ 89991 := by
  obtain ⟨v1, v2, v3⟩ := GV_r M h7 hg
  obtain ⟨l1, l2⟩ := LV_r M hg
  have m := (M.2.2.2.2.1 g hg).2
  have u0 := UN_r M hg
  have as0 : 0 ≤ ASf f R C g := by
    unfold ASf
    split <;> omega
  obtain ⟨p1, p2⟩ := PA_mv M h7 hg
  obtain ⟨t1, t2⟩ := TB_0 (md := f 3) M.2.2.1 p1 (fun _ => p2)
  refine ⟨fun z hz => ?_, ?_⟩
  · have := (v3 z hz).1
    unfold cn
    split <;> omega
  · have e1 : sg (fun z => cn f R C g z) 9 = sg (fun z => sg (fun x => GV f R C g x z) 8) 9 + sg (fun z => if z = 8 then ASf f R C g else 0) 9 := sg_add _ _ 9
    have e2 : sg (fun z => if z = 8 then ASf f R C g else 0) 9 = ASf f R C g := (sg_single (i := 8) (by omega) fun c _ hn => if_neg hn).trans (if_pos rfl)
    have e3 : sg (fun z => sg (fun x => GV f R C g x z) 8) 9 = sg (fun x => sg (fun z => GV f R C g x z) 9) 8 := (sg_swap (fun x z => GV f R C g x z) 9 8).symm
    have e4 : sg (fun x => sg (fun z => GV f R C g x z) 9) 8 ≤ sg (LV f R C g) 8 := sg_le fun x hx => by
      have a := t2 x hx
      have b := l1 x hx
      have e : sg (fun z => GV f R C g x z) 9 = sg (fun y => TB (f 3) (LV f R C g) (PMV f R C g) x y) 9 := rfl
      rw [e, a]
      split <;> omega
    omega
theorem MP_fa {f : Nat → Int} {R C : Nat} (M : MP f R C) (h7 : f 2 = 7) : MP (fa f R C) R C := by
  obtain ⟨m1, m2, m3, m4, m5, m6, m7, m8, m10⟩ := id M
  have o : ∀ i, ¬ (5 ≤ i ∧ i < 32) → ¬ (52 ≤ i ∧ i < 148) → fa f R C i = f i := fun i h1 h2 => by
    unfold fa
    rw [if_neg h1, if_neg h2]
  have c : ∀ g z, g < 3 → z < 9 → fa f R C (5 + 9 * g + z) = cn f R C g z := fun g z hg hz => by
    unfold fa
    rw [if_pos (by omega), show (5 + 9 * g + z - 5) / 9 = g by omega, show (5 + 9 * g + z - 5) % 9 = z by omega]
  refine ⟨by rw [o 0 (by omega) (by omega), o 1 (by omega) (by omega)]; exact m1, by rw [o 2 (by omega) (by omega)]; exact m2, by rw [o 3 (by omega) (by omega)]; exact m3, by rw [o 4 (by omega) (by omega)]; exact m4, fun g hg => ⟨fun z hz => by rw [c g z hg hz]; exact (cn_r M h7 hg).1 z hz, ?_⟩, fun i hi => by rw [o _ (by omega) (by omega)]; exact m6 i hi, fun i hi => by rw [o _ (by omega) (by omega)]; exact m7 i hi, fun l hl b k hk => ?_, by rw [o 2 (by omega) (by omega)]; exact m10⟩
  · rw [sg_eq (g := fun z => cn f R C g z) fun z hz => c g z hg hz]
    exact (cn_r M h7 hg).2
  · have kk := (kC m1.2.2.1 m1.2.2.2 hk (show 2 < 3 by omega)).1
    by_cases e : l = 0
    · rw [e]
      have a := m8 1 (by omega) (by rw [h7]; rfl) k hk
      rw [if_neg (by omega)] at a ⊢
      have z : fa f R C (52 + 96 * 0 + 12 * (k / C) + k % C) = f (52 + 96 * 1 + 12 * (k / C) + k % C) := by
        unfold fa
        rw [if_neg (by omega), if_pos (by omega), show 52 + 96 * 0 + 12 * (k / C) + k % C + 96 = 52 + 96 * 1 + 12 * (k / C) + k % C by omega]
      rw [z]
      exact a
    · rw [o _ (by omega) (by omega)]
      exact m8 l hl (by rw [o 2 (by omega) (by omega)] at b; exact b) k hk
theorem inv_adopt {s : gx_S} (h : INV s) : two s gm_93 gm_217 := by
  obtain ⟨f, R, C, n, pf, L, tb, c, r, v⟩ := id h
  have e7 : s.1 1 6 = f 2 := c.1.2.2.1
  have c57 := sp_57 (s := s) (a := 1) (by decide +kernel) (by rw [e7]; exact v.1.2.1)
  have c50 : ∀ t : gx_S, t.1 216 = f → gm_150 t = some (decide (f 2 = 7), t) := fun t ht => by
    have := sp_150 (s := t) (by rw [ht]; exact v.1.2.1)
    rw [ht] at this
    exact this
  unfold two gm_93 gm_217
  rw [c57, Option.bind_some, e7]
  by_cases h7 : f 2 = 7
  · rw [if_pos (fun q => (gbD s).mp q h7)]
    obtain ⟨a, a1, a2, a3, a4⟩ := sl_93_14 v.1 h7 100000 0 s (by omega) (by omega) c fun g hg => absurd hg (by omega)
    have a1 : gm_93_14 100000 0 s = _ := a1
    obtain ⟨u, u1, u2, u3, u4, u5⟩ := act_pre2 a2 (RV_KC a3 r) v
    obtain ⟨b, b1, b2, b3, b4⟩ := sl_93_44 (f := f) (R := R) (C := C) 100000 0 0 u (by omega) (by omega) fun g hg => MV_o (fun k i q1 q2 q3 => u4 k i (by omega) (by omega)) (a4 g hg)
    have b1 : gm_93_44 100000 0 0 u = some (0 + (sg (inz f R C) 3 - sg (inz f R C) 0), gcp b 2 96 2 0 96) := b1
    obtain ⟨u', hu'⟩ : ∃ u', u' = gcp b 2 96 2 0 96 := ⟨_, rfl⟩
    rw [← hu'] at b1
    have k6 : ∀ k j, 6 ≤ k → u'.1 k j = u.1 k j := fun k j q => by
      rw [hu', gcp_1, if_neg (by omega), b3 k j (by omega)]
    have k2 : u'.2 = u.2 := by rw [hu']; exact b2
    obtain ⟨S, eu', _⟩ := u5 u' u' k6 k2 (KRw_rf u')
    obtain ⟨t, t1, t2, t3⟩ := sl_217_13 (f := f) (R := R) (C := C) v.1 h7 100000 0 0 u' (by omega) (by omega) eu' S fun g z hg => absurd hg (by omega)
    have t1 : gm_217_13 100000 0 0 u' = ((gm_132 t).bind fun q4 => gm_217_107 100000 (0 + (sg (inz f R C) 3 - sg (inz f R C) 0)) 0 q4) := t1
    obtain ⟨_, _, w, w1, w2, w3, w4⟩ := u5 u' t k6 k2 t2
    obtain ⟨d, d1, d2, d3, d4⟩ := sl_217_107 (x := 0 + (sg (inz f R C) 3 - sg (inz f R C) 0)) 100000 0 w (by omega) (by omega)
    have d1 : gm_217_107 100000 (0 + (sg (inz f R C) 3 - sg (inz f R C) 0)) 0 w = _ := d1
    obtain ⟨e, e1, e2, e3, e4⟩ := sl_217_135 (x := 0 + (sg (inz f R C) 3 - sg (inz f R C) 0)) 100000 0 d (by omega) (by omega)
    have e1 : gm_217_135 100000 (0 + (sg (inz f R C) 3 - sg (inz f R C) 0)) 0 d = _ := e1
    refine ⟨0 + (sg (inz f R C) 3 - sg (inz f R C) 0), u', e, by rw [a1, u1, Option.bind_some, b1], ?_, w4 e (fa f R C) R C (fun k j q => by rw [e3 k j q, d3 k j q]) (by rw [e2, d2]) (MP_fa v.1 h7) ?_ fun i hi => ?_⟩
    · rw [c50 u' eu', Option.bind_some, if_pos (fun q => (gbD u').mp q h7)]
      show gm_217_13 100000 0 0 u' = _
      rw [t1, w1, Option.bind_some, d1, e1]
    · obtain ⟨m1, m2, m3, m4, m5, m6, m7, m8, m9⟩ := u2
      have o : ∀ i, ¬ (5 ≤ i ∧ i < 32) → ¬ (52 ≤ i ∧ i < 148) → fa f R C i = f i := fun i h1 h2 => by
        unfold fa
        rw [if_neg h1, if_neg h2]
      have uk : ∀ k i, k ≠ 2 → k ≠ 3 → u'.1 k i = u.1 k i := fun k i q1 q2 => by rw [hu', gcp_1, if_neg (by omega), b3 k i q2]
      refine ⟨by rw [uk _ _ (by omega) (by omega), o 0 (by omega) (by omega)]; exact m1, by rw [uk _ _ (by omega) (by omega), o 1 (by omega) (by omega)]; exact m2, by rw [uk _ _ (by omega) (by omega), o 2 (by omega) (by omega)]; exact m3, by rw [uk _ _ (by omega) (by omega), o 3 (by omega) (by omega)]; exact m4, by rw [uk _ _ (by omega) (by omega), o 4 (by omega) (by omega)]; exact m5, fun i hi => ?_, fun i hi => by rw [uk _ _ (by omega) (by omega), o _ (by omega) (by omega)]; exact m7 i hi, fun i hi => by rw [uk _ _ (by omega) (by omega), o _ (by omega) (by omega)]; exact m8 i hi, fun l hl bb k hk => ?_⟩
      · rw [show (1 : Nat) + 2 = 3 from rfl, hu', gcp_1, if_neg (by omega), b4, if_pos (by omega)]
        unfold fa
        rw [if_pos (by omega), show 5 + i - 5 = i by omega]
      · have kk := (kC v.1.1.2.2.1 v.1.1.2.2.2 hk (show 2 < 3 by omega))
        rw [show (1 : Nat) + 1 = 2 from rfl] at m9 ⊢
        rw [hu', gcp_1, b3 2 _ (by omega), b3 2 _ (by omega)]
        by_cases z : l = 0
        · have zz : fa f R C (52 + 96 * 0 + 12 * (k / C) + k % C) = f (52 + 96 * 1 + 12 * (k / C) + k % C) := by
            unfold fa
            rw [if_neg (by omega), if_pos (by omega), show 52 + 96 * 0 + 12 * (k / C) + k % C + 96 = 52 + 96 * 1 + 12 * (k / C) + k % C by omega]
          rw [z, if_pos (by omega), zz, show 96 + (96 * 0 + k - 0) = 96 * 1 + k by omega]
          exact m9 1 (by omega) (by rw [h7]; rfl) k hk
        · rw [if_neg (by omega), o _ (by omega) (by omega)]
          exact m9 l hl (by rw [o 2 (by omega) (by omega)] at bb; exact bb) k hk
    · rw [e4, d4, d4]
      unfold fa
      by_cases z1 : 5 ≤ i ∧ i < 32
      · rw [if_neg (by omega), if_pos (by omega), if_pos z1, w3 245 _ (by decide) (by omega)]
        have := t3 ((i - 5) / 9) ((i - 5) % 9) (by omega) (by omega)
        rw [show 9 * ((i - 5) / 9) + (i - 5) % 9 = i - 5 by omega] at this
        exact this
      · have ef : (if 5 ≤ i ∧ i < 32 then cn f R C ((i - 5) / 9) ((i - 5) % 9) else if 52 ≤ i ∧ i < 148 then f (i + 96) else f i) = if 52 ≤ i ∧ i < 148 then f (i + 96) else f i := if_neg z1
        rw [ef]
        by_cases z2 : 52 ≤ i ∧ i < 148
        · rw [if_pos (show 52 + 0 ≤ i ∧ i < 148 by omega), if_neg (show ¬ (5 + 0 ≤ i + 96 ∧ i + 96 < 32) by omega), w2, if_pos z2]
        · rw [if_neg (show ¬ (52 + 0 ≤ i ∧ i < 148) by omega), if_neg (show ¬ (5 + 0 ≤ i ∧ i < 32) by omega), w2, if_neg z2]
  · rw [if_neg (fun q => q ((gbD s).mpr h7))]
    refine ⟨-1, s, s, rfl, ?_, h⟩
    rw [c50 s r.1, Option.bind_some, if_neg (fun q => q ((gbD s).mpr h7))]
end
section
/-! TEXTS of counts: signs, numbers -/
def sgn (tb : Nat → Int) (L p : Nat) : Int := if p < L then tb p else -1
def dig (x : Int) : Prop := 48 ≤ x ∧ x ≤ 57
def mn (x : Int) : Int := if x < 10000 then x else 10000
/-- the number of the digits from p on, and where it ends -/
def nm (tb : Nat → Int) (L : Nat) : Nat → Int → Nat → Int × Nat
  | 0, v, p => (v, p)
  | r + 1, v, p => if 48 ≤ sgn tb L p ∧ sgn tb L p ≤ 57 then nm tb L r (mn (10 * v + sgn tb L p - 48)) (p + 1) else (v, p)
/-- the class's tape; the reference's -/
def TC (s : gx_S) (L : Nat) (tb : Nat → Int) : Prop := L ≤ 200 ∧ s.1 14 1 = L ∧ ∀ i, i < L → s.1 15 i = tb i ∧ 0 ≤ tb i ∧ tb i ≤ 255
def TF (s : gx_S) (L : Nat) (tb : Nat → Int) : Prop := L ≤ 200 ∧ s.1 215 4 = L ∧ ∀ i, i < L → (Int32.ofInt (s.1 218 i) &&& Int32.ofInt 255).toInt = tb i ∧ 0 ≤ tb i ∧ tb i ≤ 255
theorem TC_o {s u : gx_S} {L : Nat} {tb : Nat → Int} (h1 : u.1 14 1 = s.1 14 1) (h2 : ∀ i, u.1 15 i = s.1 15 i) (h : TC s L tb) : TC u L tb := ⟨h.1, h1.trans h.2.1, fun i hi => by rw [h2]; exact h.2.2 i hi⟩
theorem TF_o {s u : gx_S} {L : Nat} {tb : Nat → Int} (h1 : u.1 215 4 = s.1 215 4) (h2 : ∀ i, u.1 218 i = s.1 218 i) (h : TF s L tb) : TF u L tb := ⟨h.1, h1.trans h.2.1, fun i hi => by rw [h2]; exact h.2.2 i hi⟩
theorem sgn_r {s : gx_S} {L : Nat} {tb : Nat → Int} (h : TC s L tb) (p : Nat) : -1 ≤ sgn tb L p ∧ sgn tb L p ≤ 255 := by
  unfold sgn
  by_cases q : p < L
  · rw [if_pos q]
    have := h.2.2 p q
    omega
  · rw [if_neg q]
    omega
theorem sgn_rf {s : gx_S} {L : Nat} {tb : Nat → Int} (h : TF s L tb) (p : Nat) : -1 ≤ sgn tb L p ∧ sgn tb L p ≤ 255 := by
  unfold sgn
  by_cases q : p < L
  · rw [if_pos q]
    have := h.2.2 p q
    omega
  · rw [if_neg q]
    omega
theorem sp_83 {s : gx_S} {L p : Nat} {tb : Nat → Int} (h : TC s L tb) (hp : p < 1000) : gm_83 p s = some (sgn tb L p, s) := by
  obtain ⟨h1, h2, h3⟩ := h
  unfold gm_83 sgn
  rw [if_pos (by omega), if_neg (by omega), h2, if_pos (by omega)]
  by_cases q : p < L
  · rw [if_neg (by omega), if_pos (by omega), if_pos q, show ((p : Int)).toNat = p by omega, (h3 p q).1]
  · rw [if_pos (by omega), if_neg q]
theorem sp_137 {s : gx_S} {L p : Nat} {tb : Nat → Int} (h : TF s L tb) (hp : p < 1000) (e : s.1 215 5 = p) : gm_137 s = some (sgn tb L p, s) := by
  obtain ⟨h1, h2, h3⟩ := h
  unfold gm_137 sgn
  rw [e, if_pos (by omega), h2, if_pos (by omega)]
  by_cases q : p < L
  · rw [if_neg (by omega), if_pos (by omega), if_pos q, show ((p : Int)).toNat = p by omega, (h3 p q).1]
  · rw [if_pos (by omega), if_neg q]
theorem sp_138 {s : gx_S} (h : i32 (s.1 215 6)) : gm_138 s = some (decide (s.1 215 6 = -1), s) := by
  unfold i32 at h
  unfold gm_138
  rw [if_pos h]
  by_cases q : s.1 215 6 = -1
  · rw [if_neg (fun t => t q), decide_eq_true q]
  · rw [if_pos q, decide_eq_false q]
theorem sp_139 {s : gx_S} {a b : Int} (h : i32 (s.1 215 6)) : gm_139 a b s = some (if s.1 215 6 = -1 then gw1 s 215 6 (8 * b + a) else s) := by
  unfold gm_139
  rw [sp_138 h, Option.bind_some]
  by_cases q : s.1 215 6 = -1
  · rw [if_neg (fun t => (gbD s).mp t q), if_pos q]
  · rw [if_pos ((gbD s).mpr q), if_neg q]
theorem nmr {tb : Nat → Int} {L : Nat} (hr : ∀ p, -1 ≤ sgn tb L p) : ∀ (r : Nat) (v : Int) (p : Nat), 0 ≤ v → v ≤ 10000 → p ≤ L → (0 ≤ (nm tb L r v p).1 ∧ (nm tb L r v p).1 ≤ 10000) ∧ p ≤ (nm tb L r v p).2 ∧ (nm tb L r v p).2 ≤ L ∧ (dig (sgn tb L p) → 0 < r → p < (nm tb L r v p).2)
  | 0, v, p, h1, h2, h3 => ⟨⟨h1, h2⟩, Nat.le_refl p, h3, fun _ h => absurd h (by omega)⟩
  | r + 1, v, p, h1, h2, h3 => by
    have e : nm tb L (r + 1) v p = if 48 ≤ sgn tb L p ∧ sgn tb L p ≤ 57 then nm tb L r (mn (10 * v + sgn tb L p - 48)) (p + 1) else (v, p) := rfl
    rw [e]
    by_cases q : 48 ≤ sgn tb L p ∧ sgn tb L p ≤ 57
    · have hp : p < L := Classical.byContradiction fun h => by
        have : sgn tb L p = -1 := if_neg h
        omega
      have m1 : 0 ≤ mn (10 * v + sgn tb L p - 48) ∧ mn (10 * v + sgn tb L p - 48) ≤ 10000 := by
        unfold mn
        split <;> omega
      obtain ⟨a1, a2, a3, a4⟩ := nmr hr r _ (p + 1) m1.1 m1.2 (by omega)
      rw [if_pos q]
      exact ⟨a1, by omega, a3, fun _ _ => by omega⟩
    · rw [if_neg q]
      exact ⟨⟨h1, h2⟩, Nat.le_refl p, h3, fun h => absurd h q⟩
theorem sp_8 (s : gx_S) {x : Int} (h : i32 x) : gm_8 x s = some (decide (48 ≤ x ∧ x ≤ 57), s) := by
  unfold i32 at h
  unfold gm_8
  rw [if_pos h]
  by_cases a : x < 48
  · rw [if_pos a, decide_eq_false (by omega)]
  · rw [if_neg a]
    by_cases b : 57 < x
    · rw [if_pos b, decide_eq_false (by omega)]
    · rw [if_neg b, decide_eq_true (by omega)]
/-- the place alone changes -/
def P2 (s u : gx_S) : Prop := u.2 = s.2 ∧ ∀ k j, ¬ (k = 60 ∧ j = 2) → u.1 k j = s.1 k j
theorem sl_6 {L : Nat} {tb : Nat → Int} : ∀ (r p n : Nat) (v : Int) (s : gx_S), L ≤ p + r → p ≤ L → r < n → 0 ≤ v → v ≤ 10000 → TC s L tb → s.1 60 2 = p → ∃ u : gx_S, gm_6_2 n v s = some ((nm tb L r v p).1, u) ∧ u.1 60 2 = (nm tb L r v p).2 ∧ P2 s u := by
  intro r
  induction r with
  | zero =>
    intro p n v s h1 h2 h3 h4 h5 T e
    obtain ⟨n, rfl⟩ : ∃ n', n = n' + 1 := ⟨n - 1, by omega⟩
    have hL := T.1
    refine ⟨s, ?_, e, rfl, fun _ _ _ => rfl⟩
    rw [gm_6_2, e, T.2.1, if_pos (by omega), if_pos (by omega), if_pos (by omega)]
    rfl
  | succ r ih =>
    intro p n v s h1 h2 h3 h4 h5 T e
    obtain ⟨n, rfl⟩ : ∃ n', n = n' + 1 := ⟨n - 1, by omega⟩
    have hL := T.1
    have sr := sgn_r T p
    have en : nm tb L (r + 1) v p = if 48 ≤ sgn tb L p ∧ sgn tb L p ≤ 57 then nm tb L r (mn (10 * v + sgn tb L p - 48)) (p + 1) else (v, p) := rfl
    rw [gm_6_2, e, T.2.1, if_pos (by omega), if_pos (by omega), en]
    by_cases q0 : p < L
    · rw [if_neg (by omega), sp_83 T (by omega), Option.bind_some]
      show ∃ u : gx_S, ((gm_8 (sgn tb L p) s).bind _) = _ ∧ _
      rw [sp_8 s (by unfold i32; omega), Option.bind_some]
      by_cases q : 48 ≤ sgn tb L p ∧ sgn tb L p ≤ 57
      · have ce : ((p : Int) + 1) = ((p + 1 : Nat) : Int) := rfl
        rw [if_neg (fun t => (gbD s).mp t q), if_pos q]
        show ∃ u : gx_S, ((gm_83 (s.1 60 2) s).bind fun q10 => if (-2147483648 ≤ (((v * 10) + q10.1) - 48) ∧ (((v * 10) + q10.1) - 48) ≤ 2147483647) then (gm_6_2 n (if (((v * 10) + q10.1) - 48) < 10000 then (((v * 10) + q10.1) - 48) else 10000) (gw1 q10.2 60 2 ((q10.2.1 60 2) + 1))) else none) = _ ∧ _
        rw [e, sp_83 T (by omega), Option.bind_some]
        show ∃ u : gx_S, (if (-2147483648 ≤ (((v * 10) + sgn tb L p) - 48) ∧ (((v * 10) + sgn tb L p) - 48) ≤ 2147483647) then (gm_6_2 n (if (((v * 10) + sgn tb L p) - 48) < 10000 then (((v * 10) + sgn tb L p) - 48) else 10000) (gw1 s 60 2 ((s.1 60 2) + 1))) else none) = _ ∧ _
        have em : (if (((v * 10) + sgn tb L p) - 48) < 10000 then (((v * 10) + sgn tb L p) - 48) else 10000) = mn (10 * v + sgn tb L p - 48) := by
          unfold mn
          rw [show v * 10 = 10 * v by omega]
        have m1 : 0 ≤ mn (10 * v + sgn tb L p - 48) ∧ mn (10 * v + sgn tb L p - 48) ≤ 10000 := by
          unfold mn
          split <;> omega
        rw [if_pos (by omega), em, e, ce]
        have o : ∀ k j, ¬ (k = 60 ∧ j = 2) → (gw1 s 60 2 ((p + 1 : Nat) : Int)).1 k j = s.1 k j := fun k j q => by rw [gw1_1, if_neg q]
        obtain ⟨u, u1, u2, u3⟩ := ih (p + 1) n (mn (10 * v + sgn tb L p - 48)) (gw1 s 60 2 ((p + 1 : Nat) : Int)) (by omega) (by omega) (by omega) m1.1 m1.2 (TC_o (o _ _ (by omega)) (fun i => o _ _ (by omega)) T) (by rw [gw1_1, if_pos ⟨rfl, rfl⟩])
        exact ⟨u, u1, u2, u3.1, fun k j q => (u3.2 k j q).trans (o k j q)⟩
      · rw [if_pos ((gbD s).mpr q), if_neg q]
        exact ⟨s, rfl, e, rfl, fun _ _ _ => rfl⟩
    · have z : sgn tb L p = -1 := if_neg q0
      rw [if_pos (by omega), if_neg (by rw [z]; omega)]
      exact ⟨s, rfl, e, rfl, fun _ _ _ => rfl⟩
/-- the reference's place alone changes -/
def P5 (s u : gx_S) : Prop := u.2 = s.2 ∧ ∀ k j, ¬ (k = 215 ∧ j = 5) → u.1 k j = s.1 k j
theorem sl_146 {L : Nat} {tb : Nat → Int} {sl b : Int} : ∀ (r p n : Nat) (v : Int) (s : gx_S), L ≤ p + r → p ≤ L → r < n → 0 ≤ v → v ≤ 10000 → TF s L tb → s.1 215 5 = p → s.1 215 6 = -1 → ∃ u : gx_S, gm_146_164 n sl b v s = gm_146_222 sl b (nm tb L r v p).1 u ∧ u.1 215 5 = (nm tb L r v p).2 ∧ P5 s u := by
  intro r
  induction r with
  | zero =>
    intro p n v s h1 h2 h3 h4 h5 T e e6
    obtain ⟨n, rfl⟩ : ∃ n', n = n' + 1 := ⟨n - 1, by omega⟩
    have hL := T.1
    have z : sgn tb L p = -1 := if_neg (by omega)
    refine ⟨s, ?_, e, rfl, fun _ _ _ => rfl⟩
    rw [gm_146_164, sp_138 (by rw [e6]; unfold i32; omega), Option.bind_some, if_neg (fun t => (gbD s).mp t e6)]
    show ((gm_137 s).bind _) = _
    rw [sp_137 T (by omega) e, Option.bind_some, z, if_pos (show (-2147483648 : Int) ≤ -1 ∧ (-1 : Int) ≤ 2147483647 by decide)]
    show ((gm_130 (-1) 48 57 s).bind _) = _
    rw [in_ s (by unfold i32; omega) (by omega) (by omega), Option.bind_some, if_pos ((gbD s).mpr (by omega))]
    rfl
  | succ r ih =>
    intro p n v s h1 h2 h3 h4 h5 T e e6
    obtain ⟨n, rfl⟩ : ∃ n', n = n' + 1 := ⟨n - 1, by omega⟩
    have hL := T.1
    have sr := sgn_rf T p
    have en : nm tb L (r + 1) v p = if 48 ≤ sgn tb L p ∧ sgn tb L p ≤ 57 then nm tb L r (mn (10 * v + sgn tb L p - 48)) (p + 1) else (v, p) := rfl
    rw [gm_146_164, sp_138 (by rw [e6]; unfold i32; omega), Option.bind_some, if_neg (fun t => (gbD s).mp t e6), en]
    show ∃ u : gx_S, ((gm_137 s).bind _) = _ ∧ _
    rw [sp_137 T (by omega) e, Option.bind_some, if_pos (by omega)]
    show ∃ u : gx_S, ((gm_130 (sgn tb L p) 48 57 s).bind _) = _ ∧ _
    rw [in_ s (by unfold i32; omega) (by omega) (by omega), Option.bind_some]
    by_cases q : 48 ≤ sgn tb L p ∧ sgn tb L p ≤ 57
    · have hp : p < L := Classical.byContradiction fun h => by
        have : sgn tb L p = -1 := if_neg h
        omega
      have ce : ((p : Int) + 1) = ((p + 1 : Nat) : Int) := rfl
      rw [if_neg (fun t => (gbD s).mp t q), if_pos q]
      show ∃ u : gx_S, ((gm_137 s).bind fun q11 => if (-2147483648 ≤ (((10 * v) + q11.1) - 48) ∧ (((10 * v) + q11.1) - 48) ≤ 2147483647) then (gm_146_164 n sl b (if (((10 * v) + q11.1) - 48) < 10000 then (((10 * v) + q11.1) - 48) else 10000) (gw1 q11.2 215 5 ((q11.2.1 215 5) + 1))) else none) = _ ∧ _
      rw [sp_137 T (by omega) e, Option.bind_some]
      show ∃ u : gx_S, (if (-2147483648 ≤ (((10 * v) + sgn tb L p) - 48) ∧ (((10 * v) + sgn tb L p) - 48) ≤ 2147483647) then (gm_146_164 n sl b (mn (10 * v + sgn tb L p - 48)) (gw1 s 215 5 ((s.1 215 5) + 1))) else none) = _ ∧ _
      have m1 : 0 ≤ mn (10 * v + sgn tb L p - 48) ∧ mn (10 * v + sgn tb L p - 48) ≤ 10000 := by
        unfold mn
        split <;> omega
      rw [if_pos (by omega), e, ce]
      have o : ∀ k j, ¬ (k = 215 ∧ j = 5) → (gw1 s 215 5 ((p + 1 : Nat) : Int)).1 k j = s.1 k j := fun k j q => by rw [gw1_1, if_neg q]
      obtain ⟨u, u1, u2, u3⟩ := ih (p + 1) n (mn (10 * v + sgn tb L p - 48)) (gw1 s 215 5 ((p + 1 : Nat) : Int)) (by omega) (by omega) (by omega) m1.1 m1.2 (TF_o (o _ _ (by omega)) (fun i => o _ _ (by omega)) T) (by rw [gw1_1, if_pos ⟨rfl, rfl⟩]) (by rw [o _ _ (by omega)]; exact e6)
      exact ⟨u, u1, u2, u3.1, fun k j q => (u3.2 k j q).trans (o k j q)⟩
    · rw [if_pos ((gbD s).mpr q), if_neg q]
      exact ⟨s, rfl, e, rfl, fun _ _ _ => rfl⟩
end
