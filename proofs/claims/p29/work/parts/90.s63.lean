/-! THE CLASS: the table of districts' ways -/
def Wwy (f : Nat → Int) (R C g d y : Nat) (b : Bool) : Int := if y < 8 ∧ dsc f y = (d : Int) then SO f R C g (-1) y b else 0
theorem Wwy_pz {f : Nat → Int} {R C g d y : Nat} (M : MP f R C) (h7 : f 2 = 7) (b : Bool) : Wwy f R C g d y b = sg (pz (fun k => decide (co f C 1 k < 8)) (fun k => (dsc f (co f C 1 k)).toNat) (co f C 1) (fun k => if b = true then 1 else wt f C g k) d y) (R * C) := by
  unfold Wwy
  by_cases q : y < 8 ∧ dsc f y = (d : Int)
  · rw [if_pos q]
    refine sg_eq fun k hk => ?_
    obtain ⟨⟨c0, _⟩, ⟨c1, _⟩, _⟩ := co_s M h7 hk
    unfold pz
    rw [c0, c1]
    by_cases q2 : co f C 1 k = y
    · rw [if_pos (show ((-1 : Int) = -1 ∨ (co f C 0 k : Int) = -1) ∧ (((y : Nat) : Int) = -1 ∨ (co f C 1 k : Int) = y) by omega), if_pos (show decide (co f C 1 k < 8) = true ∧ (dsc f (co f C 1 k)).toNat = d ∧ co f C 1 k = y from ⟨decide_eq_true (by omega), by rw [q2]; omega, q2⟩)]
      rfl
    · rw [if_neg (show ¬ (((-1 : Int) = -1 ∨ (co f C 0 k : Int) = -1) ∧ (((y : Nat) : Int) = -1 ∨ (co f C 1 k : Int) = y)) by omega), if_neg (fun h => q2 h.2.2)]
  · rw [if_neg q]
    refine (sg_0 fun k hk => ?_).symm
    obtain ⟨_, ⟨_, c1⟩, _⟩ := co_s M h7 hk
    have dr := dsc_r M (show co f C 1 k < 9 by omega)
    refine if_neg fun h => q ?_
    have h1 : co f C 1 k < 8 := of_decide_eq_true h.1
    have h2 : (dsc f (co f C 1 k)).toNat = d := h.2.1
    rw [h.2.2] at h1 h2 dr
    exact ⟨h1, by omega⟩
theorem Wwy_sum (f : Nat → Int) (R C g d : Nat) (b : Bool) : sg (fun y => Wwy f R C g d y b) 9 = sg (fun y => if dsc f y = (d : Int) then SO f R C g (-1) ((y : Nat) : Int) b else 0) 8 := by
  have e : sg (fun y => Wwy f R C g d y b) 9 = sg (fun y => Wwy f R C g d y b) 8 + Wwy f R C g d 8 b := rfl
  have z : Wwy f R C g d 8 b = 0 := if_neg (by omega)
  rw [e, z, Int.add_zero]
  refine sg_eq fun y hy => ?_
  unfold Wwy
  by_cases q : dsc f y = (d : Int)
  · rw [if_pos q, if_pos ⟨hy, q⟩]
  · rw [if_neg q, if_neg (fun h => q h.2)]
theorem Awy_W (f : Nat → Int) (R C g d y : Nat) : Awy f R C g d y = Wwy f R C g d y (decide (sg (fun y => Wwy f R C g d y false) 9 = 0)) := by
  rw [Wwy_sum]
  rfl
theorem PA_wy {f : Nat → Int} {R C g : Nat} (M : MP f R C) (h7 : f 2 = 7) (hg : g < 3) : PA (Pwy f R C g) (Awy f R C g) ∧ sg (fun x => sg (fun y => Awy f R C g x y) 9) 8 ≤ 864 ∧ ∀ x y, x < 8 → y < 9 → ¬ (x < 4 ∧ y < 8) → Awy f R C g x y = 0 := by
  obtain ⟨p1, p2, p3, p4⟩ := PA_co M h7 hg
  obtain ⟨t1, t2⟩ := TB_0 (md := f 3) M.2.2.1 p1 (fun _ => p2)
  obtain ⟨v1, v2, v3⟩ := GV_r M h7 hg
  have z0 : ∀ x y, x < 8 → y < 9 → ¬ (x < 4 ∧ y < 8) → Awy f R C g x y = 0 := fun x y hx hy hn => if_neg fun h => by
    have := (dsc_r M hy).2.2 h.1
    omega
  have W0 : ∀ d y b, 0 ≤ Wwy f R C g d y b := fun d y b => by
    unfold Wwy
    split
    · exact (SO_r M h7 hg (-1) y b).1
    · exact Int.le_refl 0
  have A0 : ∀ d y, 0 ≤ Awy f R C g d y := fun d y => by
    rw [Awy_W]
    exact W0 d y _
  have key : sg (fun d => sg (fun y => Awy f R C g d y) 9) 8 ≤ 864 := by
    rw [sg_swap (fun d y => Awy f R C g d y) 9 8]
    have B := SO_B M h7 hg (fun _ y => decide (sg (fun y' => if dsc f y' = (((dsc f y).toNat : Nat) : Int) then SO f R C g (-1) ((y' : Nat) : Int) false else 0) 8 = 0)) 9 8
    rw [← sg_swap (fun y x => SO f R C g ((x : Nat) : Int) ((y : Nat) : Int) (decide (sg (fun y' => if dsc f y' = (((dsc f y).toNat : Nat) : Int) then SO f R C g (-1) ((y' : Nat) : Int) false else 0) 8 = 0))) 9 8] at B
    have e8 : sg (fun c => sg (fun r => Awy f R C g r c) 8) 9 = sg (fun c => sg (fun r => Awy f R C g r c) 8) 8 := sg_cut0 (by omega) fun k h1 h2 => sg_0 fun d hd => z0 d k hd h2 (by omega)
    rw [e8]
    refine Int.le_trans (sg_le fun y hy => ?_) B
    have dr := dsc_r M (show y < 9 by omega)
    show sg (fun r => Awy f R C g r y) 8 ≤ sg (fun x => SO f R C g ((x : Nat) : Int) ((y : Nat) : Int) (decide (sg (fun y' => if dsc f y' = (((dsc f y).toNat : Nat) : Int) then SO f R C g (-1) ((y' : Nat) : Int) false else 0) 8 = 0))) 9
    have hL : sg (fun r => Awy f R C g r y) 8 = Awy f R C g (dsc f y).toNat y := sg_single (by omega) fun d hd hn => if_neg fun h => hn (by
      have := h.2
      omega)
    have hA : Awy f R C g (dsc f y).toNat y = SO f R C g (-1) y (decide (sg (fun y' => if dsc f y' = (((dsc f y).toNat : Nat) : Int) then SO f R C g (-1) ((y' : Nat) : Int) false else 0) 8 = 0)) := if_pos ⟨hy, by omega⟩
    have hR := SO_col (g := g) M h7 (y : Int) (decide (sg (fun y' => if dsc f y' = (((dsc f y).toNat : Nat) : Int) then SO f R C g (-1) ((y' : Nat) : Int) false else 0) 8 = 0))
    rw [hL, hA, hR]
    exact Int.le_refl _
  refine ⟨⟨fun x hx => ?_, fun x y hx hy => ⟨A0 x y, ?_⟩, by omega⟩, key, z0⟩
  · unfold Pwy
    split
    · have nn := sg_nn (f := fun z => GC_ f R C g z x) (n := 8) fun z hz => (t1 z x hz (by omega)).1
      have le := sg_le (f := fun z => GC_ f R C g z x) (g := LV f R C g) (n := 8) fun z hz => (t1 z x hz (by omega)).2
      omega
    · omega
  · have a := sg_at (f := fun y => Awy f R C g x y) (n := 9) (fun k _ => A0 x k) y hy
    have b := sg_at (f := fun x => sg (fun y => Awy f R C g x y) 9) (n := 8) (fun k _ => sg_nn fun y _ => A0 k y) x hx
    omega
theorem sl_26 {f : Nat → Int} {R C g a : Nat} (M : MP f R C) (h7 : f 2 = 7) (hg : g < 3) (h71 : 71 ≤ a) (ht : fx_oc (a + 30) 7 = true) : ∀ (r k n : Nat) (s : gx_S), k + r = R * C → r < n → MR s 1 f R C → s.1 a 9 = g → ∃ u : gx_S, gm_26_17 n a ((R * C : Nat) : Int) k s = gm_26_76 100000 a 0 u ∧ AC (a + 30) s u (fun x y => sg (fun i => pz (fun k => decide (co f C 1 k < 8)) (fun k => (dsc f (co f C 1 k)).toNat) (co f C 1) (wt f C g) x y (k + i)) r) (fun x y => sg (fun i => pz (fun k => decide (co f C 1 k < 8)) (fun k => (dsc f (co f C 1 k)).toNat) (co f C 1) (fun _ => 1) x y (k + i)) r) := by
  have hRC := RC_96 M.1.2.2.1 M.1.2.2.2
  intro r
  induction r with
  | zero =>
    intro k n s hk hn m e9
    obtain ⟨n, rfl⟩ : ∃ n', n = n' + 1 := ⟨n - 1, by omega⟩
    refine ⟨s, ?_, AC_0 _ _ (fun x y i => pz (fun k => decide (co f C 1 k < 8)) (fun k => (dsc f (co f C 1 k)).toNat) (co f C 1) (wt f C g) x y (k + i)) (fun x y i => pz (fun k => decide (co f C 1 k < 8)) (fun k => (dsc f (co f C 1 k)).toNat) (co f C 1) (fun _ => 1) x y (k + i))⟩
    rw [gm_26_17, if_pos (by omega), if_pos (by omega), if_pos (by omega)]
  | succ r ih =>
    intro k n s hk hn m e9
    obtain ⟨n, rfl⟩ : ∃ n', n = n' + 1 := ⟨n - 1, by omega⟩
    have hkl : k < R * C := by omega
    have ce : ((k : Int) + 1) = ((k + 1 : Nat) : Int) := rfl
    obtain ⟨⟨_, c0⟩, ⟨_, c1⟩, ⟨_, c2⟩⟩ := co_s M h7 hkl
    obtain ⟨g0, g1, g2⟩ := sp_60g m M h7 hkl
    have g3 := sp_61g m M h7 hg hkl
    have dr := dsc_r M (show co f C 1 k < 9 by omega)
    rw [gm_26_17, if_pos (by omega), if_pos (by omega), if_neg (by omega), g1, Option.bind_some, if_pos (by omega)]
    by_cases q : co f C 1 k < 8
    · have e5 := m.2.2.2.2.2.2.2.1 (co f C 1 k) q
      rw [show (1 : Nat) + 4 = 5 from rfl] at e5
      have c69 := sp_69 (t := a + 30) (x := (dsc f (co f C 1 k)).toNat) (y := co f C 1 k) (v := wt f C g k) (w := 1) s ht (by omega) (by omega)
      rw [show (((dsc f (co f C 1 k)).toNat : Nat) : Int) = dsc f (co f C 1 k) by omega, (dr.2.2 q).2] at c69
      rw [if_neg (by omega), if_pos (by omega)]
      show ∃ u : gx_S, ((gm_61 1 (s.1 a 9) k s).bind fun q12 => ((gm_69 (a + 30) (s.1 5 (co f C 1 k : Int).toNat) (co f C 1 k : Int) q12.1 1 q12.2).bind fun q14 => gm_26_68 (gm_26_17 n) a ((R * C : Nat) : Int) k q14)) = gm_26_76 100000 a 0 u ∧ _
      rw [e9, g3, Option.bind_some, show ((co f C 1 k : Int)).toNat = co f C 1 k by omega, e5, c69, Option.bind_some]
      unfold gm_26_68
      rw [ce, ← (dr.2.2 q).2]
      obtain ⟨u, u1, u2⟩ := ih (k + 1) n (adt s (a + 30) (dsc f (co f C 1 k)).toNat (co f C 1 k) (wt f C g k) 1) (by omega) (by omega) (MR_adt (by omega) m) ((adt_o _ _ _ _ _ _ _ _ (by omega) (by omega)).trans e9)
      exact ⟨u, u1, AC_add (K := fun k => decide (co f C 1 k < 8)) (X := fun k => (dsc f (co f C 1 k)).toNat) (Y := co f C 1) (w := wt f C g) (decide_eq_true q) (show (dsc f (co f C 1 k)).toNat < 8 by omega) (by omega) u2⟩
    · rw [if_pos (by omega)]
      unfold gm_26_68
      rw [ce]
      obtain ⟨u, u1, u2⟩ := ih (k + 1) n s (by omega) (by omega) m e9
      exact ⟨u, u1, AC_skip (K := fun k => decide (co f C 1 k < 8)) (decide_eq_false q) u2⟩
theorem sl_26_76 {a : Nat} (t21 : fx_oc (a + 21) 7 = true) : ∀ (n j : Nat) (s : gx_S), 4 < n + j → j ≤ 4 → ∃ u : gx_S, gm_26_76 n a j s = some u ∧ u.2 = s.2 ∧ (∀ k i, k ≠ a + 30 + 1 → u.1 k i = s.1 k i) ∧ ∀ i, u.1 (a + 30 + 1) i = if j ≤ i ∧ i < 4 then sg (fun x => s.1 (a + 21 + 8) (9 * x + i)) 8 else s.1 (a + 30 + 1) i := by
  intro n
  induction n with
  | zero => intro j s h; omega
  | succ n ih =>
    intro j s h hj
    rw [gm_26_76, if_pos (by omega)]
    by_cases q : j = 4
    · rw [if_pos (by omega)]
      exact ⟨s, rfl, rfl, fun _ _ _ => rfl, fun i => by rw [if_neg (by omega)]⟩
    · have ce : ((j : Int) + 1) = ((j + 1 : Nat) : Int) := rfl
      have i5 : ((j : Int)).toNat = j := by omega
      rw [if_neg (by omega), sp_76 t21 (by omega), Option.bind_some, if_pos (by omega), i5, ce]
      obtain ⟨u, u1, u2, u3, u4⟩ := ih (j + 1) (gw1 s (a + 30 + 1) j (sg (fun x => s.1 (a + 21 + 8) (9 * x + j)) 8)) (by omega) (by omega)
      refine ⟨u, u1, u2, fun k i h => by rw [u3 k i h, gw1_1, if_neg (fun x => h x.1)], fun i => ?_⟩
      rw [u4]
      by_cases e : i = j
      · rw [if_neg (show ¬ (j + 1 ≤ i ∧ i < 4) by omega), gw1_1, if_pos ⟨rfl, e⟩, if_pos (show j ≤ i ∧ i < 4 by omega), e]
      · by_cases e2 : j + 1 ≤ i ∧ i < 4
        · rw [if_pos e2, if_pos (show j ≤ i ∧ i < 4 by omega)]
          exact sg_eq fun x _ => by rw [gw1_1, if_neg (by omega)]
        · rw [if_neg e2, if_neg (show ¬ (j ≤ i ∧ i < 4) by omega), gw1_1, if_neg (fun x => e x.2)]
theorem sp_26 {s : gx_S} {f : Nat → Int} {R C g a : Nat} (m : MR s 1 f R C) (M : MP f R C) (h7 : f 2 = 7) (hg : g < 3) (h71 : 71 ≤ a) (ho : fx_oc a 2 = true) (t21 : fx_oc (a + 21) 7 = true) (ht : fx_oc (a + 30) 7 = true) (e9 : s.1 a 9 = g) (hT : TR s (a + 21) (f 3) (LV f R C g) (Aco f R C g)) : ∃ u w : gx_S, gm_26 a s = some u ∧ u.1 1 7 = f 3 ∧ gm_41 (a + 30) (f 3) u = some w ∧ TR w (a + 30) (f 3) (Pwy f R C g) (Awy f R C g) ∧ w.2 = s.2 ∧ ∀ k j, ¬ (7 ≤ k ∧ k ≤ 13) → ¬ (k = 6 ∧ j = 7) → ¬ (a + 31 ≤ k ∧ k ≤ a + 38) → w.1 k j = s.1 k j := by
  obtain ⟨c, b1, b2, b3, b4, b5⟩ := sp_68 s ht
  have mc : MR c 1 f R C := MR_o (fun k j h1 h2 => b5 k j (by omega) (by omega) (by omega)) m
  have c9 : c.1 a 9 = g := (b5 _ _ (by omega) (by omega) (by omega)).trans e9
  have hRC := RC_96 M.1.2.2.1 M.1.2.2.2
  obtain ⟨d, d1, d2, d3, d4⟩ := sl_26 M h7 hg h71 ht (R * C) 0 100000 c (by omega) (by omega) mc c9
  have d1 : gm_26_17 100000 a ((R * C : Nat) : Int) 0 c = _ := d1
  obtain ⟨u, u1, u2, u3, u4⟩ := sl_26_76 t21 100000 0 d (by omega) (by omega)
  have u1 : gm_26_76 100000 a 0 d = some u := u1
  have e45 : ∀ x y, x < 8 → y < 9 → u.1 (a + 30 + 4) (9 * x + y) = Wwy f R C g x y false ∧ u.1 (a + 30 + 5) (9 * x + y) = Wwy f R C g x y true := fun x y hx hy => by
    obtain ⟨q1, q2⟩ := d4 x y hx hy
    have z := b4 (9 * x + y) (by omega)
    rw [z.1] at q1
    rw [z.2] at q2
    rw [u3 _ _ (by omega), u3 _ _ (by omega), q1, q2, Wwy_pz M h7 false, Wwy_pz M h7 true]
    constructor
    · rw [Int.zero_add]
      exact sg_eq fun k _ => by rw [Nat.zero_add]; rfl
    · rw [Int.zero_add]
      exact sg_eq fun k _ => by rw [Nat.zero_add]; rfl
  obtain ⟨pa, p8, p0⟩ := PA_wy M h7 hg
  have Wb : ∀ x y b, 0 ≤ Wwy f R C g x y b ∧ Wwy f R C g x y b ≤ 864 := fun x y b => by
    unfold Wwy
    split
    · exact SO_r M h7 hg (-1) y b
    · omega
  have hb : ∀ i, i < 72 → (0 ≤ u.1 (a + 30 + 4) i ∧ u.1 (a + 30 + 4) i ≤ 1000000) ∧ (0 ≤ u.1 (a + 30 + 5) i ∧ u.1 (a + 30 + 5) i ≤ 1000000) := fun i hi => by
    have e : 9 * (i / 9) + i % 9 = i := by omega
    have q := e45 (i / 9) (i % 9) (by omega) (by omega)
    rw [e] at q
    rw [q.1, q.2]
    have r1 := Wb (i / 9) (i % 9) false
    have r2 := Wb (i / 9) (i % 9) true
    omega
  have hp : ∀ x, x < 8 → u.1 (a + 30 + 1) x = Pwy f R C g x := fun x hx => by
    unfold Pwy
    rw [u4]
    by_cases q : x < 4
    · rw [if_pos ⟨by omega, q⟩, if_pos q]
      refine sg_eq fun z hz => ?_
      rw [d3 _ _ (by omega) (by omega), b5 _ _ (by omega) (by omega) (by omega)]
      exact ((hT z hz).2.2 x (by omega)).2.2.2
    · rw [if_neg (fun h => q h.2), if_neg q, d3 _ _ (by omega) (by omega), b3 x hx]
  obtain ⟨w, w1, w2, w3, _⟩ := TR_class (t := a + 30) ht M.2.2.1 pa (fun _ => p8) hp hb fun x y hx hy => am_SO (T := Awy f R C g) (R := R) (C := C) (f := f) (g := g) (fun x y b => Wwy f R C g x y b) (fun y hy => (e45 x y hx hy).1) (fun y hy => (e45 x y hx hy).2) hy (Awy_W f R C g x y)
  refine ⟨u, w, ?_, ?_, w1, w2, ?_, fun k j h1 h2 h3 => ?_⟩
  · unfold gm_26
    rw [if_pos ho, b1, Option.bind_some, sp_58 (MR_cz mc M), Option.bind_some, d1, u1]
  · rw [u3 1 7 (by omega), d3 1 7 (by omega) (by omega)]
    exact mc.2.2.2.1
  · rw [w3.1, u2, d2]
    exact b2
  · rw [w3.2 k j h1 h2 (by omega) (by omega), u3 k j (by omega), d3 k j (by omega) (by omega), b5 k j (by omega) (by omega) (by omega)]
theorem rd_16 {s : gx_S} {f : Nat → Int} {R C g a D : Nat} (m : MR s 1 f R C) (M : MP f R C) (h7 : f 2 = 7) (hg : g < 3) (ha : ga a) (G : GGD s f R C g a D) (l1 : D / 1 % 2 = 1) (l8 : D / 8 % 2 = 1) : ∃ (D' : Nat) (u : gx_S), gm_19_155 a 16 s = gm_19_201 a 16 u ∧ KG a s u ∧ GGD u f R C g a D' ∧ D' / 16 % 2 = 1 ∧ D' / 8 % 2 = 1 := by
  obtain ⟨a71, a215, ho, t3, t12, t21, t30, t39⟩ := id ha
  obtain ⟨hD, e8, e9, g1, g2, g4, g8, g16, g32⟩ := G
  obtain ⟨D', t, q1, q2, q3, q4, q5, q6, q7⟩ := sp_21 (w := 16) ho hD (by decide) e8
  have q1 : gm_21 a 16 s = some (decide (¬ D / 16 % 2 = 1), t) := q1
  have n1 := q7 1 (by decide) (by decide)
  have n2 := q7 2 (by decide) (by decide)
  have n4 := q7 4 (by decide) (by decide)
  have n8 := q7 8 (by decide) (by decide)
  have n32 := q7 32 (by decide) (by decide)
  have to : ∀ k j, ¬ (k = a ∧ j = 8) → t.1 k j = s.1 k j := q3
  obtain ⟨li1, li2, li3⟩ := g1 l1
  unfold gm_19_155
  rw [if_pos (by decide), if_neg (by decide), q1, Option.bind_some]
  by_cases z : D / 16 % 2 = 1
  · rw [decide_eq_false (fun h => h z), if_pos (show gb (false, t).1 = 0 from (by decide : gb false = 0))]
    refine ⟨D', t, rfl, ⟨q2, fun k j h1 h2 => to k j (by omega)⟩, ⟨q5, q4, (to a 9 (by omega)).trans e9, fun _ => ⟨fun z hz => (to _ _ (by omega)).trans (li1 z hz), (to _ _ (by omega)).trans li2, (to _ _ (by omega)).trans li3⟩, fun h => ?_, fun h => ?_, fun h => ?_, fun h => ?_, fun h => ?_⟩, q6, n8.trans l8⟩
    · exact ⟨n1.trans l1, TM_o (fun k j h1 h2 => to k j (by omega)) (g2 (n2 ▸ h)).2⟩
    · exact TR_o (fun k j h1 h2 => to k j (by omega)) (g4 (n4 ▸ h))
    · exact ⟨n1.trans l1, TR_o (fun k j h1 h2 => to k j (by omega)) (g8 l8).2⟩
    · exact TR_o (fun k j h1 h2 => to k j (by omega)) (g16 z)
    · obtain ⟨x1, x2⟩ := g32 (n32 ▸ h)
      exact ⟨n2.trans x1, fun k hk => by rw [to _ _ (by omega)]; exact x2 k hk⟩
  · rw [decide_eq_true z, if_neg (show ¬ gb (true, t).1 = 0 from (by decide : ¬ gb true = 0))]
    have mt : MR t 1 f R C := MR_o (fun k j h1 h2 => to k j (by omega)) m
    obtain ⟨u, w, u1, u2, u3, u4, u5, u6⟩ := sp_26 mt M h7 hg a71 ho t21 t30 ((to a 9 (by omega)).trans e9) (TR_o (fun k j h1 h2 => to k j (by omega)) (g8 l8).2)
    have wo : ∀ k j, a ≤ k → ¬ (k = a ∧ j = 8) → ¬ (a + 31 ≤ k ∧ k ≤ a + 38) → w.1 k j = s.1 k j := fun k j h1 h2 h3 => (u6 k j (by omega) (by omega) h3).trans (to k j h2)
    have w8 : w.1 a 8 = D' := (u6 a 8 (by omega) (by omega) (by omega)).trans q4
    have m3 := M.2.2.1
    have st : ((gm_26 a (true, t).2).bind fun q7 => if (-2147483648 ≤ (q7.1 1 7) ∧ (q7.1 1 7) ≤ 2147483647) then (if ¬ (q7.1 1 7) = 1 then gm_19_198 a 16 (a + 30) 0 q7 else gm_19_198 a 16 (a + 30) 1 q7) else none) = gm_19_201 a 16 w := by
      show ((gm_26 a t).bind _) = _
      rw [u1, Option.bind_some, u2, if_pos (by omega)]
      unfold gm_19_198
      rcases m3 with e | e
      · rw [e] at u3
        rw [if_pos (by rw [e]; decide), u3, Option.bind_some]
      · rw [e] at u3
        rw [if_neg (by rw [e]; decide), u3, Option.bind_some]
    rw [st]
    refine ⟨D', w, rfl, ⟨u5.trans q2, fun k j h1 h2 => (u6 k j (by omega) (by omega) (by omega)).trans (to k j (by omega))⟩, ⟨q5, w8, (wo a 9 (by omega) (by omega) (by omega)).trans e9, fun _ => ⟨fun z hz => (wo _ _ (by omega) (by omega) (by omega)).trans (li1 z hz), (wo _ _ (by omega) (by omega) (by omega)).trans li2, (wo _ _ (by omega) (by omega) (by omega)).trans li3⟩, fun h => ?_, fun h => ?_, fun _ => ⟨n1.trans l1, TR_o (fun k j h1 h2 => wo k j (by omega) (by omega) (by omega)) (g8 l8).2⟩, fun _ => u4, fun h => ?_⟩, q6, n8.trans l8⟩
    · exact ⟨n1.trans l1, TM_o (fun k j h1 h2 => wo k j (by omega) (by omega) (by omega)) (g2 (n2 ▸ h)).2⟩
    · exact TR_o (fun k j h1 h2 => wo k j (by omega) (by omega) (by omega)) (g4 (n4 ▸ h))
    · obtain ⟨x1, x2⟩ := g32 (n32 ▸ h)
      exact ⟨n2.trans x1, fun k hk => by rw [wo _ _ (by omega) (by omega) (by omega)]; exact x2 k hk⟩
