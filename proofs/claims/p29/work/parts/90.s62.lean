/-! THE CLASS: the coarse table -/
theorem dsc_r {f : Nat → Int} {R C : Nat} (M : MP f R C) {y : Nat} (hy : y < 9) : 0 ≤ dsc f y ∧ dsc f y ≤ 4 ∧ (y < 8 → dsc f y ≤ 3 ∧ dsc f y = f (44 + y)) := by
  unfold dsc
  by_cases q : y = 8
  · rw [if_pos q]
    omega
  · rw [if_neg q]
    have := M.2.2.2.2.2.2.1 y (by omega)
    omega
/-- amounts of the coarse table, by weights or by cells -/
def Fco (f : Nat → Int) (R C g x d : Nat) (b : Bool) : Int := sg (fun y => if dsc f y = (d : Int) then SO f R C g x y b else 0) 9
theorem Fco_pz {f : Nat → Int} {R C g x d : Nat} (M : MP f R C) (h7 : f 2 = 7) (hx : x < 8) (b : Bool) : Fco f R C g x d b = sg (pz (fun k => decide (co f C 0 k < 8)) (co f C 0) (fun k => (dsc f (co f C 1 k)).toNat) (fun k => if b = true then 1 else wt f C g k) x d) (R * C) := by
  have e : Fco f R C g x d b = sg (fun y => sg (fun k => if dsc f y = (d : Int) then pz (fun k => decide (co f C 0 k < 8)) (co f C 0) (co f C 1) (fun k => if b = true then 1 else wt f C g k) x y k else 0) (R * C)) 9 := sg_eq fun y hy => by
    by_cases q : dsc f y = (d : Int)
    · rw [if_pos q, SO_pz M h7 hx b]
      exact sg_eq fun k _ => by rw [if_pos q]
    · rw [if_neg q, sg_0 fun k _ => if_neg q]
  rw [e, sg_swap (fun y k => if dsc f y = (d : Int) then pz (fun k => decide (co f C 0 k < 8)) (co f C 0) (co f C 1) (fun k => if b = true then 1 else wt f C g k) x y k else 0) (R * C) 9]
  refine sg_eq fun k hk => ?_
  obtain ⟨_, ⟨_, c1⟩, _⟩ := co_s M h7 hk
  have dr := dsc_r M (show co f C 1 k < 9 by omega)
  rw [sg_single (i := co f C 1 k) (by omega) fun y hy hn => by
    have z : pz (fun k => decide (co f C 0 k < 8)) (co f C 0) (co f C 1) (fun k => if b = true then 1 else wt f C g k) x y k = 0 := if_neg fun h => hn h.2.2.symm
    rw [z]
    split <;> rfl]
  unfold pz
  by_cases q : dsc f (co f C 1 k) = (d : Int)
  · rw [if_pos q]
    by_cases q2 : decide (co f C 0 k < 8) = true ∧ co f C 0 k = x
    · rw [if_pos ⟨q2.1, q2.2, rfl⟩, if_pos ⟨q2.1, q2.2, show (dsc f (co f C 1 k)).toNat = d by omega⟩]
    · rw [if_neg (fun h => q2 ⟨h.1, h.2.1⟩), if_neg (fun h => q2 ⟨h.1, h.2.1⟩)]
  · rw [if_neg q, if_neg (fun h => q (by
      have h' : (dsc f (co f C 1 k)).toNat = d := h.2.2
      omega))]
theorem sum_dsc {f : Nat → Int} {R C : Nat} (M : MP f R C) (h : Nat → Int) : sg (fun d => sg (fun y => if dsc f y = ((d : Nat) : Int) then h y else 0) 9) 9 = sg h 9 := by
  rw [sg_swap (fun d y => if dsc f y = ((d : Nat) : Int) then h y else 0) 9 9]
  refine sg_eq fun y hy => ?_
  have dr := dsc_r M hy
  rw [sg_single (i := (dsc f y).toNat) (by omega) fun d hd hn => if_neg fun h => hn (by omega)]
  exact if_pos (by omega)
theorem PA_co {f : Nat → Int} {R C g : Nat} (M : MP f R C) (h7 : f 2 = 7) (hg : g < 3) : PA (LV f R C g) (Aco f R C g) ∧ sg (fun x => sg (fun y => Aco f R C g x y) 9) 8 ≤ 864 ∧ (∀ x d, d < 9 → 4 < d → Aco f R C g x d = 0) ∧ ∀ x, sg (fun d => Aco f R C g x d) 9 = sg (fun y => PMV f R C g x y) 9 := by
  obtain ⟨p1, p2⟩ := PA_mv M h7 hg
  have rows : ∀ x, sg (fun d => Aco f R C g x d) 9 = sg (fun y => PMV f R C g x y) 9 := fun x => sum_dsc M (fun y => PMV f R C g x y)
  have nn : ∀ x y, 0 ≤ PMV f R C g x y := fun x y => (SO_r M h7 hg x y _).1
  have B : sg (fun x => sg (fun y => Aco f R C g x y) 9) 8 ≤ 864 := by
    rw [sg_eq (g := fun x => sg (fun y => PMV f R C g x y) 9) fun x _ => rows x]
    exact p2
  have an : ∀ x d, 0 ≤ Aco f R C g x d := fun x d => sg_nn fun y _ => by
    show 0 ≤ (if dsc f y = (d : Int) then PMV f R C g x y else 0)
    split
    · exact nn x y
    · exact Int.le_refl 0
  refine ⟨⟨p1.1, fun x y hx hy => ⟨an x y, ?_⟩, by omega⟩, B, fun x d _ h4 => sg_0 fun y hy => if_neg fun h => ?_, rows⟩
  · have a := sg_at (f := fun y => Aco f R C g x y) (n := 9) (fun k _ => an x k) y hy
    have b := sg_at (f := fun x => sg (fun y => Aco f R C g x y) 9) (n := 8) (fun k _ => sg_nn fun y _ => an k y) x hx
    omega
  · have := dsc_r M hy
    omega
theorem sl_25 {f : Nat → Int} {R C g a : Nat} (M : MP f R C) (h7 : f 2 = 7) (hg : g < 3) (h71 : 71 ≤ a) (ht : fx_oc (a + 21) 7 = true) : ∀ (r k n : Nat) (s : gx_S), k + r = R * C → r < n → MR s 1 f R C → s.1 a 9 = g → ∃ u : gx_S, gm_25_35 n a ((R * C : Nat) : Int) k s = some u ∧ AC (a + 21) s u (fun x y => sg (fun i => pz (fun k => decide (co f C 0 k < 8)) (co f C 0) (fun k => (dsc f (co f C 1 k)).toNat) (wt f C g) x y (k + i)) r) (fun x y => sg (fun i => pz (fun k => decide (co f C 0 k < 8)) (co f C 0) (fun k => (dsc f (co f C 1 k)).toNat) (fun _ => 1) x y (k + i)) r) := by
  have hRC := RC_96 M.1.2.2.1 M.1.2.2.2
  intro r
  induction r with
  | zero =>
    intro k n s hk hn m e9
    obtain ⟨n, rfl⟩ : ∃ n', n = n' + 1 := ⟨n - 1, by omega⟩
    refine ⟨s, ?_, AC_0 _ _ (fun x y i => pz (fun k => decide (co f C 0 k < 8)) (co f C 0) (fun k => (dsc f (co f C 1 k)).toNat) (wt f C g) x y (k + i)) (fun x y i => pz (fun k => decide (co f C 0 k < 8)) (co f C 0) (fun k => (dsc f (co f C 1 k)).toNat) (fun _ => 1) x y (k + i))⟩
    rw [gm_25_35, if_pos (by omega), if_pos (by omega), if_pos (by omega)]
  | succ r ih =>
    intro k n s hk hn m e9
    obtain ⟨n, rfl⟩ : ∃ n', n = n' + 1 := ⟨n - 1, by omega⟩
    have hkl : k < R * C := by omega
    have ce : ((k : Int) + 1) = ((k + 1 : Nat) : Int) := rfl
    obtain ⟨⟨_, c0⟩, ⟨_, c1⟩, ⟨_, c2⟩⟩ := co_s M h7 hkl
    obtain ⟨g0, g1, g2⟩ := sp_60g m M h7 hkl
    have g3 := sp_61g m M h7 hg hkl
    have dr := dsc_r M (show co f C 1 k < 9 by omega)
    rw [gm_25_35, if_pos (by omega), if_pos (by omega), if_neg (by omega), g0, Option.bind_some]
    show ∃ u : gx_S, ((gm_60 1 1 k s).bind _) = some u ∧ _
    rw [g1, Option.bind_some, if_pos (by omega)]
    by_cases q : co f C 0 k < 8
    · have ad : gm_25_88 (gm_25_35 n) a ((R * C : Nat) : Int) k (co f C 0 k) (dsc f (co f C 1 k)) s = gm_25_35 n a ((R * C : Nat) : Int) ((k + 1 : Nat) : Int) (adt s (a + 21) (co f C 0 k) (dsc f (co f C 1 k)).toNat (wt f C g k) 1) := by
        unfold gm_25_88
        rw [e9, g3, Option.bind_some]
        have c69 := sp_69 (t := a + 21) (x := co f C 0 k) (y := (dsc f (co f C 1 k)).toNat) (v := wt f C g k) (w := 1) s ht q (by omega)
        rw [show (((dsc f (co f C 1 k)).toNat : Nat) : Int) = dsc f (co f C 1 k) by omega] at c69
        show ((gm_69 (a + 21) (co f C 0 k : Int) (dsc f (co f C 1 k)) (wt f C g k) 1 s).bind _) = _
        rw [c69, Option.bind_some]
        unfold gm_25_113
        rw [ce]
      have go : (if (-2147483648 ≤ (co f C 1 k : Int) ∧ (co f C 1 k : Int) ≤ 2147483647) then (if 8 ≤ (co f C 1 k : Int) then gm_25_88 (gm_25_35 n) a ((R * C : Nat) : Int) k (co f C 0 k) 4 s else (if 0 ≤ (co f C 1 k : Int) ∧ (co f C 1 k : Int) < 8 then gm_25_88 (gm_25_35 n) a ((R * C : Nat) : Int) k (co f C 0 k) (s.1 5 (co f C 1 k : Int).toNat) s else none)) else none) = gm_25_88 (gm_25_35 n) a ((R * C : Nat) : Int) k (co f C 0 k) (dsc f (co f C 1 k)) s := by
        rw [if_pos (by omega)]
        by_cases q2 : co f C 1 k < 8
        · rw [if_neg (by omega), if_pos (by omega), show ((co f C 1 k : Int)).toNat = co f C 1 k by omega]
          have e5 := m.2.2.2.2.2.2.2.1 (co f C 1 k) q2
          rw [show (1 : Nat) + 4 = 5 from rfl] at e5
          rw [e5, (dr.2.2 q2).2]
        · rw [if_pos (by omega), show dsc f (co f C 1 k) = 4 from if_pos (by omega)]
      rw [if_neg (by omega)]
      show ∃ u : gx_S, (if (-2147483648 ≤ (co f C 1 k : Int) ∧ (co f C 1 k : Int) ≤ 2147483647) then (if 8 ≤ (co f C 1 k : Int) then gm_25_88 (gm_25_35 n) a ((R * C : Nat) : Int) k (co f C 0 k) 4 s else (if 0 ≤ (co f C 1 k : Int) ∧ (co f C 1 k : Int) < 8 then gm_25_88 (gm_25_35 n) a ((R * C : Nat) : Int) k (co f C 0 k) (s.1 5 (co f C 1 k : Int).toNat) s else none)) else none) = some u ∧ _
      rw [go, ad]
      obtain ⟨u, u1, u2⟩ := ih (k + 1) n (adt s (a + 21) (co f C 0 k) (dsc f (co f C 1 k)).toNat (wt f C g k) 1) (by omega) (by omega) (MR_adt (by omega) m) ((adt_o _ _ _ _ _ _ _ _ (by omega) (by omega)).trans e9)
      exact ⟨u, u1, AC_add (K := fun k => decide (co f C 0 k < 8)) (X := co f C 0) (Y := fun k => (dsc f (co f C 1 k)).toNat) (w := wt f C g) (decide_eq_true q) q (show (dsc f (co f C 1 k)).toNat < 9 by omega) u2⟩
    · rw [if_pos (by omega)]
      unfold gm_25_113
      rw [ce]
      obtain ⟨u, u1, u2⟩ := ih (k + 1) n s (by omega) (by omega) m e9
      exact ⟨u, u1, AC_skip (K := fun k => decide (co f C 0 k < 8)) (decide_eq_false q) u2⟩
theorem sp_25 {s : gx_S} {f : Nat → Int} {R C g a : Nat} (m : MR s 1 f R C) (M : MP f R C) (h7 : f 2 = 7) (hg : g < 3) (h71 : 71 ≤ a) (ho : fx_oc a 2 = true) (ht : fx_oc (a + 21) 7 = true) (e9 : s.1 a 9 = g) (hl : ∀ z, z < 8 → s.1 (a + 1) z = LV f R C g z) : ∃ u w : gx_S, gm_25 a s = some u ∧ u.1 1 7 = f 3 ∧ gm_41 (a + 21) (f 3) u = some w ∧ TR w (a + 21) (f 3) (LV f R C g) (Aco f R C g) ∧ w.2 = s.2 ∧ ∀ k j, ¬ (7 ≤ k ∧ k ≤ 13) → ¬ (k = 6 ∧ j = 7) → ¬ (a + 22 ≤ k ∧ k ≤ a + 29) → w.1 k j = s.1 k j := by
  obtain ⟨b, b1, b2, b3, b4, b5⟩ := sp_68 s ht
  obtain ⟨c, hc⟩ : ∃ c, c = gcp b (a + 1) 0 (a + 21 + 1) 0 8 := ⟨_, rfl⟩
  have ck : ∀ k i, k ≠ a + 21 + 1 → c.1 k i = b.1 k i := fun k i h => by
    rw [hc]
    exact if_neg fun x => h x.1
  have c1 : ∀ x, x < 8 → c.1 (a + 21 + 1) x = LV f R C g x := fun x hx => by
    rw [hc]
    show (if a + 21 + 1 = a + 21 + 1 ∧ 0 ≤ x ∧ x < 0 + 8 then b.1 (a + 1) (0 + (x - 0)) else b.1 (a + 21 + 1) x) = _
    rw [if_pos ⟨rfl, by omega, by omega⟩, show 0 + (x - 0) = x by omega, b5 _ _ (by omega) (by omega) (by omega)]
    exact hl x hx
  have mc : MR c 1 f R C := MR_o (fun k j h1 h2 => (ck k j (by omega)).trans (b5 k j (by omega) (by omega) (by omega))) m
  have c9 : c.1 a 9 = g := by rw [ck _ _ (by omega), b5 _ _ (by omega) (by omega) (by omega)]; exact e9
  have hRC := RC_96 M.1.2.2.1 M.1.2.2.2
  obtain ⟨u, u1, u2, u3, u4⟩ := sl_25 M h7 hg h71 ht (R * C) 0 100000 c (by omega) (by omega) mc c9
  have u1 : gm_25_35 100000 a ((R * C : Nat) : Int) 0 c = some u := u1
  have e45 : ∀ x y, x < 8 → y < 9 → u.1 (a + 21 + 4) (9 * x + y) = Fco f R C g x y false ∧ u.1 (a + 21 + 5) (9 * x + y) = Fco f R C g x y true := fun x y hx hy => by
    obtain ⟨q1, q2⟩ := u4 x y hx hy
    have z := b4 (9 * x + y) (by omega)
    rw [ck _ _ (by omega), z.1] at q1
    rw [ck _ _ (by omega), z.2] at q2
    rw [q1, q2, Fco_pz M h7 hx false, Fco_pz M h7 hx true]
    constructor
    · rw [Int.zero_add]
      exact sg_eq fun k _ => by rw [Nat.zero_add]; rfl
    · rw [Int.zero_add]
      exact sg_eq fun k _ => by rw [Nat.zero_add]; rfl
  obtain ⟨pa, p8, p0, prow⟩ := PA_co M h7 hg
  have Fb : ∀ x d b, 0 ≤ Fco f R C g x d b ∧ Fco f R C g x d b ≤ 864 := fun x d b => by
    have nn : ∀ y : Nat, 0 ≤ SO f R C g x y b := fun y => (SO_r M h7 hg x y b).1
    refine ⟨sg_nn fun y _ => ?_, ?_⟩
    · show 0 ≤ (if dsc f y = (d : Int) then SO f R C g x y b else 0)
      split
      · exact nn y
      · exact Int.le_refl 0
    · have e := sg_le (f := fun y => if dsc f y = (d : Int) then SO f R C g x ((y : Nat) : Int) b else 0) (g := fun y => SO f R C g x ((y : Nat) : Int) b) (n := 9) fun y _ => by
        show (if dsc f y = (d : Int) then SO f R C g x y b else 0) ≤ SO f R C g x y b
        split
        · exact Int.le_refl _
        · exact nn y
      rw [SO_row M h7 x b] at e
      have := (SO_r M h7 hg x (-1) b).2
      unfold Fco
      omega
  have hb : ∀ i, i < 72 → (0 ≤ u.1 (a + 21 + 4) i ∧ u.1 (a + 21 + 4) i ≤ 1000000) ∧ (0 ≤ u.1 (a + 21 + 5) i ∧ u.1 (a + 21 + 5) i ≤ 1000000) := fun i hi => by
    have e : 9 * (i / 9) + i % 9 = i := by omega
    have q := e45 (i / 9) (i % 9) (by omega) (by omega)
    rw [e] at q
    rw [q.1, q.2]
    have r1 := Fb (i / 9) (i % 9) false
    have r2 := Fb (i / 9) (i % 9) true
    omega
  obtain ⟨w, w1, w2, w3, _⟩ := TR_class (t := a + 21) ht M.2.2.1 pa (fun _ => p8) (fun x hx => (u3 _ _ (by omega) (by omega)).trans (c1 x hx)) hb fun x y hx hy => am_SO (T := Aco f R C g) (R := R) (C := C) (f := f) (g := g) (fun x y b => Fco f R C g x y b) (fun y hy => (e45 x y hx hy).1) (fun y hy => (e45 x y hx hy).2) hy (by
    have e : sg (fun y => Fco f R C g x y false) 9 = SO f R C g x (-1) false := (sum_dsc M (fun y => SO f R C g x ((y : Nat) : Int) false)).trans (SO_row M h7 (x : Int) false)
    rw [e]
    rfl)
  refine ⟨u, w, ?_, ?_, w1, w2, ?_, fun k j h1 h2 h3 => ?_⟩
  · unfold gm_25
    rw [if_pos ho, b1, Option.bind_some, ← hc, sp_58 (MR_cz mc M), Option.bind_some, u1]
  · rw [u3 1 7 (by omega) (by omega)]
    exact mc.2.2.2.1
  · rw [w3.1, u2, hc]
    exact b2
  · rw [w3.2 k j h1 h2 (by omega) (by omega), u3 k j (by omega) (by omega), ck k j (by omega), b5 k j (by omega) (by omega) (by omega)]
theorem rd_8 {s : gx_S} {f : Nat → Int} {R C g a D : Nat} {what : Int} (hwt : what = 8 ∨ what = 16) (m : MR s 1 f R C) (M : MP f R C) (h7 : f 2 = 7) (hg : g < 3) (ha : ga a) (G : GGD s f R C g a D) (l1 : D / 1 % 2 = 1) : ∃ (D' : Nat) (u : gx_S), gm_19_103 a what s = gm_19_155 a what u ∧ KG a s u ∧ GGD u f R C g a D' ∧ D' / 8 % 2 = 1 ∧ D' / 1 % 2 = 1 := by
  obtain ⟨a71, a215, ho, t3, t12, t21, t30, t39⟩ := id ha
  obtain ⟨hD, e8, e9, g1, g2, g4, g8, g16, g32⟩ := G
  obtain ⟨D', t, q1, q2, q3, q4, q5, q6, q7⟩ := sp_21 (w := 8) ho hD (by decide) e8
  have q1 : gm_21 a 8 s = some (decide (¬ D / 8 % 2 = 1), t) := q1
  have n1 := q7 1 (by decide) (by decide)
  have n2 := q7 2 (by decide) (by decide)
  have n4 := q7 4 (by decide) (by decide)
  have n16 := q7 16 (by decide) (by decide)
  have n32 := q7 32 (by decide) (by decide)
  have to : ∀ k j, ¬ (k = a ∧ j = 8) → t.1 k j = s.1 k j := q3
  obtain ⟨li1, li2, li3⟩ := g1 l1
  have hd : gm_19_103 a what s = gm_19_115 a what s := by
    unfold gm_19_103
    rcases hwt with e | e
    · rw [e, if_pos (by decide), if_pos rfl]
    · rw [e, if_pos (by decide), if_neg (by decide), if_neg (by decide)]
  rw [hd]
  unfold gm_19_115
  rw [q1, Option.bind_some]
  by_cases z : D / 8 % 2 = 1
  · rw [decide_eq_false (fun h => h z), if_pos (show gb (false, t).1 = 0 from (by decide : gb false = 0))]
    refine ⟨D', t, rfl, ⟨q2, fun k j h1 h2 => to k j (by omega)⟩, ⟨q5, q4, (to a 9 (by omega)).trans e9, fun _ => ⟨fun z hz => (to _ _ (by omega)).trans (li1 z hz), (to _ _ (by omega)).trans li2, (to _ _ (by omega)).trans li3⟩, fun h => ?_, fun h => ?_, fun h => ?_, fun h => ?_, fun h => ?_⟩, q6, n1.trans l1⟩
    · exact ⟨n1.trans l1, TM_o (fun k j h1 h2 => to k j (by omega)) (g2 (n2 ▸ h)).2⟩
    · exact TR_o (fun k j h1 h2 => to k j (by omega)) (g4 (n4 ▸ h))
    · exact ⟨n1.trans l1, TR_o (fun k j h1 h2 => to k j (by omega)) (g8 z).2⟩
    · exact TR_o (fun k j h1 h2 => to k j (by omega)) (g16 (n16 ▸ h))
    · obtain ⟨x1, x2⟩ := g32 (n32 ▸ h)
      exact ⟨n2.trans x1, fun k hk => by rw [to _ _ (by omega)]; exact x2 k hk⟩
  · rw [decide_eq_true z, if_neg (show ¬ gb (true, t).1 = 0 from (by decide : ¬ gb true = 0))]
    have mt : MR t 1 f R C := MR_o (fun k j h1 h2 => to k j (by omega)) m
    obtain ⟨u, w, u1, u2, u3, u4, u5, u6⟩ := sp_25 mt M h7 hg a71 ho t21 ((to a 9 (by omega)).trans e9) fun z hz => (to _ _ (by omega)).trans (li1 z hz)
    have wo : ∀ k j, a ≤ k → ¬ (k = a ∧ j = 8) → ¬ (a + 22 ≤ k ∧ k ≤ a + 29) → w.1 k j = s.1 k j := fun k j h1 h2 h3 => (u6 k j (by omega) (by omega) h3).trans (to k j h2)
    have w8 : w.1 a 8 = D' := (u6 a 8 (by omega) (by omega) (by omega)).trans q4
    have m3 := M.2.2.1
    have st : ((gm_25 a (true, t).2).bind fun q5 => if (-2147483648 ≤ (q5.1 1 7) ∧ (q5.1 1 7) ≤ 2147483647) then (if ¬ (q5.1 1 7) = 1 then gm_19_152 a what (a + 21) 0 q5 else gm_19_152 a what (a + 21) 1 q5) else none) = gm_19_155 a what w := by
      show ((gm_25 a t).bind _) = _
      rw [u1, Option.bind_some, u2, if_pos (by omega)]
      unfold gm_19_152
      rcases m3 with e | e
      · rw [e] at u3
        rw [if_pos (by rw [e]; decide), u3, Option.bind_some]
      · rw [e] at u3
        rw [if_neg (by rw [e]; decide), u3, Option.bind_some]
    rw [st]
    refine ⟨D', w, rfl, ⟨u5.trans q2, fun k j h1 h2 => (u6 k j (by omega) (by omega) (by omega)).trans (to k j (by omega))⟩, ⟨q5, w8, (wo a 9 (by omega) (by omega) (by omega)).trans e9, fun _ => ⟨fun z hz => (wo _ _ (by omega) (by omega) (by omega)).trans (li1 z hz), (wo _ _ (by omega) (by omega) (by omega)).trans li2, (wo _ _ (by omega) (by omega) (by omega)).trans li3⟩, fun h => ?_, fun h => ?_, fun _ => ⟨n1.trans l1, u4⟩, fun h => ?_, fun h => ?_⟩, q6, n1.trans l1⟩
    · exact ⟨n1.trans l1, TM_o (fun k j h1 h2 => wo k j (by omega) (by omega) (by omega)) (g2 (n2 ▸ h)).2⟩
    · exact TR_o (fun k j h1 h2 => wo k j (by omega) (by omega) (by omega)) (g4 (n4 ▸ h))
    · exact TR_o (fun k j h1 h2 => wo k j (by omega) (by omega) (by omega)) (g16 (n16 ▸ h))
    · obtain ⟨x1, x2⟩ := g32 (n32 ▸ h)
      exact ⟨n2.trans x1, fun k hk => by rw [wo _ _ (by omega) (by omega) (by omega)]; exact x2 k hk⟩
