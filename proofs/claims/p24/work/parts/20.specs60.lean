section
/-! THE CLASS: the moves made ready -/
theorem rd_2 {s : gx_S} {f : Nat → Int} {R C g a D : Nat} {what : Int} (m : MR s 1 f R C) (M : MP f R C) (h7 : f 2 = 7) (hg : g < 3) (ha : ga a) (G : GGD s f R C g a D) (l1 : D / 1 % 2 = 1) : ∃ (D' : Nat) (u : gx_S), gm_19_20 a what s = gm_19_59 a what u ∧ KG a s u ∧ GGD u f R C g a D' ∧ D' / 1 % 2 = 1 ∧ D' / 2 % 2 = 1 := by
  obtain ⟨a71, a215, ho, t3, t12, t21, t30, t39⟩ := id ha
  obtain ⟨hD, e8, e9, g1, g2, g4, g8, g16, g32⟩ := G
  obtain ⟨D', t, q1, q2, q3, q4, q5, q6, q7⟩ := sp_21 (w := 2) ho hD (by decide) e8
  have q1 : gm_21 a 2 s = some (decide (¬ D / 2 % 2 = 1), t) := q1
  have n1 := q7 1 (by decide) (by decide)
  have n4 := q7 4 (by decide) (by decide)
  have n8 := q7 8 (by decide) (by decide)
  have n16 := q7 16 (by decide) (by decide)
  have n32 := q7 32 (by decide) (by decide)
  have to : ∀ k j, ¬ (k = a ∧ j = 8) → t.1 k j = s.1 k j := q3
  obtain ⟨li1, li2, li3⟩ := g1 l1
  unfold gm_19_20
  rw [q1, Option.bind_some]
  by_cases z : D / 2 % 2 = 1
  · rw [decide_eq_false (fun h => h z), if_pos (show gb (false, t).1 = 0 from (by decide : gb false = 0))]
    refine ⟨D', t, rfl, ⟨q2, fun k j h1 h2 => to k j (by omega)⟩, ⟨q5, q4, (to a 9 (by omega)).trans e9, fun _ => ⟨fun z hz => (to _ _ (by omega)).trans (li1 z hz), (to _ _ (by omega)).trans li2, (to _ _ (by omega)).trans li3⟩, fun h => ?_, fun h => ?_, fun h => ?_, fun h => ?_, fun h => ?_⟩, n1.trans l1, q6⟩
    · exact ⟨n1.trans l1, TM_o (fun k j h1 h2 => to k j (by omega)) (g2 z).2⟩
    · exact TR_o (fun k j h1 h2 => to k j (by omega)) (g4 (n4 ▸ h))
    · exact ⟨n1.trans l1, TR_o (fun k j h1 h2 => to k j (by omega)) (g8 (n8 ▸ h)).2⟩
    · exact TR_o (fun k j h1 h2 => to k j (by omega)) (g16 (n16 ▸ h))
    · obtain ⟨x1, x2⟩ := g32 (n32 ▸ h)
      exact ⟨q6, fun k hk => by rw [to _ _ (by omega)]; exact x2 k hk⟩
  · rw [decide_eq_true z, if_neg (show ¬ gb (true, t).1 = 0 from (by decide : ¬ gb true = 0))]
    have mt : MR t 1 f R C := MR_o (fun k j h1 h2 => to k j (by omega)) m
    obtain ⟨u, w, u1, u2, u3, u4, u5, u6⟩ := sp_23 mt M h7 hg a71 ho t3 ((to a 9 (by omega)).trans e9) fun z hz => (to _ _ (by omega)).trans (li1 z hz)
    have wo : ∀ k j, a ≤ k → ¬ (k = a ∧ j = 8) → ¬ (a + 4 ≤ k ∧ k ≤ a + 11) → w.1 k j = s.1 k j := fun k j h1 h2 h3 => (u6 k j (by omega) (by omega) h3).trans (to k j h2)
    have w8 : w.1 a 8 = D' := (u6 a 8 (by omega) (by omega) (by omega)).trans q4
    have m3 := M.2.2.1
    have st : ((gm_23 a (true, t).2).bind fun q5 => if (-2147483648 ≤ (q5.1 1 7) ∧ (q5.1 1 7) ≤ 2147483647) then (if ¬ (q5.1 1 7) = 1 then gm_19_56 a what (a + 3) 0 q5 else gm_19_56 a what (a + 3) 1 q5) else none) = gm_19_59 a what w := by
      show ((gm_23 a t).bind _) = _
      rw [u1, Option.bind_some, u2, if_pos (by omega)]
      unfold gm_19_56
      rcases m3 with e | e
      · rw [e] at u3
        rw [if_pos (by rw [e]; decide), u3, Option.bind_some]
      · rw [e] at u3
        rw [if_neg (by rw [e]; decide), u3, Option.bind_some]
    rw [st]
    refine ⟨D', w, rfl, ⟨u5.trans q2, fun k j h1 h2 => (u6 k j (by omega) (by omega) (by omega)).trans (to k j (by omega))⟩, ⟨q5, w8, (wo a 9 (by omega) (by omega) (by omega)).trans e9, fun _ => ⟨fun z hz => (wo _ _ (by omega) (by omega) (by omega)).trans (li1 z hz), (wo _ _ (by omega) (by omega) (by omega)).trans li2, (wo _ _ (by omega) (by omega) (by omega)).trans li3⟩, fun _ => ⟨n1.trans l1, u4⟩, fun h => ?_, fun h => ?_, fun h => ?_, fun h => ?_⟩, n1.trans l1, q6⟩
    · exact TR_o (fun k j h1 h2 => wo k j (by omega) (by omega) (by omega)) (g4 (n4 ▸ h))
    · exact ⟨n1.trans l1, TR_o (fun k j h1 h2 => wo k j (by omega) (by omega) (by omega)) (g8 (n8 ▸ h)).2⟩
    · exact TR_o (fun k j h1 h2 => wo k j (by omega) (by omega) (by omega)) (g16 (n16 ▸ h))
    · exact absurd (g32 (n32 ▸ h)).1 z
end
section
/-! THE CLASS: the table back -/
theorem sp_76 {s : gx_S} {t y : Nat} (ht : fx_oc t 7 = true) (hy : y < 9) : gm_76 t y s = some (sg (fun x => s.1 (t + 8) (9 * x + y)) 8, s) := by
  have e : ∀ (n j : Nat), 8 < n + j → j ≤ 8 → gm_76_4 n t y (sg (fun x => s.1 (t + 8) (9 * x + y)) j) j s = some (sg (fun x => s.1 (t + 8) (9 * x + y)) 8, s) := by
    intro n
    induction n with
    | zero => intro j h; omega
    | succ n ih =>
      intro j h' hj
      rw [gm_76_4, if_pos (by omega)]
      by_cases q : j = 8
      · rw [if_pos (by omega), q]
      · have ce : ((j : Int) + 1) = ((j + 1 : Nat) : Int) := rfl
        have i1 : (((j : Int) * 9) + (y : Int)).toNat = 9 * j + y := by omega
        rw [if_neg (by omega), if_pos (by omega), i1, ce]
        exact ih (j + 1) (by omega) (by omega)
  unfold gm_76
  rw [if_pos ht]
  exact e 100000 0 (by omega) (by omega)
theorem SO_pz2 {f : Nat → Int} {R C g x y : Nat} (M : MP f R C) (h7 : f 2 = 7) (hx : x < 8) (b : Bool) : SO f R C g y x b = sg (pz (fun k => decide (co f C 1 k < 8)) (co f C 1) (co f C 0) (fun k => if b = true then 1 else wt f C g k) x y) (R * C) := by
  refine sg_eq fun k hk => ?_
  obtain ⟨⟨c0, _⟩, ⟨c1, _⟩, _⟩ := co_s M h7 hk
  unfold pz
  rw [c0, c1]
  by_cases q : co f C 1 k = x ∧ co f C 0 k = y
  · rw [if_pos (show (((y : Nat) : Int) = -1 ∨ (co f C 0 k : Int) = y) ∧ (((x : Nat) : Int) = -1 ∨ (co f C 1 k : Int) = x) by omega), if_pos (show decide (co f C 1 k < 8) = true ∧ co f C 1 k = x ∧ co f C 0 k = y from ⟨decide_eq_true (by omega), q⟩)]
    rfl
  · rw [if_neg (show ¬ ((((y : Nat) : Int) = -1 ∨ (co f C 0 k : Int) = y) ∧ (((x : Nat) : Int) = -1 ∨ (co f C 1 k : Int) = x)) by omega), if_neg (fun h => q h.2)]
theorem SO_col {f : Nat → Int} {R C g : Nat} (M : MP f R C) (h7 : f 2 = 7) (z : Int) (b : Bool) : sg (fun y => SO f R C g ((y : Nat) : Int) z b) 9 = SO f R C g (-1) z b := by
  unfold SO
  rw [sg_swap (fun y k => if (((y : Nat) : Int) = -1 ∨ f (52 + 96 * 0 + 12 * (k / C) + k % C) = ((y : Nat) : Int)) ∧ (z = -1 ∨ f (52 + 96 * 1 + 12 * (k / C) + k % C) = z) then (if b = true then 1 else f (32 + 4 * g + (f (52 + 96 * 2 + 12 * (k / C) + k % C)).toNat)) else 0) (R * C) 9]
  refine sg_eq fun k hk => ?_
  obtain ⟨⟨c0, l0⟩, _, _⟩ := co_s M h7 hk
  rw [sg_single (i := co f C 0 k) (by omega) fun y hy hn => if_neg fun h => by
    have := h.1
    omega]
  by_cases q : z = -1 ∨ f (52 + 96 * 1 + 12 * (k / C) + k % C) = z
  · rw [if_pos (show (((co f C 0 k : Nat) : Int) = -1 ∨ f (52 + 96 * 0 + 12 * (k / C) + k % C) = ((co f C 0 k : Nat) : Int)) ∧ (z = -1 ∨ f (52 + 96 * 1 + 12 * (k / C) + k % C) = z) from ⟨.inr c0, q⟩), if_pos (show ((-1 : Int) = -1 ∨ f (52 + 96 * 0 + 12 * (k / C) + k % C) = -1) ∧ (z = -1 ∨ f (52 + 96 * 1 + 12 * (k / C) + k % C) = z) from ⟨.inl rfl, q⟩)]
  · rw [if_neg (show ¬ ((((co f C 0 k : Nat) : Int) = -1 ∨ f (52 + 96 * 0 + 12 * (k / C) + k % C) = ((co f C 0 k : Nat) : Int)) ∧ (z = -1 ∨ f (52 + 96 * 1 + 12 * (k / C) + k % C) = z)) from fun h => q h.2), if_neg (show ¬ (((-1 : Int) = -1 ∨ f (52 + 96 * 0 + 12 * (k / C) + k % C) = -1) ∧ (z = -1 ∨ f (52 + 96 * 1 + 12 * (k / C) + k % C) = z)) from fun h => q h.2)]
theorem GV_r {f : Nat → Int} {R C g : Nat} (M : MP f R C) (h7 : f 2 = 7) (hg : g < 3) : (∀ x y, x < 8 → y < 9 → 0 ≤ GV f R C g x y ∧ GV f R C g x y ≤ LV f R C g x) ∧ sg (LV f R C g) 8 ≤ 89991 ∧ ∀ y, y < 9 → 0 ≤ sg (fun x => GV f R C g x y) 8 ∧ sg (fun x => GV f R C g x y) 8 ≤ 89991 := by
  obtain ⟨p1, p2⟩ := PA_mv M h7 hg
  obtain ⟨t1, t2⟩ := TB_0 (md := f 3) M.2.2.1 p1 (fun _ => p2)
  obtain ⟨l1, l2⟩ := LV_r M hg
  have m := (M.2.2.2.2.1 g hg).2
  have u0 := UN_r M hg
  have as0 : 0 ≤ ASf f R C g := by
    unfold ASf
    split <;> omega
  refine ⟨t1, by omega, fun y hy => ⟨sg_nn fun x hx => (t1 x y hx hy).1, ?_⟩⟩
  have := sg_le (f := fun x => GV f R C g x y) (g := LV f R C g) (n := 8) fun x hx => (t1 x y hx hy).2
  omega
theorem PA_bk {f : Nat → Int} {R C g : Nat} (M : MP f R C) (h7 : f 2 = 7) (hg : g < 3) : PA (Pbk f R C g) (Abk f R C g) ∧ sg (fun x => sg (fun y => Abk f R C g x y) 9) 8 ≤ 864 := by
  obtain ⟨v1, v2, v3⟩ := GV_r M h7 hg
  have B := SO_B M h7 hg (fun _ y => decide (SO f R C g (-1) ((y : Nat) : Int) false = 0)) 9 8
  rw [← sg_swap (fun y x => SO f R C g ((x : Nat) : Int) ((y : Nat) : Int) (decide (SO f R C g (-1) ((y : Nat) : Int) false = 0))) 9 8] at B
  have B : sg (fun x => sg (fun y => Abk f R C g x y) 9) 8 ≤ 864 := B
  refine ⟨⟨fun x hx => ?_, fun x y _ _ => ?_, by omega⟩, B⟩
  · have := v3 x (by omega)
    show 0 ≤ sg (fun z => GV f R C g z x) 8 ∧ sg (fun z => GV f R C g z x) 8 ≤ 100000000
    omega
  · have := SO_r M h7 hg y x (decide (SO f R C g (-1) x false = 0))
    unfold Abk
    omega
theorem sl_24 {f : Nat → Int} {R C g a : Nat} (M : MP f R C) (h7 : f 2 = 7) (hg : g < 3) (h71 : 71 ≤ a) (ht : fx_oc (a + 12) 7 = true) : ∀ (r k n : Nat) (s : gx_S), k + r = R * C → r < n → MR s 1 f R C → s.1 a 9 = g → ∃ u : gx_S, gm_24_17 n a ((R * C : Nat) : Int) k s = gm_24_76 100000 a 0 u ∧ AC (a + 12) s u (fun x y => sg (fun i => pz (fun k => decide (co f C 1 k < 8)) (co f C 1) (co f C 0) (wt f C g) x y (k + i)) r) (fun x y => sg (fun i => pz (fun k => decide (co f C 1 k < 8)) (co f C 1) (co f C 0) (fun _ => 1) x y (k + i)) r) := by
  have hRC := RC_96 M.1.2.2.1 M.1.2.2.2
  intro r
  induction r with
  | zero =>
    intro k n s hk hn m e9
    obtain ⟨n, rfl⟩ : ∃ n', n = n' + 1 := ⟨n - 1, by omega⟩
    refine ⟨s, ?_, AC_0 _ _ (fun x y i => pz (fun k => decide (co f C 1 k < 8)) (co f C 1) (co f C 0) (wt f C g) x y (k + i)) (fun x y i => pz (fun k => decide (co f C 1 k < 8)) (co f C 1) (co f C 0) (fun _ => 1) x y (k + i))⟩
    rw [gm_24_17, if_pos (by omega), if_pos (by omega), if_pos (by omega)]
  | succ r ih =>
    intro k n s hk hn m e9
    obtain ⟨n, rfl⟩ : ∃ n', n = n' + 1 := ⟨n - 1, by omega⟩
    have hkl : k < R * C := by omega
    have ce : ((k : Int) + 1) = ((k + 1 : Nat) : Int) := rfl
    obtain ⟨⟨_, c0⟩, ⟨_, c1⟩, ⟨_, c2⟩⟩ := co_s M h7 hkl
    obtain ⟨g0, g1, g2⟩ := sp_60g m M h7 hkl
    have g3 := sp_61g m M h7 hg hkl
    rw [gm_24_17, if_pos (by omega), if_pos (by omega), if_neg (by omega), g1, Option.bind_some, if_pos (by omega)]
    by_cases q : co f C 1 k < 8
    · rw [if_neg (by omega)]
      show ∃ u : gx_S, ((gm_60 1 0 k s).bind _) = gm_24_76 100000 a 0 u ∧ _
      rw [g0, Option.bind_some]
      show ∃ u : gx_S, ((gm_61 1 (s.1 a 9) k s).bind _) = gm_24_76 100000 a 0 u ∧ _
      rw [e9, g3, Option.bind_some]
      show ∃ u : gx_S, ((gm_69 (a + 12) (co f C 1 k : Int) (co f C 0 k : Int) (wt f C g k) 1 s).bind _) = gm_24_76 100000 a 0 u ∧ _
      rw [sp_69 s ht q (by omega), Option.bind_some]
      unfold gm_24_68
      rw [ce]
      obtain ⟨u, u1, u2⟩ := ih (k + 1) n (adt s (a + 12) (co f C 1 k) (co f C 0 k) (wt f C g k) 1) (by omega) (by omega) (MR_adt (by omega) m) ((adt_o _ _ _ _ _ _ _ _ (by omega) (by omega)).trans e9)
      exact ⟨u, u1, AC_add (K := fun k => decide (co f C 1 k < 8)) (X := co f C 1) (Y := co f C 0) (w := wt f C g) (decide_eq_true q) q (by omega) u2⟩
    · rw [if_pos (by omega)]
      unfold gm_24_68
      rw [ce]
      obtain ⟨u, u1, u2⟩ := ih (k + 1) n s (by omega) (by omega) m e9
      exact ⟨u, u1, AC_skip (K := fun k => decide (co f C 1 k < 8)) (decide_eq_false q) u2⟩
theorem sl_24_76 {a : Nat} (t3 : fx_oc (a + 3) 7 = true) : ∀ (n j : Nat) (s : gx_S), 8 < n + j → j ≤ 8 → ∃ u : gx_S, gm_24_76 n a j s = some u ∧ u.2 = s.2 ∧ (∀ k i, k ≠ a + 12 + 1 → u.1 k i = s.1 k i) ∧ ∀ i, u.1 (a + 12 + 1) i = if j ≤ i ∧ i < 8 then sg (fun x => s.1 (a + 3 + 8) (9 * x + i)) 8 else s.1 (a + 12 + 1) i := by
  intro n
  induction n with
  | zero => intro j s h; omega
  | succ n ih =>
    intro j s h hj
    rw [gm_24_76, if_pos (by omega)]
    by_cases q : j = 8
    · rw [if_pos (by omega)]
      exact ⟨s, rfl, rfl, fun _ _ _ => rfl, fun i => by rw [if_neg (by omega)]⟩
    · have ce : ((j : Int) + 1) = ((j + 1 : Nat) : Int) := rfl
      have i5 : ((j : Int)).toNat = j := by omega
      rw [if_neg (by omega), sp_76 t3 (by omega), Option.bind_some, if_pos (by omega), i5, ce]
      obtain ⟨u, u1, u2, u3, u4⟩ := ih (j + 1) (gw1 s (a + 12 + 1) j (sg (fun x => s.1 (a + 3 + 8) (9 * x + j)) 8)) (by omega) (by omega)
      refine ⟨u, u1, u2, fun k i h => by rw [u3 k i h, gw1_1, if_neg (fun x => h x.1)], fun i => ?_⟩
      rw [u4]
      by_cases e : i = j
      · rw [if_neg (show ¬ (j + 1 ≤ i ∧ i < 8) by omega), gw1_1, if_pos ⟨rfl, e⟩, if_pos (show j ≤ i ∧ i < 8 by omega), e]
      · by_cases e2 : j + 1 ≤ i ∧ i < 8
        · rw [if_pos e2, if_pos (show j ≤ i ∧ i < 8 by omega)]
          exact sg_eq fun x _ => by rw [gw1_1, if_neg (by omega)]
        · rw [if_neg e2, if_neg (show ¬ (j ≤ i ∧ i < 8) by omega), gw1_1, if_neg (fun x => e x.2)]
theorem sp_24 {s : gx_S} {f : Nat → Int} {R C g a : Nat} (m : MR s 1 f R C) (M : MP f R C) (h7 : f 2 = 7) (hg : g < 3) (h71 : 71 ≤ a) (ho : fx_oc a 2 = true) (t3 : fx_oc (a + 3) 7 = true) (ht : fx_oc (a + 12) 7 = true) (e9 : s.1 a 9 = g) (hT : TR s (a + 3) (f 3) (LV f R C g) (PMV f R C g)) : ∃ u w : gx_S, gm_24 a s = some u ∧ u.1 1 7 = f 3 ∧ gm_41 (a + 12) (f 3) u = some w ∧ TR w (a + 12) (f 3) (Pbk f R C g) (Abk f R C g) ∧ w.2 = s.2 ∧ ∀ k j, ¬ (7 ≤ k ∧ k ≤ 13) → ¬ (k = 6 ∧ j = 7) → ¬ (a + 13 ≤ k ∧ k ≤ a + 20) → w.1 k j = s.1 k j := by
  obtain ⟨c, b1, b2, b3, b4, b5⟩ := sp_68 s ht
  have mc : MR c 1 f R C := MR_o (fun k j h1 h2 => b5 k j (by omega) (by omega) (by omega)) m
  have c9 : c.1 a 9 = g := (b5 _ _ (by omega) (by omega) (by omega)).trans e9
  have hRC := RC_96 M.1.2.2.1 M.1.2.2.2
  obtain ⟨d, d1, d2, d3, d4⟩ := sl_24 M h7 hg h71 ht (R * C) 0 100000 c (by omega) (by omega) mc c9
  have d1 : gm_24_17 100000 a ((R * C : Nat) : Int) 0 c = _ := d1
  obtain ⟨u, u1, u2, u3, u4⟩ := sl_24_76 t3 100000 0 d (by omega) (by omega)
  have u1 : gm_24_76 100000 a 0 d = some u := u1
  have e45 : ∀ x y, x < 8 → y < 9 → u.1 (a + 12 + 4) (9 * x + y) = SO f R C g y x false ∧ u.1 (a + 12 + 5) (9 * x + y) = SO f R C g y x true := fun x y hx hy => by
    obtain ⟨q1, q2⟩ := d4 x y hx hy
    have z := b4 (9 * x + y) (by omega)
    rw [z.1] at q1
    rw [z.2] at q2
    rw [u3 _ _ (by omega), u3 _ _ (by omega), q1, q2, SO_pz2 M h7 hx false, SO_pz2 M h7 hx true]
    constructor
    · rw [Int.zero_add]
      exact sg_eq fun k _ => by rw [Nat.zero_add]; rfl
    · rw [Int.zero_add]
      exact sg_eq fun k _ => by rw [Nat.zero_add]; rfl
  obtain ⟨pa, p8⟩ := PA_bk M h7 hg
  have hb : ∀ i, i < 72 → (0 ≤ u.1 (a + 12 + 4) i ∧ u.1 (a + 12 + 4) i ≤ 1000000) ∧ (0 ≤ u.1 (a + 12 + 5) i ∧ u.1 (a + 12 + 5) i ≤ 1000000) := fun i hi => by
    have e : 9 * (i / 9) + i % 9 = i := by omega
    have q := e45 (i / 9) (i % 9) (by omega) (by omega)
    rw [e] at q
    rw [q.1, q.2]
    have r1 := SO_r M h7 hg ((i % 9 : Nat) : Int) ((i / 9 : Nat) : Int) false
    have r2 := SO_r M h7 hg ((i % 9 : Nat) : Int) ((i / 9 : Nat) : Int) true
    omega
  have hp : ∀ x, x < 8 → u.1 (a + 12 + 1) x = Pbk f R C g x := fun x hx => by
    rw [u4, if_pos ⟨by omega, hx⟩]
    unfold Pbk
    refine sg_eq fun z hz => ?_
    rw [d3 _ _ (by omega) (by omega), b5 _ _ (by omega) (by omega) (by omega)]
    exact ((hT z hz).2.2 x (by omega)).2.2.2
  obtain ⟨w, w1, w2, w3, _⟩ := TR_class (t := a + 12) ht M.2.2.1 pa (fun _ => p8) hp hb fun x y hx hy => am_SO (T := Abk f R C g) (R := R) (C := C) (f := f) (g := g) (fun x y b => SO f R C g y x b) (fun y hy => (e45 x y hx hy).1) (fun y hy => (e45 x y hx hy).2) hy (by
    unfold Abk
    rw [SO_col M h7 (x : Int) false])
  refine ⟨u, w, ?_, ?_, w1, w2, ?_, fun k j h1 h2 h3 => ?_⟩
  · unfold gm_24
    rw [if_pos ho, b1, Option.bind_some, sp_58 (MR_cz mc M), Option.bind_some, d1, u1]
  · rw [u3 1 7 (by omega), d3 1 7 (by omega) (by omega)]
    exact mc.2.2.2.1
  · rw [w3.1, u2, d2]
    exact b2
  · rw [w3.2 k j h1 h2 (by omega) (by omega), u3 k j (by omega), d3 k j (by omega) (by omega), b5 k j (by omega) (by omega) (by omega)]
theorem rd_4 {s : gx_S} {f : Nat → Int} {R C g a D : Nat} (m : MR s 1 f R C) (M : MP f R C) (h7 : f 2 = 7) (hg : g < 3) (ha : ga a) (G : GGD s f R C g a D) (l1 : D / 1 % 2 = 1) (l2 : D / 2 % 2 = 1) : ∃ (D' : Nat) (u : gx_S), gm_19_59 a 4 s = gm_19_103 a 4 u ∧ KG a s u ∧ GGD u f R C g a D' ∧ D' / 4 % 2 = 1 ∧ D' / 1 % 2 = 1 ∧ D' / 2 % 2 = 1 := by
  obtain ⟨a71, a215, ho, t3, t12, t21, t30, t39⟩ := id ha
  obtain ⟨hD, e8, e9, g1, g2, g4, g8, g16, g32⟩ := G
  obtain ⟨D', t, q1, q2, q3, q4, q5, q6, q7⟩ := sp_21 (w := 4) ho hD (by decide) e8
  have q1 : gm_21 a 4 s = some (decide (¬ D / 4 % 2 = 1), t) := q1
  have n1 := q7 1 (by decide) (by decide)
  have n2 := q7 2 (by decide) (by decide)
  have n8 := q7 8 (by decide) (by decide)
  have n16 := q7 16 (by decide) (by decide)
  have n32 := q7 32 (by decide) (by decide)
  have to : ∀ k j, ¬ (k = a ∧ j = 8) → t.1 k j = s.1 k j := q3
  obtain ⟨li1, li2, li3⟩ := g1 l1
  unfold gm_19_59
  rw [if_pos (by decide), if_neg (by decide), q1, Option.bind_some]
  by_cases z : D / 4 % 2 = 1
  · rw [decide_eq_false (fun h => h z), if_pos (show gb (false, t).1 = 0 from (by decide : gb false = 0))]
    refine ⟨D', t, rfl, ⟨q2, fun k j h1 h2 => to k j (by omega)⟩, ⟨q5, q4, (to a 9 (by omega)).trans e9, fun _ => ⟨fun z hz => (to _ _ (by omega)).trans (li1 z hz), (to _ _ (by omega)).trans li2, (to _ _ (by omega)).trans li3⟩, fun h => ?_, fun h => ?_, fun h => ?_, fun h => ?_, fun h => ?_⟩, q6, n1.trans l1, n2.trans l2⟩
    · exact ⟨n1.trans l1, TM_o (fun k j h1 h2 => to k j (by omega)) (g2 l2).2⟩
    · exact TR_o (fun k j h1 h2 => to k j (by omega)) (g4 z)
    · exact ⟨n1.trans l1, TR_o (fun k j h1 h2 => to k j (by omega)) (g8 (n8 ▸ h)).2⟩
    · exact TR_o (fun k j h1 h2 => to k j (by omega)) (g16 (n16 ▸ h))
    · obtain ⟨x1, x2⟩ := g32 (n32 ▸ h)
      exact ⟨n2.trans l2, fun k hk => by rw [to _ _ (by omega)]; exact x2 k hk⟩
  · rw [decide_eq_true z, if_neg (show ¬ gb (true, t).1 = 0 from (by decide : ¬ gb true = 0))]
    have mt : MR t 1 f R C := MR_o (fun k j h1 h2 => to k j (by omega)) m
    obtain ⟨u, w, u1, u2, u3, u4, u5, u6⟩ := sp_24 mt M h7 hg a71 ho t3 t12 ((to a 9 (by omega)).trans e9) (TM_o (fun k j h1 h2 => to k j (by omega)) (g2 l2).2).1
    have wo : ∀ k j, a ≤ k → ¬ (k = a ∧ j = 8) → ¬ (a + 13 ≤ k ∧ k ≤ a + 20) → w.1 k j = s.1 k j := fun k j h1 h2 h3 => (u6 k j (by omega) (by omega) h3).trans (to k j h2)
    have w8 : w.1 a 8 = D' := (u6 a 8 (by omega) (by omega) (by omega)).trans q4
    have m3 := M.2.2.1
    have st : ((gm_24 a (true, t).2).bind fun q7 => if (-2147483648 ≤ (q7.1 1 7) ∧ (q7.1 1 7) ≤ 2147483647) then (if ¬ (q7.1 1 7) = 1 then gm_19_100 a 4 (a + 12) 0 q7 else gm_19_100 a 4 (a + 12) 1 q7) else none) = gm_19_103 a 4 w := by
      show ((gm_24 a t).bind _) = _
      rw [u1, Option.bind_some, u2, if_pos (by omega)]
      unfold gm_19_100
      rcases m3 with e | e
      · rw [e] at u3
        rw [if_pos (by rw [e]; decide), u3, Option.bind_some]
      · rw [e] at u3
        rw [if_neg (by rw [e]; decide), u3, Option.bind_some]
    rw [st]
    refine ⟨D', w, rfl, ⟨u5.trans q2, fun k j h1 h2 => (u6 k j (by omega) (by omega) (by omega)).trans (to k j (by omega))⟩, ⟨q5, w8, (wo a 9 (by omega) (by omega) (by omega)).trans e9, fun _ => ⟨fun z hz => (wo _ _ (by omega) (by omega) (by omega)).trans (li1 z hz), (wo _ _ (by omega) (by omega) (by omega)).trans li2, (wo _ _ (by omega) (by omega) (by omega)).trans li3⟩, fun _ => ⟨n1.trans l1, TM_o (fun k j h1 h2 => wo k j (by omega) (by omega) (by omega)) (g2 l2).2⟩, fun _ => u4, fun h => ?_, fun h => ?_, fun h => ?_⟩, q6, n1.trans l1, n2.trans l2⟩
    · exact ⟨n1.trans l1, TR_o (fun k j h1 h2 => wo k j (by omega) (by omega) (by omega)) (g8 (n8 ▸ h)).2⟩
    · exact TR_o (fun k j h1 h2 => wo k j (by omega) (by omega) (by omega)) (g16 (n16 ▸ h))
    · obtain ⟨x1, x2⟩ := g32 (n32 ▸ h)
      exact ⟨n2.trans l2, fun k hk => by rw [wo _ _ (by omega) (by omega) (by omega)]; exact x2 k hk⟩
end
section
/-! THE CLASS: the coarse table -/
theorem dsc_r {f : Nat → Int} {R C : Nat} (M : MP f R C) {y : Nat} (hy : y < 9) : 0 ≤ dsc f y ∧ dsc f y ≤ 4 ∧ (y < 8 → dsc f y ≤ 3 ∧ dsc f y = f (44 + y)) := by
  unfold dsc
  by_cases q : y = 8
  · rw [if_pos q]
    omega
  · rw [if_neg q]
    have := M.2.2.2.2.2.2.1 y (by omega)
    omega
/-- amounts of the coarse table, by weights or by cells -/
def Fco (f : Nat → Int) (R C g x d : Nat) (b : Bool) : Int := sg (fun y => if dsc f y = (d : Int) then SO f R C g x y b else 0) 9
theorem Fco_pz {f : Nat → Int} {R C g x d : Nat} (M : MP f R C) (h7 : f 2 = 7) (hx : x < 8) (b : Bool) : Fco f R C g x d b = sg (pz (fun k => decide (co f C 0 k < 8)) (co f C 0) (fun k => (dsc f (co f C 1 k)).toNat) (fun k => if b = true then 1 else wt f C g k) x d) (R * C) := by
  have e : Fco f R C g x d b = sg (fun y => sg (fun k => if dsc f y = (d : Int) then pz (fun k => decide (co f C 0 k < 8)) (co f C 0) (co f C 1) (fun k => if b = true then 1 else wt f C g k) x y k else 0) (R * C)) 9 := sg_eq fun y hy => by
    by_cases q : dsc f y = (d : Int)
    · rw [if_pos q, SO_pz M h7 hx b]
      exact sg_eq fun k _ => by rw [if_pos q]
    · rw [if_neg q, sg_0 fun k _ => if_neg q]
  rw [e, sg_swap (fun y k => if dsc f y = (d : Int) then pz (fun k => decide (co f C 0 k < 8)) (co f C 0) (co f C 1) (fun k => if b = true then 1 else wt f C g k) x y k else 0) (R * C) 9]
  refine sg_eq fun k hk => ?_
  obtain ⟨_, ⟨_, c1⟩, _⟩ := co_s M h7 hk
  have dr := dsc_r M (show co f C 1 k < 9 by omega)
  rw [sg_single (i := co f C 1 k) (by omega) fun y hy hn => by
    have z : pz (fun k => decide (co f C 0 k < 8)) (co f C 0) (co f C 1) (fun k => if b = true then 1 else wt f C g k) x y k = 0 := if_neg fun h => hn h.2.2.symm
    rw [z]
    split <;> rfl]
  unfold pz
  by_cases q : dsc f (co f C 1 k) = (d : Int)
  · rw [if_pos q]
    by_cases q2 : decide (co f C 0 k < 8) = true ∧ co f C 0 k = x
    · rw [if_pos ⟨q2.1, q2.2, rfl⟩, if_pos ⟨q2.1, q2.2, show (dsc f (co f C 1 k)).toNat = d by omega⟩]
    · rw [if_neg (fun h => q2 ⟨h.1, h.2.1⟩), if_neg (fun h => q2 ⟨h.1, h.2.1⟩)]
  · rw [if_neg q, if_neg (fun h => q (by
      have h' : (dsc f (co f C 1 k)).toNat = d := h.2.2
      omega))]
theorem sum_dsc {f : Nat → Int} {R C : Nat} (M : MP f R C) (h : Nat → Int) : sg (fun d => sg (fun y => if dsc f y = ((d : Nat) : Int) then h y else 0) 9) 9 = sg h 9 := by
  rw [sg_swap (fun d y => if dsc f y = ((d : Nat) : Int) then h y else 0) 9 9]
  refine sg_eq fun y hy => ?_
  have dr := dsc_r M hy
  rw [sg_single (i := (dsc f y).toNat) (by omega) fun d hd hn => if_neg fun h => hn (by omega)]
  exact if_pos (by omega)
theorem PA_co {f : Nat → Int} {R C g : Nat} (M : MP f R C) (h7 : f 2 = 7) (hg : g < 3) : PA (LV f R C g) (Aco f R C g) ∧ sg (fun x => sg (fun y => Aco f R C g x y) 9) 8 ≤ 864 ∧ (∀ x d, d < 9 → 4 < d → Aco f R C g x d = 0) ∧ ∀ x, sg (fun d => Aco f R C g x d) 9 = sg (fun y => PMV f R C g x y) 9 := by
  obtain ⟨p1, p2⟩ := PA_mv M h7 hg
  have rows : ∀ x, sg (fun d => Aco f R C g x d) 9 = sg (fun y => PMV f R C g x y) 9 := fun x => sum_dsc M (fun y => PMV f R C g x y)
  have nn : ∀ x y, 0 ≤ PMV f R C g x y := fun x y => (SO_r M h7 hg x y _).1
  have B : sg (fun x => sg (fun y => Aco f R C g x y) 9) 8 ≤ 864 := by
    rw [sg_eq (g := fun x => sg (fun y => PMV f R C g x y) 9) fun x _ => rows x]
    exact p2
  have an : ∀ x d, 0 ≤ Aco f R C g x d := fun x d => sg_nn fun y _ => by
    show 0 ≤ (if dsc f y = (d : Int) then PMV f R C g x y else 0)
    split
    · exact nn x y
    · exact Int.le_refl 0
  refine ⟨⟨p1.1, fun x y hx hy => ⟨an x y, ?_⟩, by omega⟩, B, fun x d _ h4 => sg_0 fun y hy => if_neg fun h => ?_, rows⟩
  · have a := sg_at (f := fun y => Aco f R C g x y) (n := 9) (fun k _ => an x k) y hy
    have b := sg_at (f := fun x => sg (fun y => Aco f R C g x y) 9) (n := 8) (fun k _ => sg_nn fun y _ => an k y) x hx
    omega
  · have := dsc_r M hy
    omega
theorem sl_25 {f : Nat → Int} {R C g a : Nat} (M : MP f R C) (h7 : f 2 = 7) (hg : g < 3) (h71 : 71 ≤ a) (ht : fx_oc (a + 21) 7 = true) : ∀ (r k n : Nat) (s : gx_S), k + r = R * C → r < n → MR s 1 f R C → s.1 a 9 = g → ∃ u : gx_S, gm_25_35 n a ((R * C : Nat) : Int) k s = some u ∧ AC (a + 21) s u (fun x y => sg (fun i => pz (fun k => decide (co f C 0 k < 8)) (co f C 0) (fun k => (dsc f (co f C 1 k)).toNat) (wt f C g) x y (k + i)) r) (fun x y => sg (fun i => pz (fun k => decide (co f C 0 k < 8)) (co f C 0) (fun k => (dsc f (co f C 1 k)).toNat) (fun _ => 1) x y (k + i)) r) := by
  have hRC := RC_96 M.1.2.2.1 M.1.2.2.2
  intro r
  induction r with
  | zero =>
    intro k n s hk hn m e9
    obtain ⟨n, rfl⟩ : ∃ n', n = n' + 1 := ⟨n - 1, by omega⟩
    refine ⟨s, ?_, AC_0 _ _ (fun x y i => pz (fun k => decide (co f C 0 k < 8)) (co f C 0) (fun k => (dsc f (co f C 1 k)).toNat) (wt f C g) x y (k + i)) (fun x y i => pz (fun k => decide (co f C 0 k < 8)) (co f C 0) (fun k => (dsc f (co f C 1 k)).toNat) (fun _ => 1) x y (k + i))⟩
    rw [gm_25_35, if_pos (by omega), if_pos (by omega), if_pos (by omega)]
  | succ r ih =>
    intro k n s hk hn m e9
    obtain ⟨n, rfl⟩ : ∃ n', n = n' + 1 := ⟨n - 1, by omega⟩
    have hkl : k < R * C := by omega
    have ce : ((k : Int) + 1) = ((k + 1 : Nat) : Int) := rfl
    obtain ⟨⟨_, c0⟩, ⟨_, c1⟩, ⟨_, c2⟩⟩ := co_s M h7 hkl
    obtain ⟨g0, g1, g2⟩ := sp_60g m M h7 hkl
    have g3 := sp_61g m M h7 hg hkl
    have dr := dsc_r M (show co f C 1 k < 9 by omega)
    rw [gm_25_35, if_pos (by omega), if_pos (by omega), if_neg (by omega), g0, Option.bind_some]
    show ∃ u : gx_S, ((gm_60 1 1 k s).bind _) = some u ∧ _
    rw [g1, Option.bind_some, if_pos (by omega)]
    by_cases q : co f C 0 k < 8
    · have ad : gm_25_88 (gm_25_35 n) a ((R * C : Nat) : Int) k (co f C 0 k) (dsc f (co f C 1 k)) s = gm_25_35 n a ((R * C : Nat) : Int) ((k + 1 : Nat) : Int) (adt s (a + 21) (co f C 0 k) (dsc f (co f C 1 k)).toNat (wt f C g k) 1) := by
        unfold gm_25_88
        rw [e9, g3, Option.bind_some]
        have c69 := sp_69 (t := a + 21) (x := co f C 0 k) (y := (dsc f (co f C 1 k)).toNat) (v := wt f C g k) (w := 1) s ht q (by omega)
        rw [show (((dsc f (co f C 1 k)).toNat : Nat) : Int) = dsc f (co f C 1 k) by omega] at c69
        show ((gm_69 (a + 21) (co f C 0 k : Int) (dsc f (co f C 1 k)) (wt f C g k) 1 s).bind _) = _
        rw [c69, Option.bind_some]
        unfold gm_25_113
        rw [ce]
      have go : (if (-2147483648 ≤ (co f C 1 k : Int) ∧ (co f C 1 k : Int) ≤ 2147483647) then (if 8 ≤ (co f C 1 k : Int) then gm_25_88 (gm_25_35 n) a ((R * C : Nat) : Int) k (co f C 0 k) 4 s else (if 0 ≤ (co f C 1 k : Int) ∧ (co f C 1 k : Int) < 8 then gm_25_88 (gm_25_35 n) a ((R * C : Nat) : Int) k (co f C 0 k) (s.1 5 (co f C 1 k : Int).toNat) s else none)) else none) = gm_25_88 (gm_25_35 n) a ((R * C : Nat) : Int) k (co f C 0 k) (dsc f (co f C 1 k)) s := by
        rw [if_pos (by omega)]
        by_cases q2 : co f C 1 k < 8
        · rw [if_neg (by omega), if_pos (by omega), show ((co f C 1 k : Int)).toNat = co f C 1 k by omega]
          have e5 := m.2.2.2.2.2.2.2.1 (co f C 1 k) q2
          rw [show (1 : Nat) + 4 = 5 from rfl] at e5
          rw [e5, (dr.2.2 q2).2]
        · rw [if_pos (by omega), show dsc f (co f C 1 k) = 4 from if_pos (by omega)]
      rw [if_neg (by omega)]
      show ∃ u : gx_S, (if (-2147483648 ≤ (co f C 1 k : Int) ∧ (co f C 1 k : Int) ≤ 2147483647) then (if 8 ≤ (co f C 1 k : Int) then gm_25_88 (gm_25_35 n) a ((R * C : Nat) : Int) k (co f C 0 k) 4 s else (if 0 ≤ (co f C 1 k : Int) ∧ (co f C 1 k : Int) < 8 then gm_25_88 (gm_25_35 n) a ((R * C : Nat) : Int) k (co f C 0 k) (s.1 5 (co f C 1 k : Int).toNat) s else none)) else none) = some u ∧ _
      rw [go, ad]
      obtain ⟨u, u1, u2⟩ := ih (k + 1) n (adt s (a + 21) (co f C 0 k) (dsc f (co f C 1 k)).toNat (wt f C g k) 1) (by omega) (by omega) (MR_adt (by omega) m) ((adt_o _ _ _ _ _ _ _ _ (by omega) (by omega)).trans e9)
      exact ⟨u, u1, AC_add (K := fun k => decide (co f C 0 k < 8)) (X := co f C 0) (Y := fun k => (dsc f (co f C 1 k)).toNat) (w := wt f C g) (decide_eq_true q) q (show (dsc f (co f C 1 k)).toNat < 9 by omega) u2⟩
    · rw [if_pos (by omega)]
      unfold gm_25_113
      rw [ce]
      obtain ⟨u, u1, u2⟩ := ih (k + 1) n s (by omega) (by omega) m e9
      exact ⟨u, u1, AC_skip (K := fun k => decide (co f C 0 k < 8)) (decide_eq_false q) u2⟩
theorem sp_25 {s : gx_S} {f : Nat → Int} {R C g a : Nat} (m : MR s 1 f R C) (M : MP f R C) (h7 : f 2 = 7) (hg : g < 3) (h71 : 71 ≤ a) (ho : fx_oc a 2 = true) (ht : fx_oc (a + 21) 7 = true) (e9 : s.1 a 9 = g) (hl : ∀ z, z < 8 → s.1 (a + 1) z = LV f R C g z) : ∃ u w : gx_S, gm_25 a s = some u ∧ u.1 1 7 = f 3 ∧ gm_41 (a + 21) (f 3) u = some w ∧ TR w (a + 21) (f 3) (LV f R C g) (Aco f R C g) ∧ w.2 = s.2 ∧ ∀ k j, ¬ (7 ≤ k ∧ k ≤ 13) → ¬ (k = 6 ∧ j = 7) → ¬ (a + 22 ≤ k ∧ k ≤ a + 29) → w.1 k j = s.1 k j := by
  obtain ⟨b, b1, b2, b3, b4, b5⟩ := sp_68 s ht
  obtain ⟨c, hc⟩ : ∃ c, c = gcp b (a + 1) 0 (a + 21 + 1) 0 8 := ⟨_, rfl⟩
  have ck : ∀ k i, k ≠ a + 21 + 1 → c.1 k i = b.1 k i := fun k i h => by
    rw [hc]
    exact if_neg fun x => h x.1
  have c1 : ∀ x, x < 8 → c.1 (a + 21 + 1) x = LV f R C g x := fun x hx => by
    rw [hc]
    show (if a + 21 + 1 = a + 21 + 1 ∧ 0 ≤ x ∧ x < 0 + 8 then b.1 (a + 1) (0 + (x - 0)) else b.1 (a + 21 + 1) x) = _
    rw [if_pos ⟨rfl, by omega, by omega⟩, show 0 + (x - 0) = x by omega, b5 _ _ (by omega) (by omega) (by omega)]
    exact hl x hx
  have mc : MR c 1 f R C := MR_o (fun k j h1 h2 => (ck k j (by omega)).trans (b5 k j (by omega) (by omega) (by omega))) m
  have c9 : c.1 a 9 = g := by rw [ck _ _ (by omega), b5 _ _ (by omega) (by omega) (by omega)]; exact e9
  have hRC := RC_96 M.1.2.2.1 M.1.2.2.2
  obtain ⟨u, u1, u2, u3, u4⟩ := sl_25 M h7 hg h71 ht (R * C) 0 100000 c (by omega) (by omega) mc c9
  have u1 : gm_25_35 100000 a ((R * C : Nat) : Int) 0 c = some u := u1
  have e45 : ∀ x y, x < 8 → y < 9 → u.1 (a + 21 + 4) (9 * x + y) = Fco f R C g x y false ∧ u.1 (a + 21 + 5) (9 * x + y) = Fco f R C g x y true := fun x y hx hy => by
    obtain ⟨q1, q2⟩ := u4 x y hx hy
    have z := b4 (9 * x + y) (by omega)
    rw [ck _ _ (by omega), z.1] at q1
    rw [ck _ _ (by omega), z.2] at q2
    rw [q1, q2, Fco_pz M h7 hx false, Fco_pz M h7 hx true]
    constructor
    · rw [Int.zero_add]
      exact sg_eq fun k _ => by rw [Nat.zero_add]; rfl
    · rw [Int.zero_add]
      exact sg_eq fun k _ => by rw [Nat.zero_add]; rfl
  obtain ⟨pa, p8, p0, prow⟩ := PA_co M h7 hg
  have Fb : ∀ x d b, 0 ≤ Fco f R C g x d b ∧ Fco f R C g x d b ≤ 864 := fun x d b => by
    have nn : ∀ y : Nat, 0 ≤ SO f R C g x y b := fun y => (SO_r M h7 hg x y b).1
    refine ⟨sg_nn fun y _ => ?_, ?_⟩
    · show 0 ≤ (if dsc f y = (d : Int) then SO f R C g x y b else 0)
      split
      · exact nn y
      · exact Int.le_refl 0
    · have e := sg_le (f := fun y => if dsc f y = (d : Int) then SO f R C g x ((y : Nat) : Int) b else 0) (g := fun y => SO f R C g x ((y : Nat) : Int) b) (n := 9) fun y _ => by
        show (if dsc f y = (d : Int) then SO f R C g x y b else 0) ≤ SO f R C g x y b
        split
        · exact Int.le_refl _
        · exact nn y
      rw [SO_row M h7 x b] at e
      have := (SO_r M h7 hg x (-1) b).2
      unfold Fco
      omega
  have hb : ∀ i, i < 72 → (0 ≤ u.1 (a + 21 + 4) i ∧ u.1 (a + 21 + 4) i ≤ 1000000) ∧ (0 ≤ u.1 (a + 21 + 5) i ∧ u.1 (a + 21 + 5) i ≤ 1000000) := fun i hi => by
    have e : 9 * (i / 9) + i % 9 = i := by omega
    have q := e45 (i / 9) (i % 9) (by omega) (by omega)
    rw [e] at q
    rw [q.1, q.2]
    have r1 := Fb (i / 9) (i % 9) false
    have r2 := Fb (i / 9) (i % 9) true
    omega
  obtain ⟨w, w1, w2, w3, _⟩ := TR_class (t := a + 21) ht M.2.2.1 pa (fun _ => p8) (fun x hx => (u3 _ _ (by omega) (by omega)).trans (c1 x hx)) hb fun x y hx hy => am_SO (T := Aco f R C g) (R := R) (C := C) (f := f) (g := g) (fun x y b => Fco f R C g x y b) (fun y hy => (e45 x y hx hy).1) (fun y hy => (e45 x y hx hy).2) hy (by
    have e : sg (fun y => Fco f R C g x y false) 9 = SO f R C g x (-1) false := (sum_dsc M (fun y => SO f R C g x ((y : Nat) : Int) false)).trans (SO_row M h7 (x : Int) false)
    rw [e]
    rfl)
  refine ⟨u, w, ?_, ?_, w1, w2, ?_, fun k j h1 h2 h3 => ?_⟩
  · unfold gm_25
    rw [if_pos ho, b1, Option.bind_some, ← hc, sp_58 (MR_cz mc M), Option.bind_some, u1]
  · rw [u3 1 7 (by omega) (by omega)]
    exact mc.2.2.2.1
  · rw [w3.1, u2, hc]
    exact b2
  · rw [w3.2 k j h1 h2 (by omega) (by omega), u3 k j (by omega) (by omega), ck k j (by omega), b5 k j (by omega) (by omega) (by omega)]
theorem rd_8 {s : gx_S} {f : Nat → Int} {R C g a D : Nat} {what : Int} (hwt : what = 8 ∨ what = 16) (m : MR s 1 f R C) (M : MP f R C) (h7 : f 2 = 7) (hg : g < 3) (ha : ga a) (G : GGD s f R C g a D) (l1 : D / 1 % 2 = 1) : ∃ (D' : Nat) (u : gx_S), gm_19_103 a what s = gm_19_155 a what u ∧ KG a s u ∧ GGD u f R C g a D' ∧ D' / 8 % 2 = 1 ∧ D' / 1 % 2 = 1 := by
  obtain ⟨a71, a215, ho, t3, t12, t21, t30, t39⟩ := id ha
  obtain ⟨hD, e8, e9, g1, g2, g4, g8, g16, g32⟩ := G
  obtain ⟨D', t, q1, q2, q3, q4, q5, q6, q7⟩ := sp_21 (w := 8) ho hD (by decide) e8
  have q1 : gm_21 a 8 s = some (decide (¬ D / 8 % 2 = 1), t) := q1
  have n1 := q7 1 (by decide) (by decide)
  have n2 := q7 2 (by decide) (by decide)
  have n4 := q7 4 (by decide) (by decide)
  have n16 := q7 16 (by decide) (by decide)
  have n32 := q7 32 (by decide) (by decide)
  have to : ∀ k j, ¬ (k = a ∧ j = 8) → t.1 k j = s.1 k j := q3
  obtain ⟨li1, li2, li3⟩ := g1 l1
  have hd : gm_19_103 a what s = gm_19_115 a what s := by
    unfold gm_19_103
    rcases hwt with e | e
    · rw [e, if_pos (by decide), if_pos rfl]
    · rw [e, if_pos (by decide), if_neg (by decide), if_neg (by decide)]
  rw [hd]
  unfold gm_19_115
  rw [q1, Option.bind_some]
  by_cases z : D / 8 % 2 = 1
  · rw [decide_eq_false (fun h => h z), if_pos (show gb (false, t).1 = 0 from (by decide : gb false = 0))]
    refine ⟨D', t, rfl, ⟨q2, fun k j h1 h2 => to k j (by omega)⟩, ⟨q5, q4, (to a 9 (by omega)).trans e9, fun _ => ⟨fun z hz => (to _ _ (by omega)).trans (li1 z hz), (to _ _ (by omega)).trans li2, (to _ _ (by omega)).trans li3⟩, fun h => ?_, fun h => ?_, fun h => ?_, fun h => ?_, fun h => ?_⟩, q6, n1.trans l1⟩
    · exact ⟨n1.trans l1, TM_o (fun k j h1 h2 => to k j (by omega)) (g2 (n2 ▸ h)).2⟩
    · exact TR_o (fun k j h1 h2 => to k j (by omega)) (g4 (n4 ▸ h))
    · exact ⟨n1.trans l1, TR_o (fun k j h1 h2 => to k j (by omega)) (g8 z).2⟩
    · exact TR_o (fun k j h1 h2 => to k j (by omega)) (g16 (n16 ▸ h))
    · obtain ⟨x1, x2⟩ := g32 (n32 ▸ h)
      exact ⟨n2.trans x1, fun k hk => by rw [to _ _ (by omega)]; exact x2 k hk⟩
  · rw [decide_eq_true z, if_neg (show ¬ gb (true, t).1 = 0 from (by decide : ¬ gb true = 0))]
    have mt : MR t 1 f R C := MR_o (fun k j h1 h2 => to k j (by omega)) m
    obtain ⟨u, w, u1, u2, u3, u4, u5, u6⟩ := sp_25 mt M h7 hg a71 ho t21 ((to a 9 (by omega)).trans e9) fun z hz => (to _ _ (by omega)).trans (li1 z hz)
    have wo : ∀ k j, a ≤ k → ¬ (k = a ∧ j = 8) → ¬ (a + 22 ≤ k ∧ k ≤ a + 29) → w.1 k j = s.1 k j := fun k j h1 h2 h3 => (u6 k j (by omega) (by omega) h3).trans (to k j h2)
    have w8 : w.1 a 8 = D' := (u6 a 8 (by omega) (by omega) (by omega)).trans q4
    have m3 := M.2.2.1
    have st : ((gm_25 a (true, t).2).bind fun q5 => if (-2147483648 ≤ (q5.1 1 7) ∧ (q5.1 1 7) ≤ 2147483647) then (if ¬ (q5.1 1 7) = 1 then gm_19_152 a what (a + 21) 0 q5 else gm_19_152 a what (a + 21) 1 q5) else none) = gm_19_155 a what w := by
      show ((gm_25 a t).bind _) = _
      rw [u1, Option.bind_some, u2, if_pos (by omega)]
      unfold gm_19_152
      rcases m3 with e | e
      · rw [e] at u3
        rw [if_pos (by rw [e]; decide), u3, Option.bind_some]
      · rw [e] at u3
        rw [if_neg (by rw [e]; decide), u3, Option.bind_some]
    rw [st]
    refine ⟨D', w, rfl, ⟨u5.trans q2, fun k j h1 h2 => (u6 k j (by omega) (by omega) (by omega)).trans (to k j (by omega))⟩, ⟨q5, w8, (wo a 9 (by omega) (by omega) (by omega)).trans e9, fun _ => ⟨fun z hz => (wo _ _ (by omega) (by omega) (by omega)).trans (li1 z hz), (wo _ _ (by omega) (by omega) (by omega)).trans li2, (wo _ _ (by omega) (by omega) (by omega)).trans li3⟩, fun h => ?_, fun h => ?_, fun _ => ⟨n1.trans l1, u4⟩, fun h => ?_, fun h => ?_⟩, q6, n1.trans l1⟩
    · exact ⟨n1.trans l1, TM_o (fun k j h1 h2 => wo k j (by omega) (by omega) (by omega)) (g2 (n2 ▸ h)).2⟩
    · exact TR_o (fun k j h1 h2 => wo k j (by omega) (by omega) (by omega)) (g4 (n4 ▸ h))
    · exact TR_o (fun k j h1 h2 => wo k j (by omega) (by omega) (by omega)) (g16 (n16 ▸ h))
    · obtain ⟨x1, x2⟩ := g32 (n32 ▸ h)
      exact ⟨n2.trans x1, fun k hk => by rw [wo _ _ (by omega) (by omega) (by omega)]; exact x2 k hk⟩
end
section
/-! THE CLASS: the table of districts' ways -/
def Wwy (f : Nat → Int) (R C g d y : Nat) (b : Bool) : Int := if y < 8 ∧ dsc f y = (d : Int) then SO f R C g (-1) y b else 0
theorem Wwy_pz {f : Nat → Int} {R C g d y : Nat} (M : MP f R C) (h7 : f 2 = 7) (b : Bool) : Wwy f R C g d y b = sg (pz (fun k => decide (co f C 1 k < 8)) (fun k => (dsc f (co f C 1 k)).toNat) (co f C 1) (fun k => if b = true then 1 else wt f C g k) d y) (R * C) := by
  unfold Wwy
  by_cases q : y < 8 ∧ dsc f y = (d : Int)
  · rw [if_pos q]
    refine sg_eq fun k hk => ?_
    obtain ⟨⟨c0, _⟩, ⟨c1, _⟩, _⟩ := co_s M h7 hk
    unfold pz
    rw [c0, c1]
    by_cases q2 : co f C 1 k = y
    · rw [if_pos (show ((-1 : Int) = -1 ∨ (co f C 0 k : Int) = -1) ∧ (((y : Nat) : Int) = -1 ∨ (co f C 1 k : Int) = y) by omega), if_pos (show decide (co f C 1 k < 8) = true ∧ (dsc f (co f C 1 k)).toNat = d ∧ co f C 1 k = y from ⟨decide_eq_true (by omega), by rw [q2]; omega, q2⟩)]
      rfl
    · rw [if_neg (show ¬ (((-1 : Int) = -1 ∨ (co f C 0 k : Int) = -1) ∧ (((y : Nat) : Int) = -1 ∨ (co f C 1 k : Int) = y)) by omega), if_neg (fun h => q2 h.2.2)]
  · rw [if_neg q]
    refine (sg_0 fun k hk => ?_).symm
    obtain ⟨_, ⟨_, c1⟩, _⟩ := co_s M h7 hk
    have dr := dsc_r M (show co f C 1 k < 9 by omega)
    refine if_neg fun h => q ?_
    have h1 : co f C 1 k < 8 := of_decide_eq_true h.1
    have h2 : (dsc f (co f C 1 k)).toNat = d := h.2.1
    rw [h.2.2] at h1 h2 dr
    exact ⟨h1, by omega⟩
theorem Wwy_sum (f : Nat → Int) (R C g d : Nat) (b : Bool) : sg (fun y => Wwy f R C g d y b) 9 = sg (fun y => if dsc f y = (d : Int) then SO f R C g (-1) ((y : Nat) : Int) b else 0) 8 := by
  have e : sg (fun y => Wwy f R C g d y b) 9 = sg (fun y => Wwy f R C g d y b) 8 + Wwy f R C g d 8 b := rfl
  have z : Wwy f R C g d 8 b = 0 := if_neg (by omega)
  rw [e, z, Int.add_zero]
  refine sg_eq fun y hy => ?_
  unfold Wwy
  by_cases q : dsc f y = (d : Int)
  · rw [if_pos q, if_pos ⟨hy, q⟩]
  · rw [if_neg q, if_neg (fun h => q h.2)]
theorem Awy_W (f : Nat → Int) (R C g d y : Nat) : Awy f R C g d y = Wwy f R C g d y (decide (sg (fun y => Wwy f R C g d y false) 9 = 0)) := by
  rw [Wwy_sum]
  rfl
theorem PA_wy {f : Nat → Int} {R C g : Nat} (M : MP f R C) (h7 : f 2 = 7) (hg : g < 3) : PA (Pwy f R C g) (Awy f R C g) ∧ sg (fun x => sg (fun y => Awy f R C g x y) 9) 8 ≤ 864 ∧ ∀ x y, x < 8 → y < 9 → ¬ (x < 4 ∧ y < 8) → Awy f R C g x y = 0 := by
  obtain ⟨p1, p2, p3, p4⟩ := PA_co M h7 hg
  obtain ⟨t1, t2⟩ := TB_0 (md := f 3) M.2.2.1 p1 (fun _ => p2)
  obtain ⟨v1, v2, v3⟩ := GV_r M h7 hg
  have z0 : ∀ x y, x < 8 → y < 9 → ¬ (x < 4 ∧ y < 8) → Awy f R C g x y = 0 := fun x y hx hy hn => if_neg fun h => by
    have := (dsc_r M hy).2.2 h.1
    omega
  have W0 : ∀ d y b, 0 ≤ Wwy f R C g d y b := fun d y b => by
    unfold Wwy
    split
    · exact (SO_r M h7 hg (-1) y b).1
    · exact Int.le_refl 0
  have A0 : ∀ d y, 0 ≤ Awy f R C g d y := fun d y => by
    rw [Awy_W]
    exact W0 d y _
  have key : sg (fun d => sg (fun y => Awy f R C g d y) 9) 8 ≤ 864 := by
    rw [sg_swap (fun d y => Awy f R C g d y) 9 8]
    have B := SO_B M h7 hg (fun _ y => decide (sg (fun y' => if dsc f y' = (((dsc f y).toNat : Nat) : Int) then SO f R C g (-1) ((y' : Nat) : Int) false else 0) 8 = 0)) 9 8
    rw [← sg_swap (fun y x => SO f R C g ((x : Nat) : Int) ((y : Nat) : Int) (decide (sg (fun y' => if dsc f y' = (((dsc f y).toNat : Nat) : Int) then SO f R C g (-1) ((y' : Nat) : Int) false else 0) 8 = 0))) 9 8] at B
    have e8 : sg (fun c => sg (fun r => Awy f R C g r c) 8) 9 = sg (fun c => sg (fun r => Awy f R C g r c) 8) 8 := sg_cut0 (by omega) fun k h1 h2 => sg_0 fun d hd => z0 d k hd h2 (by omega)
    rw [e8]
    refine Int.le_trans (sg_le fun y hy => ?_) B
    have dr := dsc_r M (show y < 9 by omega)
    show sg (fun r => Awy f R C g r y) 8 ≤ sg (fun x => SO f R C g ((x : Nat) : Int) ((y : Nat) : Int) (decide (sg (fun y' => if dsc f y' = (((dsc f y).toNat : Nat) : Int) then SO f R C g (-1) ((y' : Nat) : Int) false else 0) 8 = 0))) 9
    have hL : sg (fun r => Awy f R C g r y) 8 = Awy f R C g (dsc f y).toNat y := sg_single (by omega) fun d hd hn => if_neg fun h => hn (by
      have := h.2
      omega)
    have hA : Awy f R C g (dsc f y).toNat y = SO f R C g (-1) y (decide (sg (fun y' => if dsc f y' = (((dsc f y).toNat : Nat) : Int) then SO f R C g (-1) ((y' : Nat) : Int) false else 0) 8 = 0)) := if_pos ⟨hy, by omega⟩
    have hR := SO_col (g := g) M h7 (y : Int) (decide (sg (fun y' => if dsc f y' = (((dsc f y).toNat : Nat) : Int) then SO f R C g (-1) ((y' : Nat) : Int) false else 0) 8 = 0))
    rw [hL, hA, hR]
    exact Int.le_refl _
  refine ⟨⟨fun x hx => ?_, fun x y hx hy => ⟨A0 x y, ?_⟩, by omega⟩, key, z0⟩
  · unfold Pwy
    split
    · have nn := sg_nn (f := fun z => GC_ f R C g z x) (n := 8) fun z hz => (t1 z x hz (by omega)).1
      have le := sg_le (f := fun z => GC_ f R C g z x) (g := LV f R C g) (n := 8) fun z hz => (t1 z x hz (by omega)).2
      omega
    · omega
  · have a := sg_at (f := fun y => Awy f R C g x y) (n := 9) (fun k _ => A0 x k) y hy
    have b := sg_at (f := fun x => sg (fun y => Awy f R C g x y) 9) (n := 8) (fun k _ => sg_nn fun y _ => A0 k y) x hx
    omega
theorem sl_26 {f : Nat → Int} {R C g a : Nat} (M : MP f R C) (h7 : f 2 = 7) (hg : g < 3) (h71 : 71 ≤ a) (ht : fx_oc (a + 30) 7 = true) : ∀ (r k n : Nat) (s : gx_S), k + r = R * C → r < n → MR s 1 f R C → s.1 a 9 = g → ∃ u : gx_S, gm_26_17 n a ((R * C : Nat) : Int) k s = gm_26_76 100000 a 0 u ∧ AC (a + 30) s u (fun x y => sg (fun i => pz (fun k => decide (co f C 1 k < 8)) (fun k => (dsc f (co f C 1 k)).toNat) (co f C 1) (wt f C g) x y (k + i)) r) (fun x y => sg (fun i => pz (fun k => decide (co f C 1 k < 8)) (fun k => (dsc f (co f C 1 k)).toNat) (co f C 1) (fun _ => 1) x y (k + i)) r) := by
  have hRC := RC_96 M.1.2.2.1 M.1.2.2.2
  intro r
  induction r with
  | zero =>
    intro k n s hk hn m e9
    obtain ⟨n, rfl⟩ : ∃ n', n = n' + 1 := ⟨n - 1, by omega⟩
    refine ⟨s, ?_, AC_0 _ _ (fun x y i => pz (fun k => decide (co f C 1 k < 8)) (fun k => (dsc f (co f C 1 k)).toNat) (co f C 1) (wt f C g) x y (k + i)) (fun x y i => pz (fun k => decide (co f C 1 k < 8)) (fun k => (dsc f (co f C 1 k)).toNat) (co f C 1) (fun _ => 1) x y (k + i))⟩
    rw [gm_26_17, if_pos (by omega), if_pos (by omega), if_pos (by omega)]
  | succ r ih =>
    intro k n s hk hn m e9
    obtain ⟨n, rfl⟩ : ∃ n', n = n' + 1 := ⟨n - 1, by omega⟩
    have hkl : k < R * C := by omega
    have ce : ((k : Int) + 1) = ((k + 1 : Nat) : Int) := rfl
    obtain ⟨⟨_, c0⟩, ⟨_, c1⟩, ⟨_, c2⟩⟩ := co_s M h7 hkl
    obtain ⟨g0, g1, g2⟩ := sp_60g m M h7 hkl
    have g3 := sp_61g m M h7 hg hkl
    have dr := dsc_r M (show co f C 1 k < 9 by omega)
    rw [gm_26_17, if_pos (by omega), if_pos (by omega), if_neg (by omega), g1, Option.bind_some, if_pos (by omega)]
    by_cases q : co f C 1 k < 8
    · have e5 := m.2.2.2.2.2.2.2.1 (co f C 1 k) q
      rw [show (1 : Nat) + 4 = 5 from rfl] at e5
      have c69 := sp_69 (t := a + 30) (x := (dsc f (co f C 1 k)).toNat) (y := co f C 1 k) (v := wt f C g k) (w := 1) s ht (by omega) (by omega)
      rw [show (((dsc f (co f C 1 k)).toNat : Nat) : Int) = dsc f (co f C 1 k) by omega, (dr.2.2 q).2] at c69
      rw [if_neg (by omega), if_pos (by omega)]
      show ∃ u : gx_S, ((gm_61 1 (s.1 a 9) k s).bind fun q12 => ((gm_69 (a + 30) (s.1 5 (co f C 1 k : Int).toNat) (co f C 1 k : Int) q12.1 1 q12.2).bind fun q14 => gm_26_68 (gm_26_17 n) a ((R * C : Nat) : Int) k q14)) = gm_26_76 100000 a 0 u ∧ _
      rw [e9, g3, Option.bind_some, show ((co f C 1 k : Int)).toNat = co f C 1 k by omega, e5, c69, Option.bind_some]
      unfold gm_26_68
      rw [ce, ← (dr.2.2 q).2]
      obtain ⟨u, u1, u2⟩ := ih (k + 1) n (adt s (a + 30) (dsc f (co f C 1 k)).toNat (co f C 1 k) (wt f C g k) 1) (by omega) (by omega) (MR_adt (by omega) m) ((adt_o _ _ _ _ _ _ _ _ (by omega) (by omega)).trans e9)
      exact ⟨u, u1, AC_add (K := fun k => decide (co f C 1 k < 8)) (X := fun k => (dsc f (co f C 1 k)).toNat) (Y := co f C 1) (w := wt f C g) (decide_eq_true q) (show (dsc f (co f C 1 k)).toNat < 8 by omega) (by omega) u2⟩
    · rw [if_pos (by omega)]
      unfold gm_26_68
      rw [ce]
      obtain ⟨u, u1, u2⟩ := ih (k + 1) n s (by omega) (by omega) m e9
      exact ⟨u, u1, AC_skip (K := fun k => decide (co f C 1 k < 8)) (decide_eq_false q) u2⟩
theorem sl_26_76 {a : Nat} (t21 : fx_oc (a + 21) 7 = true) : ∀ (n j : Nat) (s : gx_S), 4 < n + j → j ≤ 4 → ∃ u : gx_S, gm_26_76 n a j s = some u ∧ u.2 = s.2 ∧ (∀ k i, k ≠ a + 30 + 1 → u.1 k i = s.1 k i) ∧ ∀ i, u.1 (a + 30 + 1) i = if j ≤ i ∧ i < 4 then sg (fun x => s.1 (a + 21 + 8) (9 * x + i)) 8 else s.1 (a + 30 + 1) i := by
  intro n
  induction n with
  | zero => intro j s h; omega
  | succ n ih =>
    intro j s h hj
    rw [gm_26_76, if_pos (by omega)]
    by_cases q : j = 4
    · rw [if_pos (by omega)]
      exact ⟨s, rfl, rfl, fun _ _ _ => rfl, fun i => by rw [if_neg (by omega)]⟩
    · have ce : ((j : Int) + 1) = ((j + 1 : Nat) : Int) := rfl
      have i5 : ((j : Int)).toNat = j := by omega
      rw [if_neg (by omega), sp_76 t21 (by omega), Option.bind_some, if_pos (by omega), i5, ce]
      obtain ⟨u, u1, u2, u3, u4⟩ := ih (j + 1) (gw1 s (a + 30 + 1) j (sg (fun x => s.1 (a + 21 + 8) (9 * x + j)) 8)) (by omega) (by omega)
      refine ⟨u, u1, u2, fun k i h => by rw [u3 k i h, gw1_1, if_neg (fun x => h x.1)], fun i => ?_⟩
      rw [u4]
      by_cases e : i = j
      · rw [if_neg (show ¬ (j + 1 ≤ i ∧ i < 4) by omega), gw1_1, if_pos ⟨rfl, e⟩, if_pos (show j ≤ i ∧ i < 4 by omega), e]
      · by_cases e2 : j + 1 ≤ i ∧ i < 4
        · rw [if_pos e2, if_pos (show j ≤ i ∧ i < 4 by omega)]
          exact sg_eq fun x _ => by rw [gw1_1, if_neg (by omega)]
        · rw [if_neg e2, if_neg (show ¬ (j ≤ i ∧ i < 4) by omega), gw1_1, if_neg (fun x => e x.2)]
theorem sp_26 {s : gx_S} {f : Nat → Int} {R C g a : Nat} (m : MR s 1 f R C) (M : MP f R C) (h7 : f 2 = 7) (hg : g < 3) (h71 : 71 ≤ a) (ho : fx_oc a 2 = true) (t21 : fx_oc (a + 21) 7 = true) (ht : fx_oc (a + 30) 7 = true) (e9 : s.1 a 9 = g) (hT : TR s (a + 21) (f 3) (LV f R C g) (Aco f R C g)) : ∃ u w : gx_S, gm_26 a s = some u ∧ u.1 1 7 = f 3 ∧ gm_41 (a + 30) (f 3) u = some w ∧ TR w (a + 30) (f 3) (Pwy f R C g) (Awy f R C g) ∧ w.2 = s.2 ∧ ∀ k j, ¬ (7 ≤ k ∧ k ≤ 13) → ¬ (k = 6 ∧ j = 7) → ¬ (a + 31 ≤ k ∧ k ≤ a + 38) → w.1 k j = s.1 k j := by
  obtain ⟨c, b1, b2, b3, b4, b5⟩ := sp_68 s ht
  have mc : MR c 1 f R C := MR_o (fun k j h1 h2 => b5 k j (by omega) (by omega) (by omega)) m
  have c9 : c.1 a 9 = g := (b5 _ _ (by omega) (by omega) (by omega)).trans e9
  have hRC := RC_96 M.1.2.2.1 M.1.2.2.2
  obtain ⟨d, d1, d2, d3, d4⟩ := sl_26 M h7 hg h71 ht (R * C) 0 100000 c (by omega) (by omega) mc c9
  have d1 : gm_26_17 100000 a ((R * C : Nat) : Int) 0 c = _ := d1
  obtain ⟨u, u1, u2, u3, u4⟩ := sl_26_76 t21 100000 0 d (by omega) (by omega)
  have u1 : gm_26_76 100000 a 0 d = some u := u1
  have e45 : ∀ x y, x < 8 → y < 9 → u.1 (a + 30 + 4) (9 * x + y) = Wwy f R C g x y false ∧ u.1 (a + 30 + 5) (9 * x + y) = Wwy f R C g x y true := fun x y hx hy => by
    obtain ⟨q1, q2⟩ := d4 x y hx hy
    have z := b4 (9 * x + y) (by omega)
    rw [z.1] at q1
    rw [z.2] at q2
    rw [u3 _ _ (by omega), u3 _ _ (by omega), q1, q2, Wwy_pz M h7 false, Wwy_pz M h7 true]
    constructor
    · rw [Int.zero_add]
      exact sg_eq fun k _ => by rw [Nat.zero_add]; rfl
    · rw [Int.zero_add]
      exact sg_eq fun k _ => by rw [Nat.zero_add]; rfl
  obtain ⟨pa, p8, p0⟩ := PA_wy M h7 hg
  have Wb : ∀ x y b, 0 ≤ Wwy f R C g x y b ∧ Wwy f R C g x y b ≤ 864 := fun x y b => by
    unfold Wwy
    split
    · exact SO_r M h7 hg (-1) y b
    · omega
  have hb : ∀ i, i < 72 → (0 ≤ u.1 (a + 30 + 4) i ∧ u.1 (a + 30 + 4) i ≤ 1000000) ∧ (0 ≤ u.1 (a + 30 + 5) i ∧ u.1 (a + 30 + 5) i ≤ 1000000) := fun i hi => by
    have e : 9 * (i / 9) + i % 9 = i := by omega
    have q := e45 (i / 9) (i % 9) (by omega) (by omega)
    rw [e] at q
    rw [q.1, q.2]
    have r1 := Wb (i / 9) (i % 9) false
    have r2 := Wb (i / 9) (i % 9) true
    omega
  have hp : ∀ x, x < 8 → u.1 (a + 30 + 1) x = Pwy f R C g x := fun x hx => by
    unfold Pwy
    rw [u4]
    by_cases q : x < 4
    · rw [if_pos ⟨by omega, q⟩, if_pos q]
      refine sg_eq fun z hz => ?_
      rw [d3 _ _ (by omega) (by omega), b5 _ _ (by omega) (by omega) (by omega)]
      exact ((hT z hz).2.2 x (by omega)).2.2.2
    · rw [if_neg (fun h => q h.2), if_neg q, d3 _ _ (by omega) (by omega), b3 x hx]
  obtain ⟨w, w1, w2, w3, _⟩ := TR_class (t := a + 30) ht M.2.2.1 pa (fun _ => p8) hp hb fun x y hx hy => am_SO (T := Awy f R C g) (R := R) (C := C) (f := f) (g := g) (fun x y b => Wwy f R C g x y b) (fun y hy => (e45 x y hx hy).1) (fun y hy => (e45 x y hx hy).2) hy (Awy_W f R C g x y)
  refine ⟨u, w, ?_, ?_, w1, w2, ?_, fun k j h1 h2 h3 => ?_⟩
  · unfold gm_26
    rw [if_pos ho, b1, Option.bind_some, sp_58 (MR_cz mc M), Option.bind_some, d1, u1]
  · rw [u3 1 7 (by omega), d3 1 7 (by omega) (by omega)]
    exact mc.2.2.2.1
  · rw [w3.1, u2, d2]
    exact b2
  · rw [w3.2 k j h1 h2 (by omega) (by omega), u3 k j (by omega), d3 k j (by omega) (by omega), b5 k j (by omega) (by omega) (by omega)]
theorem rd_16 {s : gx_S} {f : Nat → Int} {R C g a D : Nat} (m : MR s 1 f R C) (M : MP f R C) (h7 : f 2 = 7) (hg : g < 3) (ha : ga a) (G : GGD s f R C g a D) (l1 : D / 1 % 2 = 1) (l8 : D / 8 % 2 = 1) : ∃ (D' : Nat) (u : gx_S), gm_19_155 a 16 s = gm_19_201 a 16 u ∧ KG a s u ∧ GGD u f R C g a D' ∧ D' / 16 % 2 = 1 ∧ D' / 8 % 2 = 1 := by
  obtain ⟨a71, a215, ho, t3, t12, t21, t30, t39⟩ := id ha
  obtain ⟨hD, e8, e9, g1, g2, g4, g8, g16, g32⟩ := G
  obtain ⟨D', t, q1, q2, q3, q4, q5, q6, q7⟩ := sp_21 (w := 16) ho hD (by decide) e8
  have q1 : gm_21 a 16 s = some (decide (¬ D / 16 % 2 = 1), t) := q1
  have n1 := q7 1 (by decide) (by decide)
  have n2 := q7 2 (by decide) (by decide)
  have n4 := q7 4 (by decide) (by decide)
  have n8 := q7 8 (by decide) (by decide)
  have n32 := q7 32 (by decide) (by decide)
  have to : ∀ k j, ¬ (k = a ∧ j = 8) → t.1 k j = s.1 k j := q3
  obtain ⟨li1, li2, li3⟩ := g1 l1
  unfold gm_19_155
  rw [if_pos (by decide), if_neg (by decide), q1, Option.bind_some]
  by_cases z : D / 16 % 2 = 1
  · rw [decide_eq_false (fun h => h z), if_pos (show gb (false, t).1 = 0 from (by decide : gb false = 0))]
    refine ⟨D', t, rfl, ⟨q2, fun k j h1 h2 => to k j (by omega)⟩, ⟨q5, q4, (to a 9 (by omega)).trans e9, fun _ => ⟨fun z hz => (to _ _ (by omega)).trans (li1 z hz), (to _ _ (by omega)).trans li2, (to _ _ (by omega)).trans li3⟩, fun h => ?_, fun h => ?_, fun h => ?_, fun h => ?_, fun h => ?_⟩, q6, n8.trans l8⟩
    · exact ⟨n1.trans l1, TM_o (fun k j h1 h2 => to k j (by omega)) (g2 (n2 ▸ h)).2⟩
    · exact TR_o (fun k j h1 h2 => to k j (by omega)) (g4 (n4 ▸ h))
    · exact ⟨n1.trans l1, TR_o (fun k j h1 h2 => to k j (by omega)) (g8 l8).2⟩
    · exact TR_o (fun k j h1 h2 => to k j (by omega)) (g16 z)
    · obtain ⟨x1, x2⟩ := g32 (n32 ▸ h)
      exact ⟨n2.trans x1, fun k hk => by rw [to _ _ (by omega)]; exact x2 k hk⟩
  · rw [decide_eq_true z, if_neg (show ¬ gb (true, t).1 = 0 from (by decide : ¬ gb true = 0))]
    have mt : MR t 1 f R C := MR_o (fun k j h1 h2 => to k j (by omega)) m
    obtain ⟨u, w, u1, u2, u3, u4, u5, u6⟩ := sp_26 mt M h7 hg a71 ho t21 t30 ((to a 9 (by omega)).trans e9) (TR_o (fun k j h1 h2 => to k j (by omega)) (g8 l8).2)
    have wo : ∀ k j, a ≤ k → ¬ (k = a ∧ j = 8) → ¬ (a + 31 ≤ k ∧ k ≤ a + 38) → w.1 k j = s.1 k j := fun k j h1 h2 h3 => (u6 k j (by omega) (by omega) h3).trans (to k j h2)
    have w8 : w.1 a 8 = D' := (u6 a 8 (by omega) (by omega) (by omega)).trans q4
    have m3 := M.2.2.1
    have st : ((gm_26 a (true, t).2).bind fun q7 => if (-2147483648 ≤ (q7.1 1 7) ∧ (q7.1 1 7) ≤ 2147483647) then (if ¬ (q7.1 1 7) = 1 then gm_19_198 a 16 (a + 30) 0 q7 else gm_19_198 a 16 (a + 30) 1 q7) else none) = gm_19_201 a 16 w := by
      show ((gm_26 a t).bind _) = _
      rw [u1, Option.bind_some, u2, if_pos (by omega)]
      unfold gm_19_198
      rcases m3 with e | e
      · rw [e] at u3
        rw [if_pos (by rw [e]; decide), u3, Option.bind_some]
      · rw [e] at u3
        rw [if_neg (by rw [e]; decide), u3, Option.bind_some]
    rw [st]
    refine ⟨D', w, rfl, ⟨u5.trans q2, fun k j h1 h2 => (u6 k j (by omega) (by omega) (by omega)).trans (to k j (by omega))⟩, ⟨q5, w8, (wo a 9 (by omega) (by omega) (by omega)).trans e9, fun _ => ⟨fun z hz => (wo _ _ (by omega) (by omega) (by omega)).trans (li1 z hz), (wo _ _ (by omega) (by omega) (by omega)).trans li2, (wo _ _ (by omega) (by omega) (by omega)).trans li3⟩, fun h => ?_, fun h => ?_, fun _ => ⟨n1.trans l1, TR_o (fun k j h1 h2 => wo k j (by omega) (by omega) (by omega)) (g8 l8).2⟩, fun _ => u4, fun h => ?_⟩, q6, n8.trans l8⟩
    · exact ⟨n1.trans l1, TM_o (fun k j h1 h2 => wo k j (by omega) (by omega) (by omega)) (g2 (n2 ▸ h)).2⟩
    · exact TR_o (fun k j h1 h2 => wo k j (by omega) (by omega) (by omega)) (g4 (n4 ▸ h))
    · obtain ⟨x1, x2⟩ := g32 (n32 ▸ h)
      exact ⟨n2.trans x1, fun k hk => by rw [wo _ _ (by omega) (by omega) (by omega)]; exact x2 k hk⟩
end
