/-! THE CLASS: shareUnknown, makeLives -/
theorem MR_o {s u : gx_S} {a : Nat} {f : Nat → Int} {R C : Nat} (o : ∀ k j, a ≤ k → k < a + 5 → u.1 k j = s.1 k j) (m : MR s a f R C) : MR u a f R C := by
  obtain ⟨m1, m2, m3, m4, m5, m6, m7, m8, m9⟩ := m
  exact ⟨by rw [o _ _ (by omega) (by omega)]; exact m1, by rw [o _ _ (by omega) (by omega)]; exact m2, by rw [o _ _ (by omega) (by omega)]; exact m3, by rw [o _ _ (by omega) (by omega)]; exact m4, by rw [o _ _ (by omega) (by omega)]; exact m5, fun i hi => by rw [o _ _ (by omega) (by omega)]; exact m6 i hi, fun i hi => by rw [o _ _ (by omega) (by omega)]; exact m7 i hi, fun i hi => by rw [o _ _ (by omega) (by omega)]; exact m8 i hi, fun l hl b k hk => by rw [o _ _ (by omega) (by omega)]; exact m9 l hl b k hk⟩
theorem KD_NC (f : Nat → Int) (R C : Nat) : sg (fun z => NC f R C 0 z) 8 = 0 ↔ KD f R C 0 8 ≤ 0 := by
  have n : ∀ z : Nat, z < 8 → 0 ≤ NC f R C 0 z := fun z _ => (NC_nn f R C 0 z).1
  constructor
  · intro h
    have e : KD f R C 0 8 = 0 := sg_0 fun z hz => by
      have := sg_at (f := fun z => NC f R C 0 (z : Nat)) n z hz
      have := n z hz
      exact if_neg (by omega)
    omega
  · intro h
    refine sg_0 fun z hz => ?_
    have a := sg_at (f := fun z => bi (0 < NC f R C 0 (z : Nat))) (n := 8) (fun k _ => (bi_r _).1) z hz
    have b := n z hz
    refine Classical.byContradiction fun q => ?_
    have e : bi (0 < NC f R C 0 z) = 1 := if_pos (by omega)
    rw [e] at a
    have e2 : KD f R C 0 8 = sg (fun z => bi (0 < NC f R C 0 (z : Nat))) 8 := rfl
    omega
theorem sp_22 {s : gx_S} {f : Nat → Int} {R C g a : Nat} (m : MR s 1 f R C) (M : MP f R C) (hg : g < 3) (h71 : 71 ≤ a) (ho : fx_oc a 2 = true) (ht : fx_oc (a + 39) 7 = true) (e9 : s.1 a 9 = g) : ∃ u : gx_S, gm_22 a s = some u ∧ u.2 = s.2 ∧ (∀ z, z < 8 → u.1 (a + 1) z = LV f R C g z) ∧ u.1 a 6 = UN f R C g ∧ u.1 a 7 = ASf f R C g ∧ ∀ k j, k ≠ a + 1 → ¬ (k = a ∧ (j = 6 ∨ j = 7)) → ¬ (7 ≤ k ∧ k ≤ 13) → ¬ (k = 6 ∧ j = 7) → ¬ (a + 40 ≤ k ∧ k ≤ a + 47) → u.1 k j = s.1 k j := by
  obtain ⟨b, b1, b2, b3, b4, b5⟩ := sp_68 s ht
  have mb : MR b 1 f R C := MR_o (fun k j h1 h2 => b5 k j (by omega) (by omega) (by omega)) m
  have b9 : b.1 a 9 = g := (b5 a 9 (by omega) (by omega) (by omega)).trans e9
  obtain ⟨n', c, c1, c2, c3, c4, c5, c6⟩ := sl_22_13 M hg h71 ho ht 100000 0 b (by omega) (by omega) mb b9
  have c1 : gm_22_13 100000 a 0 0 0 b = _ := c1
  have mc : MR c 1 f R C := MR_o (fun k j h1 h2 => c3 k j (by omega) (by omega) (by omega)) mb
  have c9 : c.1 a 9 = g := (c3 a 9 (by omega) (by omega) (by omega)).trans b9
  obtain ⟨l1, l2⟩ := L0_r M hg
  obtain ⟨u0, u1⟩ := UN_r M hg
  have un : sg (fun z => f (5 + 9 * g + z)) 9 - sg (L0 f R C g) 8 = UN f R C g := by omega
  obtain ⟨d, hd⟩ : ∃ d, d = gw1 c a 6 (UN f R C g) := ⟨_, rfl⟩
  have dk : ∀ k i, ¬ (k = a ∧ i = 6) → d.1 k i = c.1 k i := fun k i h => by rw [hd, gw1_1, if_neg h]
  have d6 : d.1 a 6 = UN f R C g := by rw [hd, gw1_1, if_pos ⟨rfl, rfl⟩]
  have d18 : d.1 1 8 = f 4 := by rw [dk 1 8 (by omega)]; exact mc.2.2.2.2.1
  have m4 := M.2.2.2.1
  have hN := NC_nn f R C 0
  have hRC := RC_96 M.1.2.2.1 M.1.2.2.2
  have N1 : 0 ≤ sg (fun z => NC f R C 0 z) 8 ∧ sg (fun z => NC f R C 0 z) 8 ≤ 768 := by
    refine ⟨sg_nn fun z _ => (hN z).1, ?_⟩
    have e := sg_le (f := fun z => NC f R C 0 (z : Nat)) (g := fun _ => 96 * 1) (n := 8) fun z _ => by
      have := (hN z).2
      rw [← Int.natCast_mul] at this
      show NC f R C 0 z ≤ 96 * 1
      omega
    rw [sg_mul, sg_one] at e
    omega
  have hst : gm_22 a s = gm_22_139 a a (ASf f R C g) d := by
    unfold gm_22
    rw [if_pos ho, b1, Option.bind_some, c1, gm_22_13, if_pos (by decide), if_pos (by decide), c9, sp_66g mc hg, Option.bind_some]
    show (if (-2147483648 ≤ (gw1 c a 6 (sg (fun z => f (5 + 9 * g + z)) 9 - sg (L0 f R C g) 8)).1 1 8 ∧ (gw1 c a 6 (sg (fun z => f (5 + 9 * g + z)) 9 - sg (L0 f R C g) 8)).1 1 8 ≤ 2147483647) then (if (gw1 c a 6 (sg (fun z => f (5 + 9 * g + z)) 9 - sg (L0 f R C g) 8)).1 1 8 = 0 then gm_22_131 a a (gw1 c a 6 (sg (fun z => f (5 + 9 * g + z)) 9 - sg (L0 f R C g) 8)) else _) else _) = _
    rw [un, ← hd, d18, if_pos (by omega)]
    by_cases z : f 4 = 0
    · rw [if_pos z]
      unfold gm_22_131
      rw [d6, show ASf f R C g = UN f R C g from if_neg fun h => by
        have := h.1
        omega]
    · rw [if_neg z, if_pos (by omega)]
      by_cases z2 : sg (fun z => NC f R C 0 z) 8 = 0
      · rw [if_neg (fun h => h z2)]
        unfold gm_22_131
        have k0 := (KD_NC f R C).mp z2
        rw [d6, show ASf f R C g = UN f R C g from if_neg fun h => by
          have := h.2
          omega]
      · rw [if_pos z2, show ASf f R C g = 0 from if_pos ⟨by omega, by
          refine Classical.byContradiction fun h => z2 ((KD_NC f R C).mpr (by omega))⟩]
  obtain ⟨e, he⟩ : ∃ e, e = gw1 (gw1 d a 7 (ASf f R C g)) (a + 39 + 1) 0 (UN f R C g - ASf f R C g) := ⟨_, rfl⟩
  have ek : ∀ k i, ¬ (k = a ∧ i = 7) → ¬ (k = a + 39 + 1 ∧ i = 0) → e.1 k i = d.1 k i := fun k i h1 h2 => by rw [he, gw1_1, if_neg h2, gw1_1, if_neg h1]
  have i0 : ∀ y, 9 * 0 + y = y := fun y => by omega
  have e4 : ∀ i, i < 72 → e.1 (a + 39 + 4) i = if i < 8 then L0 f R C g i else 0 := fun i hi => by
    rw [ek _ _ (by omega) (by omega), dk _ _ (by omega), c5, (b4 i hi).1]
    by_cases q : i < 8
    · rw [if_pos ⟨by omega, q⟩, if_pos q]; omega
    · rw [if_neg (fun h => q h.2), if_neg q]; rfl
  have e5 : ∀ i, i < 72 → e.1 (a + 39 + 5) i = if i < 8 then NC f R C 0 i else 0 := fun i hi => by
    rw [ek _ _ (by omega) (by omega), dk _ _ (by omega), c6, (b4 i hi).2]
    by_cases q : i < 8
    · rw [if_pos ⟨by omega, q⟩, if_pos q]; omega
    · rw [if_neg (fun h => q h.2), if_neg q]; rfl
  have e1 : ∀ x, x < 8 → e.1 (a + 39 + 1) x = Psh f R C g x := fun x hx => by
    unfold Psh
    by_cases q : x = 0
    · rw [if_pos q, q, he, gw1_1, if_pos ⟨rfl, rfl⟩]
    · rw [if_neg q, ek _ _ (by omega) (by omega), dk _ _ (by omega), c3 _ _ (by omega) (by omega) (by omega), b3 x hx]
  have L89 : ∀ z, z < 8 → L0 f R C g z ≤ 89991 := fun z hz => by
    have := sg_at l1 z hz
    have := (M.2.2.2.2.1 g hg).2
    omega
  have hb : ∀ i, i < 72 → (0 ≤ e.1 (a + 39 + 4) i ∧ e.1 (a + 39 + 4) i ≤ 1000000) ∧ (0 ≤ e.1 (a + 39 + 5) i ∧ e.1 (a + 39 + 5) i ≤ 1000000) := fun i hi => by
    rw [e4 i hi, e5 i hi]
    by_cases q : i < 8
    · have x1 := l1 i q
      have x2 := L89 i q
      have x3 := hN i
      rw [← Int.natCast_mul] at x3
      rw [if_pos q, if_pos q]
      omega
    · rw [if_neg q, if_neg q]
      omega
  have hA : ∀ x y, x < 8 → y < 9 → am e (a + 39) x y = Ash f R C g x y := fun x y hx hy => by
    unfold am
    rw [e4 _ (by omega), e5 _ (by omega)]
    by_cases q : x = 0
    · rw [q]
      have es : sg (fun y => e.1 (a + 39 + 4) (9 * 0 + y)) 9 = sg (L0 f R C g) 8 := by
        rw [sg_cut0 (f := fun y => e.1 (a + 39 + 4) (9 * 0 + y)) (m := 8) (n := 9) (by omega) fun k h1 h2 => by rw [e4 _ (by omega), if_neg (by omega)]]
        exact sg_eq fun y hy => by rw [i0, e4 y (by omega), if_pos hy]
      rw [es, i0]
      by_cases q2 : y < 8
      · have z : Ash f R C g 0 y = if sg (L0 f R C g) 8 = 0 then NC f R C 0 y else L0 f R C g y := if_pos ⟨rfl, q2⟩
        rw [if_pos q2, if_pos q2, z]
      · have z : Ash f R C g 0 y = 0 := if_neg fun h => q2 h.2
        rw [if_neg q2, if_neg q2, z]
        split <;> rfl
    · have z : Ash f R C g x y = 0 := if_neg fun h => q h.1
      rw [if_neg (show ¬ (9 * x + y < 8) by omega), if_neg (show ¬ (9 * x + y < 8) by omega), z]
      split <;> rfl
  obtain ⟨pa, _⟩ := PA_sh M hg
  obtain ⟨u, w1, w2, w3, w4, w5, w6, _⟩ := TB_class (t := a + 39) (md := 0) ht (.inl rfl) pa (fun h => absurd h (by decide)) e1 hb hA
  obtain ⟨v, u', v1, v2, _⟩ := sp_41_0 ht (tf_of pa e1 hb hA)
  have c74 := gm_41_74 ht v1 w1
  obtain ⟨r, r1, r2, r3, r4⟩ := sl_22_176 (a := a) 100000 0 u (by omega) (by omega)
  have r1 : gm_22_176 100000 a 0 u = _ := r1
  have uo : ∀ k j, ¬ (7 ≤ k ∧ k ≤ 13) → ¬ (k = 6 ∧ j = 7) → ¬ (a + 40 ≤ k ∧ k ≤ a + 47) → u.1 k j = e.1 k j := fun k j h1 h2 h3 => w3.2 k j h1 h2 (by omega) (by omega)
  have e6 : e.1 a 6 = UN f R C g := by rw [ek _ _ (by omega) (by omega)]; exact d6
  have e7 : e.1 a 7 = ASf f R C g := by rw [he, gw1_1, if_neg (by omega), gw1_1, if_pos ⟨rfl, rfl⟩]
  refine ⟨r, ?_, ?_, fun z hz => ?_, ?_, ?_, fun k j h1 h2 h3 h4 h5 => ?_⟩
  · rw [hst]
    unfold gm_22_139
    have x6 : (gw1 d a 7 (ASf f R C g)).1 a 6 = UN f R C g := by rw [gw1_1, if_neg (by omega), d6]
    have x7 : (gw1 d a 7 (ASf f R C g)).1 a 7 = ASf f R C g := by rw [gw1_1, if_pos ⟨rfl, rfl⟩]
    rw [x6, x7, ← he, v1, Option.bind_some, c74, Option.bind_some, r1]
  · rw [r2, w3.1, he]
    show d.2 = s.2
    rw [hd]
    show c.2 = s.2
    rw [c2, b2]
  · rw [r4, if_pos ⟨by omega, hz⟩, uo _ _ (by omega) (by omega) (by omega), ek _ _ (by omega) (by omega), dk _ _ (by omega), c4, if_pos ⟨by omega, hz⟩]
    have := w2 0 z (by omega) (by omega)
    rw [i0] at this
    rw [this]
    rfl
  · rw [r3 _ _ (by omega), uo _ _ (by omega) (by omega) (by omega), e6]
  · rw [r3 _ _ (by omega), uo _ _ (by omega) (by omega) (by omega), e7]
  · rw [r3 k j h1, uo k j h3 h4 h5, ek k j (by omega) (by omega), dk k j (by omega), c3 k j h1 (by omega) (by omega), b5 k j (by omega) (by omega) (by omega)]
