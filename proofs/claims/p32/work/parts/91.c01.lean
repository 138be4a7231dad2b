/-! THE CLASS ALONE: texts told -/
section
variable {s : gx_S} {f : Nat → Int} {R C n L : Nat} {pf : Nat → Nat → Int} {tb : Nat → Int}
theorem qs_0 (h : QS f R C n pf L tb s) {u : gx_S} (o : ∀ k j, ¬ (58 ≤ k ∧ k ≤ 61) → u.1 k j = s.1 k j) : QS f R C n pf 0 tb (gw1 u 14 1 0) := ⟨CV_0 o h.1, h.2.1, by omega, fun i hi => absurd hi (by omega)⟩
/-- counts that are taken -/
theorem qs_counts (h : QS f R C n pf L tb s) {g : Nat} (hg : g < 3) (z : (ctw tb L).1 = -1) : ∃ (u : gx_S), gm_88 g s = some (sg (ctw tb L).2 9, u) ∧ QS (fc f g (ctw tb L).2) R C (nn n) (pn n pf f) 0 tb u := by
  obtain ⟨c, v⟩ := id h
  have hL := v.2.1
  have cT := CV_TC c v
  have hx : i32 (g : Int) := by unfold i32; omega
  obtain ⟨u, u1, uC, ur, u2⟩ := sp_4 cT
  have uo : ∀ k j, ¬ (58 ≤ k ∧ k ≤ 61) → u.1 k j = s.1 k j := fun k j q => uC.2 k j (by omega) (by omega)
  have h0 := qs_0 h uo
  have fr := ctw_r (fun p => (sgn_r cT p).1) hL
  obtain ⟨b, hb⟩ : ∃ b, b = gw1 u 14 1 0 := ⟨_, rfl⟩
  rw [← hb] at h0
  obtain ⟨d, d1, d2, d3, d5, d6⟩ := qs_act h0
  have i2 : ((g : Int) * 9).toNat = 9 * g := by omega
  unfold gm_88
  rw [sp_114 s hx, Option.bind_some, if_pos (fun q => (gbD s).mp q (by omega))]
  show ∃ (u' : gx_S), ((gm_4 s).bind _) = some (_, u') ∧ _
  rw [u1, Option.bind_some]
  show ∃ (u' : gx_S), (if (-2147483648 ≤ (ctw tb L).1 ∧ (ctw tb L).1 ≤ 2147483647) then (if (ctw tb L).1 = -1 then ((gm_119 (gw1 u 14 1 0)).bind fun q23 => if 0 ≤ (0 : Int) ∧ 0 ≤ ((g * 9) : Int) ∧ 0 ≤ (9 : Int) ∧ (0 : Int) + 9 ≤ 9 ∧ ((g * 9) : Int) + 9 ≤ 27 then ((gm_66 1 g (gcp q23 61 0 3 ((g * 9) : Int).toNat 9)).bind fun q28 => some (q28.1, q28.2)) else none) else some (((-2) - (ctw tb L).1), (gw1 u 14 1 0))) else none) = some (_, u') ∧ _
  rw [if_pos (by omega), ← hb, if_pos z, d1, Option.bind_some, if_pos (by omega), i2]
  obtain ⟨u', hu'⟩ : ∃ u', u' = gcp d 61 0 3 (9 * g) 9 := ⟨_, rfl⟩
  have uk : ∀ k j, k ≠ 3 → u'.1 k j = d.1 k j := fun k j q => by rw [hu', gcp_1, if_neg (by omega)]
  have u3 : ∀ j, u'.1 3 j = if 9 * g ≤ j ∧ j < 9 * g + 9 then (ctw tb L).2 (j - 9 * g) else d.1 3 j := fun j => by
    rw [hu', gcp_1]
    by_cases y : 9 * g ≤ j ∧ j < 9 * g + 9
    · rw [if_pos (by omega), if_pos y, d5 _ _ (by omega) (by omega), hb, gw1_1, if_neg (by omega), show 0 + (j - 9 * g) = j - 9 * g by omega, u2 z _ (by omega)]
    · rw [if_neg (by omega), if_neg y]
  rw [← hu']
  have mr : MR u' 1 (fc f g (ctw tb L).2) R C := by
    obtain ⟨m1, m2, m3, m4, m5, m6, m7, m8, m9⟩ := d3
    have o : ∀ i, ¬ (5 ≤ i ∧ i < 32) → fc f g (ctw tb L).2 i = f i := fun i h => by
      unfold fc
      rw [if_neg (by omega)]
    refine ⟨by rw [uk _ _ (by omega), o 0 (by omega)]; exact m1, by rw [uk _ _ (by omega), o 1 (by omega)]; exact m2, by rw [uk _ _ (by omega), o 2 (by omega)]; exact m3, by rw [uk _ _ (by omega), o 3 (by omega)]; exact m4, by rw [uk _ _ (by omega), o 4 (by omega)]; exact m5, fun i hi => ?_, fun i hi => by rw [uk _ _ (by omega), o _ (by omega)]; exact m7 i hi, fun i hi => by rw [uk _ _ (by omega), o _ (by omega)]; exact m8 i hi, fun l hl bb k hk => by rw [uk _ _ (by omega), o _ (by omega)]; exact m9 l hl (by rw [o _ (by omega)] at bb; exact bb) k hk⟩
    rw [show (1 : Nat) + 2 = 3 from rfl, u3]
    unfold fc
    by_cases y : 9 * g ≤ i ∧ i < 9 * g + 9
    · rw [if_pos y, if_pos (by omega), show 5 + i - 5 - 9 * g = i - 9 * g by omega]
    · rw [if_neg y, if_neg (by omega)]
      exact m6 i hi
  refine ⟨u', ?_, d6 u' _ R C (fun k j q => uk k j (by omega)) (MP_fc v.1 hg fr) mr⟩
  rw [sp_66g mr hg, Option.bind_some]
  have e : sg (fun z => fc f g (ctw tb L).2 (5 + 9 * g + z)) 9 = sg (ctw tb L).2 9 := sg_eq fun j hj => by
    unfold fc
    rw [if_pos (by omega), show 5 + 9 * g + j - 5 - 9 * g = j by omega]
  show some (sg (fun z => fc f g (ctw tb L).2 (5 + 9 * g + z)) 9, u') = _
  rw [e]
/-- a layer that is taken -/
theorem qs_layer (h : QS f R C n pf L tb s) {l r c : Nat} {hh : Nat → Nat → Int} (hl : l < 3) (hO : ¬ l = 0 → f 2 % 2 = 1) (hY : lyw tb L l R C = (-1, r, c, hh)) : ∃ (u : gx_S) (H : Nat → Int), gm_87 l s = some ((r : Int) * (c : Int), u) ∧ (∀ i j, i < r → j < c → H (12 * i + j) = hh i j) ∧ (1 ≤ r ∧ r ≤ 8 ∧ 1 ≤ c ∧ c ≤ 12) ∧ QS (fy f l (bset (tl_ f r c) l) r c H) r c (nn n) (pn n pf f) 0 tb u := by
  obtain ⟨c_, v⟩ := id h
  have hL := v.2.1
  have cT := CV_TC c_ v
  have m := v.1
  have r1 : ¬ l = 0 → 1 ≤ R ∧ 1 ≤ C := fun q => (m.2.2.2.2.2.2.2.2 (by have := hO q; omega)).2
  obtain ⟨u, u1, uC, u2⟩ := sp_34 (R := R) (C := C) hl cT (c_.1.1.trans m.1.1) (c_.1.2.1.trans m.1.2.1) m.1.2.2.1 m.1.2.2.2 fun q => (r1 q).1
  rw [hY] at u1 u2
  obtain ⟨y1, y2⟩ := lyt_r (tb := tb) (L := L) (l := l) (M := if l = 0 then 8 else R) (B := if l = 2 then 3 else 8) (fun x hx => by
    have := lvr_ l x
    exact ⟨by omega, this.2⟩) (L + 1) 0 0 0 (if l = 0 then 0 else 1) (if l = 0 then 12 else C) (fun _ _ => 0) (by omega) (by
    by_cases a : l = 0
    · rw [if_pos a, if_pos a, if_pos a]
      exact ⟨by omega, by omega, by omega, by omega, by omega⟩
    · rw [if_neg a, if_neg a, if_neg a]
      have := r1 a
      have := m.1
      exact ⟨by omega, by omega, by omega, by omega, by omega⟩) (fun i j q => by omega) (by omega) hL fun i hi => (v.2.2 i hi).1
  have eY : lyt tb L l (if l = 0 then 8 else R) (L + 1) 0 0 0 (if l = 0 then 0 else 1) (if l = 0 then 12 else C) (fun _ _ => 0) = (-1, r, c, hh) := hY
  rw [eY] at y1 y2
  obtain ⟨x1, x2, x3, x4, x5⟩ := y2 rfl
  obtain ⟨g1, g2, g3⟩ := u2 rfl
  dsimp only at x1 x2 x3 x4 x5 g1 g2 g3
  have uo : ∀ k j, ¬ (58 ≤ k ∧ k ≤ 61) → u.1 k j = s.1 k j := fun k j q => uC.2 k j (by omega) (by omega)
  have h0 := qs_0 h uo
  obtain ⟨b, hb⟩ : ∃ b, b = gw1 u 14 1 0 := ⟨_, rfl⟩
  rw [← hb] at h0
  obtain ⟨d, d1, d2, d3, d5, d6⟩ := qs_act h0
  have m1 := m.1
  have rr : 1 ≤ r ∧ r ≤ 8 := by
    by_cases a : l = 0
    · rw [if_pos a] at x1; exact x1
    · rw [if_neg a] at x1
      exact ⟨x1.1, by have := x1.2; omega⟩
  have hsz : ¬ l = 0 → r = R ∧ c = C := fun q => by
    have a := x3 q
    have b := x4 (if_neg q)
    rw [if_neg q] at a b
    exact ⟨a, b⟩
  have dY1 : d.1 58 1 = r := by rw [d5 _ _ (by omega) (by omega), hb, gw1_1, if_neg (by omega)]; exact g1
  have dY2 : d.1 58 2 = c := by rw [d5 _ _ (by omega) (by omega), hb, gw1_1, if_neg (by omega)]; exact g2
  obtain ⟨u', p1, p2, p3, p4, p5, p6, p7⟩ := sp_55 (f := f) hl rr.2 x2.2 dY1 dY2 d3.1 d3.2.1 d3.2.2.1 (by omega) (by omega)
  have c0 : 0 < c := x2.1
  obtain ⟨H, hH⟩ : ∃ H : Nat → Int, H = fun i => hh (i / 12) (i % 12) := ⟨_, rfl⟩
  have HH : ∀ i j, i < r → j < c → H (12 * i + j) = hh i j := fun i j hi hj => by
    have c12 : c ≤ 12 := x2.2
    rw [hH]
    show hh ((12 * i + j) / 12) ((12 * i + j) % 12) = _
    rw [show (12 * i + j) / 12 = i by omega, show (12 * i + j) % 12 = j by omega]
  obtain ⟨MM, MB⟩ := fy_M (h := H) m hl rr x2 (fun q => ⟨hO q, hsz q⟩) fun i j hi hj => by
    rw [HH i j hi hj]
    exact x5 i j hi hj
  have k6 : ∀ k j, 6 ≤ k → u'.1 k j = d.1 k j := fun k j q => p6 k j (by omega) (by omega)
  refine ⟨u', H, ?_, HH, ⟨rr.1, rr.2, x2.1, x2.2⟩, d6 u' _ r c k6 MM ?_⟩
  · have g0 : gm_87 l s = gm_87_26 l s := by
      unfold gm_87
      rw [if_pos (by omega), if_neg (by omega), if_neg (by omega)]
      by_cases a : l = 0
      · rw [if_pos (by omega)]
      · have e6 : s.1 1 6 = f 2 := c_.1.2.2.1
        have c56 := sp_56 (s := s) (a := 1) (by decide +kernel) 0 (by omega) (by rw [e6]; exact v.1.2.1)
        rw [e6] at c56
        have c56 : gm_56 1 0 s = some (decide (f 2 / 2 ^ 0 % 2 = 1), s) := c56
        have d0 : f 2 / 2 ^ 0 % 2 = 1 := by
          have := hO a
          show f 2 / 1 % 2 = 1
          rw [Int.ediv_one]
          exact this
        rw [if_neg (by omega), c56, Option.bind_some, if_pos (fun q => (gbD s).mp q d0)]
    rw [g0]
    unfold gm_87_26
    rw [u1, Option.bind_some]
    show (if (-2147483648 ≤ (-1 : Int) ∧ (-1 : Int) ≤ 2147483647) then (if (-1 : Int) = -1 then ((gm_119 (gw1 u 14 1 0)).bind fun q6 => (gm_55 1 l q6).bind fun q8 => (gm_58 1 q8).bind fun q10 => some (q10.1, q10.2)) else some (((-2) - (-1 : Int)), (gw1 u 14 1 0))) else none) = _
    rw [if_pos (by omega), ← hb, if_pos rfl, d1, Option.bind_some, p1, Option.bind_some]
    unfold gm_58
    rw [if_pos (by decide +kernel), Option.bind_some, p3, p4]
  · obtain ⟨n1, n2, n3, n4, n5, n6, n7, n8, n9⟩ := d3
    refine ⟨p3, p4, p5, ?_, ?_, fun i hi => ?_, fun i hi => ?_, fun i hi => ?_, fun l' hl' bb k hk => ?_⟩
    · rw [p6 _ _ (by omega) (by omega), fy_o (by omega) (by omega)]; exact n4
    · rw [p6 _ _ (by omega) (by omega), fy_o (by omega) (by omega)]; exact n5
    · rw [p6 _ _ (by omega) (by omega), fy_o (by omega) (by omega)]; exact n6 i hi
    · rw [p6 _ _ (by omega) (by omega), fy_o (by omega) (by omega)]; exact n7 i hi
    · rw [p6 _ _ (by omega) (by omega), fy_o (by omega) (by omega)]; exact n8 i hi
    · obtain ⟨k1, k2, k3, k4, k5⟩ := kD x2.2 rr.2 hk
      rw [show (1 : Nat) + 1 = 2 from rfl, p7]
      by_cases a : l' = l
      · rw [a, if_pos (by omega), show 96 * l + k - 96 * l = k by omega, show 52 + 96 * l + 12 * (k / c) + k % c = 52 + 96 * l + (12 * (k / c) + k % c) by omega, fy_l k4, HH _ _ k1 k2, d5 _ _ (by omega) (by omega), hb, gw1_1, if_neg (by omega)]
        have := g3 _ _ k1 k2
        rw [k3] at this
        exact this
      · rcases MB l' hl' bb with e | ⟨e1, e2, e3⟩
        · exact absurd e a
        · rw [if_neg (by omega), fy_o (by omega) (by omega)]
          have := n9 l' hl' e3 k (by rw [← e1, ← e2]; exact hk)
          rw [← e2] at this
          exact this
end
