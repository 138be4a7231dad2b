/-! CALLS: layer, whole -/
theorem sp_55 {d : gx_S} {f : Nat → Int} {l r c : Nat} (hl : l < 3) (hr : r ≤ 8) (hc : c ≤ 12) (e1 : d.1 58 1 = r) (e2 : d.1 58 2 = c) (m1 : d.1 1 4 = f 0) (m2 : d.1 1 5 = f 1) (m3 : d.1 1 6 = f 2) (h0 : 0 ≤ f 0 ∧ f 0 ≤ 8) (h1 : 0 ≤ f 1 ∧ f 1 ≤ 12) : ∃ u : gx_S, gm_55 1 l d = some u ∧ u.2 = d.2 ∧ u.1 1 4 = r ∧ u.1 1 5 = c ∧ u.1 1 6 = bset (tl_ f r c) l ∧ (∀ k j, k ≠ 2 → ¬ (k = 1 ∧ 4 ≤ j ∧ j ≤ 6) → u.1 k j = d.1 k j) ∧ ∀ j, u.1 2 j = if 96 * l ≤ j ∧ j < 96 * l + 96 then d.1 59 (j - 96 * l) else d.1 2 j := by
  have i2 : ((l : Int) * 96).toNat = 96 * l := by omega
  -- the tail, over any state that agrees
  have tail : ∀ (z : gx_S) (T : Int), z.2 = d.2 → (∀ k j, ¬ (k = 1 ∧ j = 6) → z.1 k j = d.1 k j) → z.1 1 6 = T → ∃ u : gx_S, gm_55_27 1 l z = some u ∧ u.2 = d.2 ∧ u.1 1 4 = r ∧ u.1 1 5 = c ∧ u.1 1 6 = bset T l ∧ (∀ k j, k ≠ 2 → ¬ (k = 1 ∧ 4 ≤ j ∧ j ≤ 6) → u.1 k j = d.1 k j) ∧ ∀ j, u.1 2 j = if 96 * l ≤ j ∧ j < 96 * l + 96 then d.1 59 (j - 96 * l) else d.1 2 j := fun z T z2 zo z6 => by
    obtain ⟨a, ha⟩ : ∃ a, a = gw1 z 1 4 (z.1 58 1) := ⟨_, rfl⟩
    obtain ⟨b, hb⟩ : ∃ b, b = gw1 a 1 5 (a.1 58 2) := ⟨_, rfl⟩
    have b6 : b.1 1 6 = T := by rw [hb, gw1_1, if_neg (by omega), ha, gw1_1, if_neg (by omega)]; exact z6
    have bo : ∀ k j, ¬ (k = 1 ∧ 4 ≤ j ∧ j ≤ 6) → b.1 k j = d.1 k j := fun k j q => by rw [hb, gw1_1, if_neg (by omega), ha, gw1_1, if_neg (by omega), zo k j (by omega)]
    unfold gm_55_27
    rw [if_pos (by omega), ← ha, ← hb, i2, b6]
    obtain ⟨w, hw⟩ : ∃ w, w = gw1 b 1 6 (bset T l) := ⟨_, rfl⟩
    have wo : ∀ k j, ¬ (k = 1 ∧ 4 ≤ j ∧ j ≤ 6) → w.1 k j = d.1 k j := fun k j q => by rw [hw, gw1_1, if_neg (by omega), bo k j q]
    refine ⟨gcp w 59 0 2 (96 * l) 96, by rw [hw]; rfl, ?_, ?_, ?_, ?_, fun k j q1 q2 => ?_, fun j => ?_⟩
    · show w.2 = d.2
      rw [hw, gw1_2, hb, gw1_2, ha, gw1_2, z2]
    · rw [gcp_1, if_neg (by omega), hw, gw1_1, if_neg (by omega), hb, gw1_1, if_neg (by omega), ha, gw1_1, if_pos ⟨rfl, rfl⟩, zo _ _ (by omega)]
      exact e1
    · rw [gcp_1, if_neg (by omega), hw, gw1_1, if_neg (by omega), hb, gw1_1, if_pos ⟨rfl, rfl⟩, ha, gw1_1, if_neg (by omega), zo _ _ (by omega)]
      exact e2
    · rw [gcp_1, if_neg (by omega), hw, gw1_1, if_pos ⟨rfl, rfl⟩]
    · rw [gcp_1, if_neg (by omega), wo k j q2]
    · rw [gcp_1]
      by_cases y : 96 * l ≤ j ∧ j < 96 * l + 96
      · rw [if_pos (by omega), if_pos y, wo _ _ (by omega), show 0 + (j - 96 * l) = j - 96 * l by omega]
      · rw [if_neg (by omega), if_neg y, wo _ _ (by omega)]
  unfold gm_55 tl_
  rw [if_pos (by decide +kernel), e1, m1, if_pos (by omega), if_pos (by omega)]
  have re : gm_55_22 1 l d = gm_55_27 1 l (gw1 d 1 6 0) := rfl
  by_cases a : f 0 = r
  · rw [if_neg (show ¬ ¬ (r : Int) = f 0 from fun t => t a.symm), e2, m2, if_pos (show -2147483648 ≤ (c : Int) ∧ (c : Int) ≤ 2147483647 by omega), if_pos (show -2147483648 ≤ f 1 ∧ f 1 ≤ 2147483647 by omega)]
    by_cases b : f 1 = c
    · rw [if_pos b.symm, if_pos (show f 0 = r ∧ f 1 = c from ⟨a, b⟩)]
      exact tail d (f 2) rfl (fun _ _ _ => rfl) m3
    · rw [if_neg (show ¬ (c : Int) = f 1 from fun t => b t.symm), if_neg (show ¬ (f 0 = r ∧ f 1 = c) from fun t => b t.2), re]
      exact tail (gw1 d 1 6 0) 0 rfl (fun k j q => by rw [gw1_1, if_neg q]) (by rw [gw1_1, if_pos ⟨rfl, rfl⟩])
  · rw [if_pos (show ¬ (r : Int) = f 0 from fun t => a t.symm), if_neg (show ¬ (f 0 = r ∧ f 1 = c) from fun t => a t.1), re]
    exact tail (gw1 d 1 6 0) 0 rfl (fun k j q => by rw [gw1_1, if_neg q]) (by rw [gw1_1, if_pos ⟨rfl, rfl⟩])
theorem sp_145t {y : gx_S} {f : Nat → Int} {l r c : Nat} (hl : l < 3) (hr : r ≤ 8) (hc : c ≤ 12) (e8 : y.1 215 8 = r) (e9 : y.1 215 9 = c) (e : y.1 216 = f) (h0 : 0 ≤ f 0 ∧ f 0 ≤ 8) (h1 : 0 ≤ f 1 ∧ f 1 ≤ 12) (hs : ¬ l = 0 → f 0 = r ∧ f 1 = c) : ∃ p : gx_S, (if (-2147483648 ≤ (l : Int) ∧ (l : Int) ≤ 2147483647) then (if ¬ (l : Int) = 0 then (gm_145_112 l y) else (if (-2147483648 ≤ (y.1 215 8) ∧ (y.1 215 8) ≤ 2147483647) then (if (-2147483648 ≤ (y.1 216 0) ∧ (y.1 216 0) ≤ 2147483647) then (if ¬ (y.1 215 8) = (y.1 216 0) then (gm_145_85 l y) else (if (-2147483648 ≤ (y.1 215 9) ∧ (y.1 215 9) ≤ 2147483647) then (if (-2147483648 ≤ (y.1 216 1) ∧ (y.1 216 1) ≤ 2147483647) then (if (y.1 215 9) = (y.1 216 1) then (gm_145_112 l y) else (gm_145_85 l y)) else none) else none)) else none) else none)) else none) = some ((r : Int) * (c : Int), p) ∧ p.2 = y.2 ∧ (∀ k i, k ≠ 216 → p.1 k i = y.1 k i) ∧ ∀ i, p.1 216 i = fy f l (bset (tl_ f r c) l) r c (y.1 219) i := by
  -- the tail
  have tail : ∀ (z : gx_S) (T : Int), z.2 = y.2 → (∀ k i, k ≠ 216 → z.1 k i = y.1 k i) → z.1 216 0 = r → z.1 216 1 = c → z.1 216 2 = T → (∀ i, 3 ≤ i → z.1 216 i = f i) → ∃ p : gx_S, gm_145_112 l z = some ((r : Int) * (c : Int), p) ∧ p.2 = y.2 ∧ (∀ k i, k ≠ 216 → p.1 k i = y.1 k i) ∧ ∀ i, p.1 216 i = fy f l (bset T l) r c (y.1 219) i := fun z T z2 zo z0 z1 zT z3 => by
    obtain ⟨w, hw⟩ : ∃ w, w = gw1 z 216 2 (bset (z.1 216 2) l) := ⟨_, rfl⟩
    have w0 : w.1 216 0 = r := by rw [hw, gw1_1, if_neg (by omega)]; exact z0
    have w1 : w.1 216 1 = c := by rw [hw, gw1_1, if_neg (by omega)]; exact z1
    obtain ⟨p, p1, p2, p3, p4⟩ := sl_145_126 hl 100000 0 w (by omega) (by omega)
    rw [w0, w1] at p1
    refine ⟨p, ?_, by rw [p2, hw, gw1_2, z2], fun k i q => by rw [p3 k i q, hw, gw1_1, if_neg (by omega), zo k i q], fun i => ?_⟩
    · have p1 : gm_145_126 100000 l 0 w = _ := p1
      rw [← p1, hw]
      rfl
    · rw [p4]
      by_cases q : 52 + 96 * l ≤ i ∧ i < 148 + 96 * l
      · rw [if_pos (by omega), hw, gw1_1, if_neg (by omega), zo 219 _ (by decide)]
        unfold fy
        rw [if_neg (by omega), if_neg (by omega), if_neg (by omega), if_pos q]
      · rw [if_neg (by omega), hw, gw1_1]
        unfold fy
        by_cases q0 : i = 0
        · rw [if_neg (by omega), if_pos q0, q0, z0]
        · rw [if_neg q0]
          by_cases q1 : i = 1
          · rw [if_neg (by omega), if_pos q1, q1, z1]
          · rw [if_neg q1]
            by_cases q2 : i = 2
            · rw [if_pos ⟨rfl, q2⟩, if_pos q2, zT]
            · rw [if_neg (by omega), if_neg q2, if_neg q, z3 i (by omega)]
  have t1 : f 0 = r → f 1 = c → ∃ p : gx_S, gm_145_112 l y = some ((r : Int) * (c : Int), p) ∧ p.2 = y.2 ∧ (∀ k i, k ≠ 216 → p.1 k i = y.1 k i) ∧ ∀ i, p.1 216 i = fy f l (bset (tl_ f r c) l) r c (y.1 219) i := fun a b => by
    have et : tl_ f r c = f 2 := if_pos ⟨a, b⟩
    rw [et]
    exact tail y (f 2) rfl (fun _ _ _ => rfl) (by rw [e]; exact a) (by rw [e]; exact b) (by rw [e]) (fun i _ => by rw [e])
  have t2 : ¬ (f 0 = r ∧ f 1 = c) → ∃ p : gx_S, gm_145_85 l y = some ((r : Int) * (c : Int), p) ∧ p.2 = y.2 ∧ (∀ k i, k ≠ 216 → p.1 k i = y.1 k i) ∧ ∀ i, p.1 216 i = fy f l (bset (tl_ f r c) l) r c (y.1 219) i := fun a => by
    have et : tl_ f r c = 0 := if_neg a
    obtain ⟨z1, hz1⟩ : ∃ z, z = gw1 y 216 2 0 := ⟨_, rfl⟩
    obtain ⟨z2, hz2⟩ : ∃ z, z = gw1 z1 216 0 (z1.1 215 8) := ⟨_, rfl⟩
    obtain ⟨z3, hz3⟩ : ∃ z, z = gw1 z2 216 1 (z2.1 215 9) := ⟨_, rfl⟩
    have x8 : z1.1 215 8 = r := by rw [hz1, gw1_1, if_neg (by omega)]; exact e8
    have x9 : z2.1 215 9 = c := by rw [hz2, gw1_1, if_neg (by omega), hz1, gw1_1, if_neg (by omega)]; exact e9
    rw [et]
    unfold gm_145_85
    rw [← hz1, ← hz2, ← hz3]
    refine tail z3 0 ?_ (fun k i q => ?_) ?_ ?_ ?_ fun i hi => ?_
    · rw [hz3, gw1_2, hz2, gw1_2, hz1, gw1_2]
    · rw [hz3, gw1_1, if_neg (by omega), hz2, gw1_1, if_neg (by omega), hz1, gw1_1, if_neg (by omega)]
    · rw [hz3, gw1_1, if_neg (by omega), hz2, gw1_1, if_pos ⟨rfl, rfl⟩, x8]
    · rw [hz3, gw1_1, if_pos ⟨rfl, rfl⟩, x9]
    · rw [hz3, gw1_1, if_neg (by omega), hz2, gw1_1, if_neg (by omega), hz1, gw1_1, if_pos ⟨rfl, rfl⟩]
    · rw [hz3, gw1_1, if_neg (by omega), hz2, gw1_1, if_neg (by omega), hz1, gw1_1, if_neg (by omega), e]
  rw [if_pos (by omega), e8, e9, e]
  by_cases z : l = 0
  · rw [if_neg (show ¬ ¬ (l : Int) = 0 by omega), if_pos (show -2147483648 ≤ (r : Int) ∧ (r : Int) ≤ 2147483647 by omega), if_pos (show -2147483648 ≤ f 0 ∧ f 0 ≤ 2147483647 by omega)]
    by_cases a : f 0 = r
    · rw [if_neg (show ¬ ¬ (r : Int) = f 0 from fun t => t a.symm), if_pos (show -2147483648 ≤ (c : Int) ∧ (c : Int) ≤ 2147483647 by omega), if_pos (show -2147483648 ≤ f 1 ∧ f 1 ≤ 2147483647 by omega)]
      by_cases b : f 1 = c
      · rw [if_pos b.symm]
        exact t1 a b
      · rw [if_neg (fun t => b t.symm)]
        exact t2 fun t => b t.2
    · rw [if_pos (show ¬ (r : Int) = f 0 from fun t => a t.symm)]
      exact t2 fun t => a t.1
  · rw [if_pos (show ¬ (l : Int) = 0 by omega)]
    exact t1 (hs z).1 (hs z).2
theorem inv_layer0 {s : gx_S} (h : INV s) {l : Nat} (hl : l < 3) (hO : ¬ l = 0 → s.1 216 2 / 2 ^ 0 % 2 = 1) : ∃ (r' : Int) (u w : gx_S), gm_87_26 l s = some (r', u) ∧ gm_145_26 l u = some (r', w) ∧ INV w ∧ u.1 216 = s.1 216 := by
  obtain ⟨f, R, C, n, pf, L, tb, c, r, v⟩ := id h
  have hL := v.2.1
  have cT := CV_TC c v
  have m := v.1
  have v0 : AV f R C 0 tb := ⟨v.1, by omega, fun i hi => absurd hi (by omega)⟩
  have hO : ¬ l = 0 → f 2 % 2 = 1 := fun q => by
    have := hO q
    rw [r.1] at this
    have this : f 2 / 1 % 2 = 1 := this
    rw [Int.ediv_one] at this
    exact this
  have r1 : ¬ l = 0 → 1 ≤ R ∧ 1 ≤ C := fun q => (m.2.2.2.2.2.2.2.2 (by have := hO q; omega)).2
  obtain ⟨u, u1, uC, u2⟩ := sp_34 (R := R) (C := C) hl cT (c.1.1.trans m.1.1) (c.1.2.1.trans m.1.2.1) m.1.2.2.1 m.1.2.2.2 fun q => (r1 q).1
  obtain ⟨Y, hY⟩ : ∃ Y, Y = lyw tb L l R C := ⟨_, rfl⟩
  rw [← hY] at u1 u2
  obtain ⟨y1, y2⟩ := lyt_r (tb := tb) (L := L) (l := l) (M := if l = 0 then 8 else R) (B := if l = 2 then 3 else 8) (fun x hx => by
    have := lvr_ l x
    exact ⟨by omega, this.2⟩) (L + 1) 0 0 0 (if l = 0 then 0 else 1) (if l = 0 then 12 else C) (fun _ _ => 0) (by omega) (by
    by_cases a : l = 0
    · rw [if_pos a, if_pos a, if_pos a]
      exact ⟨by omega, by omega, by omega, by omega, by omega⟩
    · rw [if_neg a, if_neg a, if_neg a]
      have := r1 a
      have := m.1
      exact ⟨by omega, by omega, by omega, by omega, by omega⟩) (fun i j q => by omega) (by omega) hL fun i hi => (v.2.2 i hi).1
  have eY : lyt tb L l (if l = 0 then 8 else R) (L + 1) 0 0 0 (if l = 0 then 0 else 1) (if l = 0 then 12 else C) (fun _ _ => 0) = Y := hY.symm
  rw [eY] at y1 y2
  have uo : ∀ k j, ¬ (58 ≤ k ∧ k ≤ 61) → u.1 k j = s.1 k j := fun k j q => uC.2 k j (by omega) (by omega)
  have c0 := CV_0 uo c
  have k0 := KC_0 uC.1 uo
  have r0 := RV_KC k0 r
  obtain ⟨b, hb⟩ : ∃ b, b = gw1 u 14 1 0 := ⟨_, rfl⟩
  rw [← hb] at c0 k0 r0
  -- the reference's reading
  have ref : ∀ t : gx_S, RV t f n pf L tb → ∃ w : gx_S, KF t w ∧ RV w f n pf 0 tb ∧ RW_ w Y ∧ gm_145_26 l t = if Y.1 = -1 then ((gm_132 w).bind fun q7 => if (-2147483648 ≤ (l : Int) ∧ (l : Int) ≤ 2147483647) then (if ¬ (l : Int) = 0 then (gm_145_112 l q7) else (if (-2147483648 ≤ (q7.1 215 8) ∧ (q7.1 215 8) ≤ 2147483647) then (if (-2147483648 ≤ (q7.1 216 0) ∧ (q7.1 216 0) ≤ 2147483647) then (if ¬ (q7.1 215 8) = (q7.1 216 0) then (gm_145_85 l q7) else (if (-2147483648 ≤ (q7.1 215 9) ∧ (q7.1 215 9) ≤ 2147483647) then (if (-2147483648 ≤ (q7.1 216 1) ∧ (q7.1 216 1) ≤ 2147483647) then (if (q7.1 215 9) = (q7.1 216 1) then (gm_145_112 l q7) else (gm_145_85 l q7)) else none) else none)) else none) else none)) else none) else some (-2 - Y.1, w) := fun t rt => by
    obtain ⟨y, z1, z2, z3, z4⟩ := sp_143 (R := R) (C := C) hl (RV_TF rt v) (by rw [rt.1]; exact m.1.1) (by rw [rt.1]; exact m.1.2.1) m.1.2.2.1 m.1.2.2.2 r1
    rw [← hY] at z3 z4
    obtain ⟨w, hw⟩ : ∃ w, w = gw1 y 215 4 0 := ⟨_, rfl⟩
    have wo : ∀ k j, ¬ (k = 215 ∧ j = 4) → w.1 k j = y.1 k j := fun k j q => by rw [hw, gw1_1, if_neg q]
    have w6 : w.1 215 6 = Y.1 := by rw [wo _ _ (by omega), z3]
    refine ⟨w, ⟨fun k j q => by rw [wo _ _ (by omega), z2.2 k j (by omega) (by omega) (by omega)], fun k j q => by rw [hw, gw1_2, z2.1]⟩, by rw [hw]; exact RV_0 (RV_CX z2 rt), ⟨w6, fun q => ?_⟩, ?_⟩
    · obtain ⟨q1, q2, q3⟩ := z4 q
      exact ⟨by rw [wo _ _ (by omega)]; exact q1, by rw [wo _ _ (by omega)]; exact q2, fun i j hi hj => by rw [wo _ _ (by omega)]; exact q3 i j hi hj⟩
    · unfold gm_145_26
      rw [z1, Option.bind_some, ← hw, sp_138 (by rw [w6]; unfold i32; omega), Option.bind_some, w6]
      by_cases z : Y.1 = -1
      · rw [if_pos (fun q => (gbD t).mp q z), if_pos z]
      · rw [if_neg (fun q => q ((gbD t).mpr z)), if_neg z]
  unfold gm_87_26
  rw [u1, Option.bind_some]
  show ∃ (r' : Int) (u' w : gx_S), (if (-2147483648 ≤ Y.1 ∧ Y.1 ≤ 2147483647) then (if Y.1 = -1 then ((gm_119 (gw1 u 14 1 0)).bind fun q6 => (gm_55 1 l q6).bind fun q8 => (gm_58 1 q8).bind fun q10 => some (q10.1, q10.2)) else some (((-2) - Y.1), (gw1 u 14 1 0))) else none) = some (r', u') ∧ _
  rw [if_pos (by omega), ← hb]
  by_cases z : Y.1 = -1
  · obtain ⟨x1, x2, x3, x4, x5⟩ := y2 z
    obtain ⟨g1, g2, g3⟩ := u2 z
    have e0 : b.1 216 = f := r0.1
    obtain ⟨d, d1, d2, d3, d4, d5, d6⟩ := act_pre3 c0 v0 e0
    have rr : 1 ≤ Y.2.1 ∧ Y.2.1 ≤ 8 := by
      by_cases a : l = 0
      · rw [if_pos a] at x1; omega
      · rw [if_neg a] at x1
        have := m.1
        omega
    have hsz : ¬ l = 0 → Y.2.1 = R ∧ Y.2.2.1 = C := fun q => by
      have a := x3 q
      have b := x4 (if_neg q)
      rw [if_neg q] at a b
      exact ⟨a, b⟩
    have m1 := m.1
    have dY1 : d.1 58 1 = Y.2.1 := by rw [d5 _ _ (by omega) (by omega), hb, gw1_1, if_neg (by omega)]; exact g1
    have dY2 : d.1 58 2 = Y.2.2.1 := by rw [d5 _ _ (by omega) (by omega), hb, gw1_1, if_neg (by omega)]; exact g2
    obtain ⟨u', p1, p2, p3, p4, p5, p6, p7⟩ := sp_55 (f := f) hl rr.2 x2.2 dY1 dY2 d3.1 d3.2.1 d3.2.2.1 (by omega) (by omega)
    rw [if_pos z, d1, Option.bind_some, p1, Option.bind_some]
    have k6 : ∀ k j, 6 ≤ k → u'.1 k j = d.1 k j := fun k j q => p6 k j (by omega) (by omega)
    have kc : KC b u' := ⟨fun k j q => by rw [k6 k j (by omega), d5 k j (by omega) (by omega)], fun k j _ => by rw [p2, d2]⟩
    obtain ⟨w, w1, w2, w3, w4⟩ := ref u' (RV_KC kc r0)
    obtain ⟨y, q1, q2, q3, q4⟩ := d6 u' w k6 p2 w1 w2
    obtain ⟨t1, t2, t3⟩ := w3.2 z
    have y219 : ∀ i j, i < Y.2.1 → j < Y.2.2.1 → y.1 219 (12 * i + j) = Y.2.2.2 i j := fun i j hi hj => by rw [q3 219 _ (by decide) (by omega)]; exact t3 i j hi hj
    obtain ⟨o, o1, o2, o3, o4⟩ := sp_145t (y := y) (f := f) hl rr.2 x2.2 (by rw [q3 215 8 (by decide) (by omega)]; exact t1) (by rw [q3 215 9 (by decide) (by omega)]; exact t2) q2 (by omega) (by omega) fun q => by
      have := hsz q
      omega
    obtain ⟨MM, MB⟩ := fy_M (h := y.1 219) m hl rr x2 (fun q => ⟨hO q, hsz q⟩) fun i j hi hj => by
      rw [y219 i j hi hj]
      exact x5 i j hi hj
    refine ⟨(Y.2.1 : Int) * (Y.2.2.1 : Int), u', o, ?_, ?_, q4 o (fy f l (bset (tl_ f Y.2.1 Y.2.2.1) l) Y.2.1 Y.2.2.1 (y.1 219)) Y.2.1 Y.2.2.1 o3 o2 MM ?_ fun i hi => o4 i, ?_⟩
    · unfold gm_58
      rw [if_pos (by decide +kernel), Option.bind_some, p3, p4]
    · rw [w4, if_pos z, q1, Option.bind_some, o1]
    · obtain ⟨n1, n2, n3, n4, n5, n6, n7, n8, n9⟩ := d3
      refine ⟨p3, p4, p5, ?_, ?_, fun i hi => ?_, fun i hi => ?_, fun i hi => ?_, fun l' hl' bb k hk => ?_⟩
      · rw [p6 _ _ (by omega) (by omega), fy_o (by omega) (by omega)]; exact n4
      · rw [p6 _ _ (by omega) (by omega), fy_o (by omega) (by omega)]; exact n5
      · rw [p6 _ _ (by omega) (by omega), fy_o (by omega) (by omega)]; exact n6 i hi
      · rw [p6 _ _ (by omega) (by omega), fy_o (by omega) (by omega)]; exact n7 i hi
      · rw [p6 _ _ (by omega) (by omega), fy_o (by omega) (by omega)]; exact n8 i hi
      · obtain ⟨k1, k2, k3, k4, k5⟩ := kD x2.2 rr.2 hk
        rw [show (1 : Nat) + 1 = 2 from rfl, p7]
        by_cases a : l' = l
        · rw [a, if_pos (by omega), show 96 * l + k - 96 * l = k by omega, show 52 + 96 * l + 12 * (k / Y.2.2.1) + k % Y.2.2.1 = 52 + 96 * l + (12 * (k / Y.2.2.1) + k % Y.2.2.1) by omega, fy_l k4, y219 _ _ k1 k2, d5 _ _ (by omega) (by omega), hb, gw1_1, if_neg (by omega)]
          have := g3 _ _ k1 k2
          rw [k3] at this
          exact this
        · rcases MB l' hl' bb with e | ⟨e1, e2, e3⟩
          · exact absurd e a
          · rw [if_neg (by omega), fy_o (by omega) (by omega)]
            have := n9 l' hl' e3 k (by rw [← e1, ← e2]; exact hk)
            rw [← e2] at this
            exact this
    · funext i
      rw [k6 216 i (by omega), d4, r.1]
  · rw [if_neg z]
    obtain ⟨w, w1, w2, w3, w4⟩ := ref b r0
    exact ⟨_, b, w, rfl, w4.trans (if_neg z), ⟨f, R, C, n, pf, 0, tb, CV_KF w1 c0, w2, v0⟩, by rw [r.1]; exact r0.1⟩
theorem inv_layer {s : gx_S} (h : INV s) {x : Int} (hx : i32 x) : two s (gm_87 x) (gm_145 x) := by
  obtain ⟨f, R, C, n, pf, L, tb, c, r, v⟩ := id h
  have hx' := hx
  unfold i32 at hx'
  have nope : (gm_87 x s = some (-1, s)) → gm_145 x s = some (-1, s) → two s (gm_87 x) (gm_145 x) := fun a b => ⟨-1, s, s, a, b, h⟩
  have c145 : ∀ y : gx_S, gm_145 x y = if 0 ≤ x ∧ x ≤ 2 then (if x = 0 then gm_145_26 x y else ((gm_144 0 y).bind fun q56 => if ¬ (gb q56.1) = 0 then gm_145_26 x q56.2 else some (-1, q56.2))) else some (-1, y) := fun y => by
    unfold gm_145
    rw [if_pos hx', in_ y hx (by omega) (by omega), Option.bind_some]
    by_cases a : 0 ≤ x ∧ x ≤ 2
    · rw [if_neg (fun q => (gbD y).mp q a), if_pos a]
    · rw [if_pos ((gbD y).mpr a), if_neg a]
  by_cases a : 0 ≤ x ∧ x ≤ 2
  · obtain ⟨l, rfl⟩ : ∃ l : Nat, x = l := ⟨x.toNat, by omega⟩
    by_cases b : l = 0
    · have g1 : gm_87 l = gm_87_26 l := by
        funext y
        unfold gm_87
        rw [if_pos hx', if_neg (by omega), if_neg (by omega), if_pos (by omega)]
      have g2 : gm_145 l = gm_145_26 l := by
        funext y
        rw [c145 y, if_pos a, if_pos (by omega)]
      rw [g1, g2]
      obtain ⟨r', u, w, t1, t2, t3, _⟩ := inv_layer0 h (l := l) (by omega) fun q => absurd b q
      exact ⟨r', u, w, t1, t2, t3⟩
    · have e6 : s.1 1 6 = f 2 := c.1.2.2.1
      have c56 := sp_56 (s := s) (a := 1) (by decide +kernel) 0 (by omega) (by rw [e6]; exact v.1.2.1)
      rw [e6] at c56
      have c56 : gm_56 1 0 s = some (decide (f 2 / 2 ^ 0 % 2 = 1), s) := c56
      have g1 : gm_87 l s = if f 2 / 2 ^ 0 % 2 = 1 then gm_87_26 l s else some (-1, s) := by
        unfold gm_87
        rw [if_pos hx', if_neg (by omega), if_neg (by omega), if_neg (by omega), c56, Option.bind_some]
        by_cases d : f 2 / 2 ^ 0 % 2 = 1
        · rw [if_pos (fun q => (gbD s).mp q d), if_pos d]
        · rw [if_neg (fun q => q ((gbD s).mpr d)), if_neg d]
      have g2 : ∀ y : gx_S, y.1 216 = f → gm_145 l y = if f 2 / 2 ^ 0 % 2 = 1 then gm_145_26 l y else some (-1, y) := fun y ey => by
        have q4 := sp_144 (s := y) 0 (by omega) (by rw [ey]; exact v.1.2.1)
        rw [ey] at q4
        have q4 : gm_144 0 y = some (decide (f 2 / 2 ^ 0 % 2 = 1), y) := q4
        rw [c145 y, if_pos a, if_neg (by omega), q4, Option.bind_some]
        by_cases d : f 2 / 2 ^ 0 % 2 = 1
        · rw [if_pos (fun q => (gbD s).mp q d), if_pos d]
        · rw [if_neg (fun q => q ((gbD s).mpr d)), if_neg d]
      by_cases d : f 2 / 2 ^ 0 % 2 = 1
      · obtain ⟨r', u, w, t1, t2, t3, t4⟩ := inv_layer0 h (l := l) (by omega) fun _ => by rw [r.1]; exact d
        exact ⟨r', u, w, by rw [g1, if_pos d, t1], by rw [g2 u (t4.trans r.1), if_pos d, t2], t3⟩
      · exact nope (by rw [g1, if_neg d]) (by rw [g2 s r.1, if_neg d])
  · refine nope ?_ (by rw [c145 s, if_neg a])
    unfold gm_87
    rw [if_pos hx']
    by_cases b : x < 0
    · rw [if_pos b]
    · rw [if_neg b, if_pos (by omega)]
