/-! QUERIES: cell, people -/
/-- a query on both sides keeps all -/
theorem q_inv {s u w : gx_S} {f : Nat → Int} {R C n L : Nat} {pf : Nat → Nat → Int} {tb : Nat → Int} (k : KC s u) (c : CV u f R C n pf L tb) (r : RV s f n pf L tb) (v : AV f R C L tb) (kw : KRw u w) : INV w := ⟨f, R, C, n, pf, L, tb, CV_KF (KR_KF kw) c, RV_KR kw (RV_KC k r), v⟩
theorem CV_20 {s : gx_S} {f : Nat → Int} {R C n L g : Nat} {pf : Nat → Nat → Int} {tb : Nat → Int} (M : MP f R C) (hg : g < 3) (c : CV s f R C n pf L tb) : ∃ (D : Nat) (u : gx_S), gm_20 (71 + 48 * g) s = some u ∧ CV u f R C n pf L tb ∧ KG (71 + 48 * g) s u ∧ GGD u f R C g (71 + 48 * g) D ∧ D / 1 % 2 = 1 := by
  obtain ⟨c1, c2, c3, c4, c5⟩ := c
  obtain ⟨D0, d0⟩ := c2 g hg
  have a := ga_of hg
  obtain ⟨D, u, u1, u2, u3, u4⟩ := sp_20 c1 M hg a d0
  refine ⟨D, u, u1, ⟨KG_MR a u2 c1, fun g' hg' => ?_, HC_o (fun k j q1 q2 => u2.2 k j (by omega) (by omega)) c3, (u2.2 _ _ (by omega) (by omega)).trans c4, fun i hi => (u2.2 _ _ (by omega) (by omega)).trans (c5 i hi)⟩, u2, u3, u4⟩
  by_cases e : g' = g
  · rw [e]
    exact ⟨D, u3⟩
  · obtain ⟨D', d'⟩ := c2 g' hg'
    exact ⟨D', GGD_o (fun k j q1 q2 => u2.2 k j (by omega) (by omega)) d'⟩
theorem KC_rfl (s : gx_S) : KC s s := ⟨fun _ _ _ => rfl, fun _ _ _ => rfl⟩
theorem sp_59 {s : gx_S} {f : Nat → Int} {R C : Nat} {x y : Int} (m : MR s 1 f R C) (M : MP f R C) (hx : i32 x) (hy : i32 y) : gm_59 1 x y s = some (decide (0 ≤ x ∧ x < R ∧ 0 ≤ y ∧ y < C), s) := by
  unfold i32 at hx hy
  have m1 := M.1
  have e4 : s.1 1 4 = R := m.1.trans M.1.1
  have e5 : s.1 1 5 = C := m.2.1.trans M.1.2.1
  unfold gm_59
  rw [if_pos (by decide +kernel), if_pos hx, e4, e5]
  by_cases a : x < 0
  · rw [if_pos a, decide_eq_false (by omega)]
  · rw [if_neg a, if_pos (by omega)]
    by_cases b : R ≤ x
    · rw [if_pos b, decide_eq_false (by omega)]
    · rw [if_neg b, if_pos hy]
      by_cases c : y < 0
      · rw [if_pos c, decide_eq_false (by omega)]
      · rw [if_neg c, if_pos (by omega)]
        by_cases d : C ≤ y
        · rw [if_pos d, decide_eq_false (by omega)]
        · rw [if_neg d, decide_eq_true (by omega)]
theorem sp_198 {s : gx_S} {f : Nat → Int} {R C : Nat} {x y : Int} (e : s.1 216 = f) (M : MP f R C) (hx : i32 x) (hy : i32 y) : gm_198 x y s = some (decide (0 ≤ x ∧ x < R ∧ 0 ≤ y ∧ y < C), s) := by
  have hx' := hx
  have hy' := hy
  unfold i32 at hx' hy'
  have m1 := M.1
  unfold gm_198
  rw [if_pos hx', e, m1.1, if_pos (by omega), in_ s hx (by omega) (by omega), Option.bind_some]
  by_cases a : 0 ≤ x ∧ x ≤ (R : Int) - 1
  · rw [if_neg (fun q => (gbD s).mp q a), if_pos hy']
    show (if (-2147483648 ≤ ((s.1 216 1) - 1) ∧ ((s.1 216 1) - 1) ≤ 2147483647) then ((gm_130 y 0 ((s.1 216 1) - 1) s).bind fun q27 => if (gb q27.1) = 0 then some (false, q27.2) else some (true, q27.2)) else none) = _
    rw [e, m1.2.1, if_pos (by omega), in_ s hy (by omega) (by omega), Option.bind_some]
    by_cases b : 0 ≤ y ∧ y ≤ (C : Int) - 1
    · rw [if_neg (fun q => (gbD s).mp q b), decide_eq_true (show 0 ≤ x ∧ x < (R : Int) ∧ 0 ≤ y ∧ y < (C : Int) by omega)]
    · rw [if_pos ((gbD s).mpr b), decide_eq_false (show ¬ (0 ≤ x ∧ x < (R : Int) ∧ 0 ≤ y ∧ y < (C : Int)) by omega)]
  · rw [if_pos ((gbD s).mpr a), decide_eq_false (show ¬ (0 ≤ x ∧ x < (R : Int) ∧ 0 ≤ y ∧ y < (C : Int)) by omega)]
theorem inv_cell {s : gx_S} (h : INV s) {x y z : Int} (hx : i32 x) (hy : i32 y) (hz : i32 z) : two s (gm_95 x y z) (gm_218 x y z) := by
  obtain ⟨f, R, C, n, pf, L, tb, c, r, v⟩ := id h
  have hx' := hx
  unfold i32 at hx'
  have m1 := v.1.1
  have fin : ∀ q : Int, gm_95 x y z s = some (q, s) → gm_218 x y z s = some (q, s) → two s (gm_95 x y z) (gm_218 x y z) := fun q a b => ⟨q, s, s, a, b, h⟩
  by_cases a : 0 ≤ x ∧ x ≤ 2
  · obtain ⟨l, rfl⟩ : ∃ l : Nat, x = l := ⟨x.toNat, by omega⟩
    have e6 : s.1 1 6 = f 2 := c.1.2.2.1
    have c56 := sp_56 (s := s) (a := 1) (by decide +kernel) l (by omega) (by rw [e6]; exact v.1.2.1)
    have c44 := sp_144 (s := s) l (by omega) (by rw [r.1]; exact v.1.2.1)
    have c59 := sp_59 c.1 v.1 hy hz
    have c98 := sp_198 r.1 v.1 hy hz
    rw [e6] at c56
    rw [r.1] at c44
    have s1 : gm_95 l y z s = if f 2 / 2 ^ l % 2 = 1 then (if 0 ≤ y ∧ y < R ∧ 0 ≤ z ∧ z < C then ((gm_60 1 l ((y * (s.1 1 5)) + z) s).bind fun q25 => if ¬ (l : Int) = 2 then (if (-2147483648 ≤ q25.1 ∧ q25.1 ≤ 2147483647) then (if ¬ q25.1 = 8 then some ((97 + q25.1), q25.2) else some (46, q25.2)) else none) else some ((48 + q25.1), q25.2)) else some (-1, s)) else some (-1, s) := by
      unfold gm_95
      rw [if_pos hx', if_neg (by omega), if_neg (by omega), c56, Option.bind_some]
      by_cases b : f 2 / 2 ^ l % 2 = 1
      · rw [if_neg (fun q => (gbD s).mp q b), if_pos b]
        show ((gm_59 1 y z s).bind _) = _
        rw [c59, Option.bind_some]
        by_cases d : 0 ≤ y ∧ y < R ∧ 0 ≤ z ∧ z < C
        · rw [if_pos (fun q => (gbD s).mp q d), if_pos d]
        · rw [if_neg (fun q => q ((gbD s).mpr d)), if_neg d]
      · rw [if_pos ((gbD s).mpr b), if_neg b]
    have s2 : gm_218 l y z s = if f 2 / 2 ^ l % 2 = 1 then (if 0 ≤ y ∧ y < R ∧ 0 ≤ z ∧ z < C then (if 0 ≤ (((52 + (96 * (l : Int))) + (12 * y)) + z) ∧ (((52 + (96 * (l : Int))) + (12 * y)) + z) < 340 then (if ¬ (l : Int) = 2 then (if (-2147483648 ≤ (f ((((52 + (96 * (l : Int))) + (12 * y)) + z)).toNat) ∧ (f ((((52 + (96 * (l : Int))) + (12 * y)) + z)).toNat) ≤ 2147483647) then (if ¬ (f ((((52 + (96 * (l : Int))) + (12 * y)) + z)).toNat) = 8 then some ((97 + (f ((((52 + (96 * (l : Int))) + (12 * y)) + z)).toNat)), s) else some (46, s)) else none) else some ((48 + (f ((((52 + (96 * (l : Int))) + (12 * y)) + z)).toNat)), s)) else none) else some (-1, s)) else some (-1, s) := by
      unfold gm_218
      rw [if_pos hx', in_ s hx (by omega) (by omega), Option.bind_some, if_neg (fun q => (gbD s).mp q a), c44, Option.bind_some]
      by_cases b : f 2 / 2 ^ l % 2 = 1
      · rw [if_neg (fun q => (gbD s).mp q b), if_pos b]
        show ((gm_198 y z s).bind _) = _
        rw [c98, Option.bind_some]
        by_cases d : 0 ≤ y ∧ y < R ∧ 0 ≤ z ∧ z < C
        · rw [if_pos (fun q => (gbD s).mp q d), if_pos d]
          show (if 0 ≤ (((52 + (96 * (l : Int))) + (12 * y)) + z) ∧ (((52 + (96 * (l : Int))) + (12 * y)) + z) < 340 then (if ¬ (l : Int) = 2 then (if (-2147483648 ≤ (s.1 216 ((((52 + (96 * (l : Int))) + (12 * y)) + z)).toNat) ∧ (s.1 216 ((((52 + (96 * (l : Int))) + (12 * y)) + z)).toNat) ≤ 2147483647) then (if ¬ (s.1 216 ((((52 + (96 * (l : Int))) + (12 * y)) + z)).toNat) = 8 then some ((97 + (s.1 216 ((((52 + (96 * (l : Int))) + (12 * y)) + z)).toNat)), s) else some (46, s)) else none) else some ((48 + (s.1 216 ((((52 + (96 * (l : Int))) + (12 * y)) + z)).toNat)), s)) else none) = _
          rw [r.1]
        · rw [if_neg (fun q => q ((gbD s).mpr d)), if_neg d]
      · rw [if_pos ((gbD s).mpr b), if_neg b]
    by_cases b : f 2 / 2 ^ l % 2 = 1
    · by_cases d : 0 ≤ y ∧ y < R ∧ 0 ≤ z ∧ z < C
      · obtain ⟨y, rfl⟩ : ∃ y' : Nat, y = y' := ⟨y.toNat, by omega⟩
        obtain ⟨z, rfl⟩ : ∃ z' : Nat, z = z' := ⟨z.toNat, by omega⟩
        have hk : y * C + z < R * C := by
          have := Nat.mul_le_mul_right C (show y + 1 ≤ R by omega)
          rw [Nat.add_mul] at this
          omega
        have d1 : (y * C + z) / C = y := by
          rw [Nat.mul_comm, Nat.mul_add_div (by omega), Nat.div_eq_of_lt (by omega)]
          rfl
        have d2 : (y * C + z) % C = z := by
          rw [Nat.mul_comm, Nat.mul_add_mod, Nat.mod_eq_of_lt (by omega)]
        have e5 : s.1 1 5 = C := c.1.2.1.trans m1.2.1
        have ei : (y : Int) * (C : Int) + (z : Int) = ((y * C + z : Nat) : Int) := by
          rw [Int.natCast_add, Int.natCast_mul]
        have c60 := sp_60 (s := s) (a := 1) (by decide +kernel) l (y * C + z) (by omega) (by have := RC_96 m1.2.2.1 m1.2.2.2; omega)
        have e9 := c.1.2.2.2.2.2.2.2.2 l (by omega) b (y * C + z) hk
        have r9 := v.1.2.2.2.2.2.2.2.1 l (by omega) b (y * C + z) hk
        rw [d1, d2] at e9 r9
        rw [e9] at c60
        have i2 : (((52 + (96 * (l : Int))) + (12 * (y : Int))) + (z : Int)).toNat = 52 + 96 * l + 12 * y + z := by omega
        have rr : -2147483648 ≤ f (52 + 96 * l + 12 * y + z) ∧ f (52 + 96 * l + 12 * y + z) ≤ 2147483647 := by
          by_cases q : l = 2
          · rw [if_pos q] at r9; omega
          · rw [if_neg q] at r9; omega
        rw [if_pos b, if_pos d, e5, ei, c60, Option.bind_some] at s1
        rw [if_pos b, if_pos d, i2, if_pos (by omega)] at s2
        by_cases q : ¬ (l : Int) = 2
        · rw [if_pos q] at s1 s2
          have s1 : gm_95 l y z s = if (-2147483648 ≤ f (52 + 96 * l + 12 * y + z) ∧ f (52 + 96 * l + 12 * y + z) ≤ 2147483647) then (if ¬ f (52 + 96 * l + 12 * y + z) = 8 then some ((97 + f (52 + 96 * l + 12 * y + z)), s) else some (46, s)) else none := s1
          rw [if_pos rr] at s1 s2
          by_cases p : ¬ f (52 + 96 * l + 12 * y + z) = 8
          · rw [if_pos p] at s1 s2
            exact fin _ s1 s2
          · rw [if_neg p] at s1 s2
            exact fin _ s1 s2
        · rw [if_neg q] at s1 s2
          exact fin _ s1 s2
      · exact fin _ (s1.trans (by rw [if_pos b, if_neg d])) (s2.trans (by rw [if_pos b, if_neg d]))
    · exact fin _ (s1.trans (if_neg b)) (s2.trans (if_neg b))
  · refine fin (-1) ?_ ?_
    · unfold gm_95
      rw [if_pos hx']
      by_cases b : x < 0
      · rw [if_pos b]
      · rw [if_neg b, if_pos (by omega)]
    · unfold gm_218
      rw [if_pos hx', in_ s hx (by omega) (by omega), Option.bind_some, if_pos ((gbD s).mpr a)]
theorem inv_people {s : gx_S} (h : INV s) {x y : Int} (hx : i32 x) (hy : i32 y) : two s (gm_97 x y) (gm_179 x y) := by
  obtain ⟨f, R, C, n, pf, L, tb, c, r, v⟩ := id h
  have hx' := hx
  have hy' := hy
  unfold i32 at hx' hy'
  have c14 := sp_114 s hx
  have c148 : ∀ t : gx_S, gm_148 x t = _ := fun t => sp_148 t hx
  by_cases a : 0 ≤ x ∧ x < 3
  · obtain ⟨g, rfl⟩ : ∃ g : Nat, x = g := ⟨x.toNat, by omega⟩
    have hg : g < 3 := by omega
    by_cases b : 0 ≤ y ∧ y ≤ 10
    · obtain ⟨y, rfl⟩ : ∃ y' : Nat, y = y' := ⟨y.toNat, by omega⟩
      obtain ⟨D, u, u1, u2, u3, u4, u5⟩ := CV_20 v.1 hg c
      obtain ⟨l1, l2, l3⟩ := u4.2.2.2.1 u5
      have ev : fx_rf 70 (g : Int).toNat = 71 + 48 * g := by
        rw [show ((g : Int)).toNat = g by omega]
        rcases (show g = 0 ∨ g = 1 ∨ g = 2 by omega) with e | e | e
        · rw [e]; rfl
        · rw [e]; rfl
        · rw [e]; rfl
      have kc : KC s u := KG_KC (ga_of hg) u3
      have ru := RV_KC kc r
      have eu : u.1 216 = f := ru.1
      have Mu : MP (u.1 216) R C := by rw [eu]; exact v.1
      have s1 : gm_97 g y s = if (8 : Int) ≤ (y : Int) then (if ¬ (y : Int) = 8 then (if ¬ (y : Int) = 9 then ((gm_66 1 g u).bind fun q37 => some (q37.1, q37.2)) else some ((u.1 (71 + 48 * g) 7), u)) else some ((u.1 (71 + 48 * g) 6), u)) else (if 0 ≤ (y : Int) ∧ (y : Int) < 8 then some ((u.1 (71 + 48 * g + 1) (y : Int).toNat), u) else none) := by
        unfold gm_97
        rw [c14, Option.bind_some, if_neg (fun q => (gbD s).mp q a), if_pos hy', if_neg (by omega), if_pos b.2, if_pos a, Option.bind_some, ev, u1, Option.bind_some]
      have s2 : gm_179 g y u = if (y : Int) = 8 then ((gm_174 g u).bind fun q42 => some (q42.1, q42.2)) else (if (y : Int) = 9 then ((gm_176 g u).bind fun q40 => some (q40.1, q40.2)) else (if (y : Int) = 10 then ((gm_178 g u).bind fun q38 => some (q38.1, q38.2)) else ((gm_177 g u).bind fun q33 => if 0 ≤ (y : Int) ∧ (y : Int) < 8 then some ((q33.1 236 (y : Int).toNat), q33) else none))) := by
        unfold gm_179
        rw [c148 u, Option.bind_some, if_neg (fun q => (gbD s).mp q (by omega)), if_pos hy', in_ u hy (by omega) (by omega), Option.bind_some, if_pos (fun q => (gbD s).mp q b)]
      unfold two
      rw [s1]
      by_cases y8 : y < 8
      · rw [if_neg (by omega), if_pos (by omega), show ((y : Int)).toNat = y by omega, l1 y y8]
        rw [if_neg (by omega), if_neg (by omega), if_neg (by omega)] at s2
        obtain ⟨w, w1, w2, w3⟩ := sp_177 (g := g) Mu hg
        rw [w1, Option.bind_some, if_pos (by omega), show ((y : Int)).toNat = y by omega, w2 y y8, eu] at s2
        exact ⟨_, u, w, rfl, s2, q_inv kc u2 r v (KR_w w3)⟩
      · rw [if_pos (by omega)]
        by_cases e8 : y = 8
        · rw [if_neg (show ¬ ¬ (y : Int) = 8 by omega), l2]
          rw [if_pos (by omega), sp_174 Mu hg, Option.bind_some, eu] at s2
          exact ⟨_, u, u, rfl, s2, q_inv kc u2 r v (KRw_rf u)⟩
        · rw [if_pos (show ¬ (y : Int) = 8 by omega)]
          by_cases e9 : y = 9
          · rw [if_neg (show ¬ ¬ (y : Int) = 9 by omega), l3]
            rw [if_neg (by omega), if_pos (by omega), sp_176 Mu hg, Option.bind_some, eu] at s2
            exact ⟨_, u, u, rfl, s2, q_inv kc u2 r v (KRw_rf u)⟩
          · rw [if_pos (show ¬ (y : Int) = 9 by omega), sp_66g u2.1 hg, Option.bind_some]
            rw [if_neg (by omega), if_neg (by omega), if_pos (by omega), sp_178 hg, Option.bind_some, eu] at s2
            exact ⟨_, u, u, rfl, s2, q_inv kc u2 r v (KRw_rf u)⟩
    · refine ⟨-1, s, s, ?_, ?_, h⟩
      · unfold gm_97
        rw [c14, Option.bind_some, if_neg (fun q => (gbD s).mp q a), if_pos hy']
        by_cases d : y < 0
        · rw [if_pos d]
        · rw [if_neg d, if_neg (by omega)]
      · unfold gm_179
        rw [c148 s, Option.bind_some, if_neg (fun q => (gbD s).mp q (by omega)), if_pos hy', in_ s hy (by omega) (by omega), Option.bind_some, if_neg (fun q => q ((gbD s).mpr b))]
  · refine ⟨-1, s, s, ?_, ?_, h⟩
    · unfold gm_97
      rw [c14, Option.bind_some, if_pos ((gbD s).mpr a)]
    · unfold gm_179
      rw [c148 s, Option.bind_some, if_pos ((gbD s).mpr (by omega))]
