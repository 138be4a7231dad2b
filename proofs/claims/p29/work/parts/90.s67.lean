/-! CALLS: end, weight, districtOf, settle, district -/
theorem sp_114 (s : gx_S) {x : Int} (h : i32 x) : gm_114 x s = some (decide (0 ≤ x ∧ x < 3), s) := by
  unfold i32 at h
  unfold gm_114
  rw [if_pos h]
  by_cases a : x < 0
  · rw [if_pos a, decide_eq_false (by omega)]
  · rw [if_neg a]
    by_cases b : 3 ≤ x
    · rw [if_pos b, decide_eq_false (by omega)]
    · rw [if_neg b, decide_eq_true (by omega)]
theorem sp_115 (s : gx_S) {x : Int} (h : i32 x) : gm_115 x s = some (decide (0 ≤ x ∧ x < 8), s) := by
  unfold i32 at h
  unfold gm_115
  rw [if_pos h]
  by_cases a : x < 0
  · rw [if_pos a, decide_eq_false (by omega)]
  · rw [if_neg a]
    by_cases b : 8 ≤ x
    · rw [if_pos b, decide_eq_false (by omega)]
    · rw [if_neg b, decide_eq_true (by omega)]
theorem sp_116 (s : gx_S) {x : Int} (h : i32 x) : gm_116 x s = some (decide (0 ≤ x ∧ x < 4), s) := by
  unfold i32 at h
  unfold gm_116
  rw [if_pos h]
  by_cases a : x < 0
  · rw [if_pos a, decide_eq_false (by omega)]
  · rw [if_neg a]
    by_cases b : 4 ≤ x
    · rw [if_pos b, decide_eq_false (by omega)]
    · rw [if_neg b, decide_eq_true (by omega)]
theorem sp_117 (s : gx_S) {x : Int} (h : i32 x) : gm_117 x s = some (decide (0 ≤ x ∧ x < 4), s) := by
  unfold i32 at h
  unfold gm_117
  rw [if_pos h]
  by_cases a : x < 0
  · rw [if_pos a, decide_eq_false (by omega)]
  · rw [if_neg a]
    by_cases b : 4 ≤ x
    · rw [if_pos b, decide_eq_false (by omega)]
    · rw [if_neg b, decide_eq_true (by omega)]
theorem in_ (s : gx_S) {x a b : Int} (h : i32 x) (ha : -1000 ≤ a ∧ a ≤ 1000) (hb : -1000 ≤ b ∧ b ≤ 1000) : gm_130 x a b s = some (decide (a ≤ x ∧ x ≤ b), s) := by
  unfold i32 at h
  exact sp_130 (by omega) (by omega) (by omega) s
theorem sp_148 (s : gx_S) {x : Int} (h : i32 x) : gm_148 x s = some (decide (0 ≤ x ∧ x ≤ 2), s) := by
  have h' := h
  unfold i32 at h'
  unfold gm_148
  rw [if_pos h', in_ s h (by omega) (by omega), Option.bind_some]
theorem gbD {c : Prop} [Decidable c] (s : gx_S) : (gb (decide c, s).1 = 0) ↔ ¬ c := by
  show gb (decide c) = 0 ↔ ¬ c
  rw [gb_bi]
  unfold bi
  by_cases h : c
  · rw [if_pos h]
    exact ⟨fun q => absurd q (by decide), fun q => absurd h q⟩
  · rw [if_neg h]
    exact ⟨fun _ => h, fun _ => rfl⟩
/-- a call on both sides, with the same answer -/
def two (s : gx_S) (a b : gx_S → Option (Int × gx_S)) : Prop := ∃ (r : Int) (u w : gx_S), a s = some (r, u) ∧ b u = some (r, w) ∧ INV w
theorem inv_end {s : gx_S} (h : INV s) {x : Int} (hx : i32 x) : two s (gm_86 x) (gm_136 x) := by
  obtain ⟨f, R, C, n, pf, L, tb, c, r, v⟩ := id h
  unfold i32 at hx
  have e1 := c.2.2.2.1
  have e2 := r.2.2.1
  have hL := v.2.1
  unfold two gm_86 gm_136
  by_cases a : x < 0
  · exact ⟨-1, s, s, by rw [if_pos hx, if_pos a], by rw [if_pos hx, if_pos a], h⟩
  · by_cases b : x ≤ L
    · refine ⟨x, gw1 s 14 1 x, gw1 (gw1 s 14 1 x) 215 4 x, by rw [if_pos hx, if_neg a, e1, if_pos (by omega), if_pos b], ?_, ?_⟩
      · have e3 : (gw1 s 14 1 x).1 215 4 = L := by rw [gw1_1, if_neg (by omega), e2]
        rw [if_pos hx, if_neg a, e3, if_pos (by omega), if_pos b]
      · have o : ∀ k j, ¬ (k = 14 ∧ j = 1) → ¬ (k = 215 ∧ j = 4) → (gw1 (gw1 s 14 1 x) 215 4 x).1 k j = s.1 k j := fun k j h1 h2 => by rw [gw1_1, if_neg h2, gw1_1, if_neg h1]
        refine ⟨f, R, C, n, pf, x.toNat, tb, ?_, ?_, v.1, by omega, fun i hi => v.2.2 i (by omega)⟩
        · obtain ⟨c1, c2, c3, c4, c5⟩ := c
          refine ⟨MR_o (fun k j q1 q2 => o k j (by omega) (by omega)) c1, fun g hg => ?_, HC_o (fun k j q1 q2 => o k j (by omega) (by omega)) c3, ?_, fun i hi => (o _ _ (by omega) (by omega)).trans (c5 i (by omega))⟩
          · obtain ⟨D, z⟩ := c2 g hg
            exact ⟨D, GGD_o (fun k j q1 q2 => o k j (by omega) (by omega)) z⟩
          · rw [gw1_1, if_neg (by omega), gw1_1, if_pos ⟨rfl, rfl⟩]
            omega
        · obtain ⟨r1, ⟨r2, r3⟩, r4, r5, r6⟩ := r
          refine ⟨?_, ⟨(o _ _ (by omega) (by omega)).trans r2, fun k hk i hi => (o _ _ (by omega) (by omega)).trans (r3 k hk i hi)⟩, ?_, fun i hi => by rw [o _ _ (by omega) (by omega)]; exact r5 i (by omega), ⟨fun j hj => ?_, fun d hd => ?_, r6.2.2⟩⟩
          · funext i
            rw [o 216 i (by omega) (by omega), r1]
          · rw [gw1_1, if_pos ⟨rfl, rfl⟩]
            omega
          · rw [o 232 j (by omega) (by omega), o 233 j (by omega) (by omega), o 234 j (by omega) (by omega)]
            exact r6.1 j hj
          · rw [o 235 d (by omega) (by omega)]
            exact r6.2.1 d hd
    · exact ⟨-1, s, s, by rw [if_pos hx, if_neg a, e1, if_pos (by omega), if_neg b], by rw [if_pos hx, if_neg a, e2, if_pos (by omega), if_neg b], h⟩
theorem inv_weight {s : gx_S} (h : INV s) {x y : Int} (hx : i32 x) (hy : i32 y) : two s (gm_112 x y) (gm_227 x y) := by
  obtain ⟨f, R, C, n, pf, L, tb, c, r, v⟩ := id h
  have hx' := hx
  have hy' := hy
  unfold i32 at hx' hy'
  unfold two gm_112 gm_227
  rw [sp_114 s hx, Option.bind_some]
  by_cases a : 0 ≤ x ∧ x < 3
  · rw [if_neg (fun q => (gbD s).mp q a), sp_116 s hy, Option.bind_some]
    by_cases b : 0 ≤ y ∧ y < 4
    · rw [if_neg (fun q => (gbD s).mp q b), if_pos (by omega)]
      have e : s.1 4 (x * 4 + y).toNat = s.1 216 ((32 + (4 * x)) + y).toNat := by
        have e1 := c.1.2.2.2.2.2.2.1 (x * 4 + y).toNat (by omega)
        rw [r.1]
        rw [show (1 : Nat) + 3 = 4 from rfl] at e1
        rw [e1]
        congr 1
        omega
      refine ⟨_, s, s, rfl, ?_, h⟩
      rw [sp_148 s hx, Option.bind_some, if_neg (fun q => (gbD s).mp q (by omega)), if_pos hy', in_ s hy (by omega) (by omega), Option.bind_some, if_neg (fun q => (gbD s).mp q (by omega)), if_pos (by omega), ← e]
    · rw [if_pos ((gbD s).mpr b)]
      refine ⟨-1, s, s, rfl, ?_, h⟩
      rw [sp_148 s hx, Option.bind_some, if_neg (fun q => (gbD s).mp q (by omega)), if_pos hy', in_ s hy (by omega) (by omega), Option.bind_some, if_pos ((gbD s).mpr (by omega))]
  · rw [if_pos ((gbD s).mpr a)]
    refine ⟨-1, s, s, rfl, ?_, h⟩
    rw [sp_148 s hx, Option.bind_some, if_pos ((gbD s).mpr (by omega))]
theorem inv_districtOf {s : gx_S} (h : INV s) {x : Int} (hx : i32 x) : two s (gm_113 x) (gm_228 x) := by
  obtain ⟨f, R, C, n, pf, L, tb, c, r, v⟩ := id h
  have hx' := hx
  unfold i32 at hx'
  unfold two gm_113 gm_228
  rw [sp_115 s hx, Option.bind_some]
  by_cases a : 0 ≤ x ∧ x < 8
  · rw [if_neg (fun q => (gbD s).mp q a), if_pos (by omega)]
    have e : s.1 5 x.toNat = s.1 216 (44 + x).toNat := by
      have e1 := c.1.2.2.2.2.2.2.2.1 x.toNat (by omega)
      rw [r.1]
      rw [show (1 : Nat) + 4 = 5 from rfl] at e1
      rw [e1]
      congr 1
      omega
    refine ⟨_, s, s, rfl, ?_, h⟩
    rw [if_pos hx', in_ s hx (by omega) (by omega), Option.bind_some, if_neg (fun q => (gbD s).mp q (by omega)), if_pos (by omega), ← e]
  · rw [if_pos ((gbD s).mpr a)]
    refine ⟨-1, s, s, rfl, ?_, h⟩
    rw [if_pos hx', in_ s hx (by omega) (by omega), Option.bind_some, if_pos ((gbD s).mpr (by omega))]
/-- an act that writes one cell of the map on each side -/
theorem inv_one {s : gx_S} {f : Nat → Int} {R C n L : Nat} {pf : Nat → Nat → Int} {tb : Nat → Int} (c : CV s f R C n pf L tb) (r : RV s f n pf L tb) (v : AV f R C L tb) {k j i : Nat} {x : Int} (hk : k < 6) (hM : MP (fun q => if q = i then x else f q) R C) (hR : ∀ u : gx_S, MR u 1 f R C → MR (gw1 u k j x) 1 (fun q => if q = i then x else f q) R C) : ∃ u w : gx_S, gm_119 s = some u ∧ gm_132 (gw1 u k j x) = some w ∧ w.1 216 = f ∧ INV (gw1 w 216 i x) := by
  obtain ⟨u, u1, u2, u3, u4⟩ := sp_119 v.1 c
  have kc : KC s (gw1 u k j x) := ⟨fun k' j' q => by rw [gw1_1, if_neg (by omega), u4 k' j' (by omega) (by omega)], fun k' j' _ => by rw [gw1_2, u3]⟩
  have rv := RV_KC kc r
  obtain ⟨w, w1, w2, w3, w4⟩ := sp_132 c.2.2.1.1 rv.2.1
  have ew : w.1 216 = f := by
    funext q
    rw [w3 216 q (by decide) (by omega), rv.1]
  rw [rv.1] at w4
  refine ⟨u, w, u1, w1, ew, fun q => if q = i then x else f q, R, C, nn n, pn n pf f, L, tb, ?_, ?_, hM, v.2⟩
  · have ca : CW (gw1 u k j x) (fun q => if q = i then x else f q) R C (nn n) (pn n pf f) L tb := by
      obtain ⟨a1, a2, a3, a4, a5⟩ := u2
      exact ⟨hR u a1, fun g hg => ⟨by rw [gw1_1, if_neg (by omega)]; exact (a2 g hg).1, by rw [gw1_1, if_neg (by omega)]; exact (a2 g hg).2⟩, HC_o (fun k' j' q1 q2 => by rw [gw1_1, if_neg (by omega)]) a3, by rw [gw1_1, if_neg (by omega)]; exact a4, fun q hq => by rw [gw1_1, if_neg (by omega)]; exact a5 q hq⟩
    have kf : KF (gw1 u k j x) (gw1 w 216 i x) := ⟨fun k' j' q => by rw [gw1_1 w, if_neg (by omega)]; exact w3 k' j' (by omega) (by omega), fun k' j' _ => by rw [gw1_2, w2]⟩
    exact CW_CV hM (fun _ _ => rfl) (CW_KF kf ca)
  · obtain ⟨r1, r2, r3, r4, r5⟩ := rv
    refine ⟨?_, ⟨by rw [gw1_1, if_neg (by omega)]; exact w4.1, fun q hq p hp => by rw [gw1_1, if_neg (by omega)]; exact w4.2 q hq p hp⟩, by rw [gw1_1, if_neg (by omega), w3 215 4 (by decide) (by omega)]; exact r3, fun p hp => by rw [gw1_1, if_neg (by omega), w3 218 p (by decide) (by omega)]; exact r4 p hp, ⟨fun p hp => ?_, fun d hd => ?_, fun p hp => ?_⟩⟩
    · funext q
      rw [gw1_1, ew]
      by_cases z : q = i
      · rw [if_pos ⟨rfl, z⟩, if_pos z]
      · rw [if_neg (fun t => z t.2), if_neg z]
    · rw [gw1_1, if_neg (by omega), gw1_1, if_neg (by omega), gw1_1, if_neg (by omega), w3 232 p (by decide) (by omega), w3 233 p (by decide) (by omega), w3 234 p (by decide) (by omega), gw1_2, w2]
      exact r5.1 p hp
    · rw [gw1_1, if_neg (by omega), w3 235 d (by decide) (by omega), gw1_2, w2]
      exact r5.2.1 d hd
    · rw [gw1_2, w2]
      exact r5.2.2 p hp
theorem MP_up {f : Nat → Int} {R C i : Nat} {x : Int} (M : MP f R C) (h : (i = 3 ∧ (x = 0 ∨ x = 1)) ∨ (i = 4 ∧ (x = 0 ∨ x = 1)) ∨ (32 ≤ i ∧ i < 44 ∧ 0 ≤ x ∧ x ≤ 9) ∨ (44 ≤ i ∧ i < 52 ∧ 0 ≤ x ∧ x ≤ 3)) : MP (fun q => if q = i then x else f q) R C := by
  obtain ⟨m1, m2, m3, m4, m5, m6, m7, m8, m10⟩ := M
  have o : ∀ q, q ≠ i → (if q = i then x else f q) = f q := fun q hq => if_neg hq
  refine ⟨?_, ?_, ?_, ?_, fun g hg => ⟨fun z hz => ?_, ?_⟩, fun q hq => ?_, fun q hq => ?_, fun l hl b k hk => ?_, by
    show ¬ (if 2 = i then x else f 2) = 0 → (if 2 = i then x else f 2) % 2 = 1 ∧ _
    rw [o 2 (by omega)]
    exact m10⟩
  · show ((if 0 = i then x else f 0) = _ ∧ (if 1 = i then x else f 1) = _ ∧ _ ∧ _)
    rw [o 0 (by omega), o 1 (by omega)]
    exact m1
  · show 0 ≤ (if 2 = i then x else f 2) ∧ (if 2 = i then x else f 2) < 8
    rw [o 2 (by omega)]
    exact m2
  · show (if 3 = i then x else f 3) = 0 ∨ (if 3 = i then x else f 3) = 1
    by_cases z : 3 = i
    · rw [if_pos z]; omega
    · rw [if_neg z]; exact m3
  · show (if 4 = i then x else f 4) = 0 ∨ (if 4 = i then x else f 4) = 1
    by_cases z : 4 = i
    · rw [if_pos z]; omega
    · rw [if_neg z]; exact m4
  · show 0 ≤ (if 5 + 9 * g + z = i then x else f (5 + 9 * g + z))
    rw [o _ (by omega)]
    exact (m5 g hg).1 z hz
  · rw [sg_eq (g := fun z => f (5 + 9 * g + z)) fun z hz => o _ (by omega)]
    exact (m5 g hg).2
  · show 0 ≤ (if 32 + q = i then x else f (32 + q)) ∧ (if 32 + q = i then x else f (32 + q)) ≤ 9
    by_cases z : 32 + q = i
    · rw [if_pos z]; omega
    · rw [if_neg z]; exact m6 q hq
  · show 0 ≤ (if 44 + q = i then x else f (44 + q)) ∧ (if 44 + q = i then x else f (44 + q)) ≤ 3
    by_cases z : 44 + q = i
    · rw [if_pos z]; omega
    · rw [if_neg z]; exact m7 q hq
  · show 0 ≤ (if 52 + 96 * l + 12 * (k / C) + k % C = i then x else f (52 + 96 * l + 12 * (k / C) + k % C)) ∧ (if 52 + 96 * l + 12 * (k / C) + k % C = i then x else f (52 + 96 * l + 12 * (k / C) + k % C)) ≤ _
    rw [o _ (by omega)]
    have b' : (if 2 = i then x else f 2) / 2 ^ l % 2 = 1 := b
    rw [o 2 (by omega)] at b'
    exact m8 l hl b' k hk
theorem MR_up {u : gx_S} {f : Nat → Int} {R C k j i : Nat} {x : Int} (m : MR u 1 f R C) (h : (k = 1 ∧ j = 7 ∧ i = 3) ∨ (k = 1 ∧ j = 8 ∧ i = 4) ∨ (k = 4 ∧ j < 12 ∧ i = 32 + j) ∨ (k = 5 ∧ j < 8 ∧ i = 44 + j)) : MR (gw1 u k j x) 1 (fun q => if q = i then x else f q) R C := by
  obtain ⟨m1, m2, m3, m4, m5, m6, m7, m8, m9⟩ := m
  have o : ∀ q, q ≠ i → (if q = i then x else f q) = f q := fun q hq => if_neg hq
  refine ⟨?_, ?_, ?_, ?_, ?_, fun q hq => ?_, fun q hq => ?_, fun q hq => ?_, fun l hl b k' hk => ?_⟩
  · show _ = (if 0 = i then x else f 0)
    rw [gw1_1, if_neg (by omega), o 0 (by omega)]; exact m1
  · show _ = (if 1 = i then x else f 1)
    rw [gw1_1, if_neg (by omega), o 1 (by omega)]; exact m2
  · show _ = (if 2 = i then x else f 2)
    rw [gw1_1, if_neg (by omega), o 2 (by omega)]; exact m3
  · show _ = (if 3 = i then x else f 3)
    rw [gw1_1]
    by_cases z : 3 = i
    · rw [if_pos z, if_pos (by omega)]
    · rw [if_neg z, if_neg (by omega)]; exact m4
  · show _ = (if 4 = i then x else f 4)
    rw [gw1_1]
    by_cases z : 4 = i
    · rw [if_pos z, if_pos (by omega)]
    · rw [if_neg z, if_neg (by omega)]; exact m5
  · show _ = (if 5 + q = i then x else f (5 + q))
    rw [gw1_1, if_neg (by omega), o _ (by omega)]; exact m6 q hq
  · show _ = (if 32 + q = i then x else f (32 + q))
    rw [gw1_1]
    by_cases z : 32 + q = i
    · rw [if_pos z, if_pos (by omega)]
    · rw [if_neg z, if_neg (by omega)]; exact m7 q hq
  · show _ = (if 44 + q = i then x else f (44 + q))
    rw [gw1_1]
    by_cases z : 44 + q = i
    · rw [if_pos z, if_pos (by omega)]
    · rw [if_neg z, if_neg (by omega)]; exact m8 q hq
  · show _ = (if 52 + 96 * l + 12 * (k' / C) + k' % C = i then x else f (52 + 96 * l + 12 * (k' / C) + k' % C))
    have b' : (if 2 = i then x else f 2) / 2 ^ l % 2 = 1 := b
    rw [o 2 (by omega)] at b'
    rw [gw1_1, if_neg (by omega), o _ (by omega)]
    exact m9 l hl b' k' hk
theorem inv_district {s : gx_S} (h : INV s) {x y : Int} (hx : i32 x) (hy : i32 y) : two s (gm_91 x y) (gm_216 x y) := by
  obtain ⟨f, R, C, n, pf, L, tb, c, r, v⟩ := id h
  have hx' := hx
  have hy' := hy
  unfold i32 at hx' hy'
  unfold two gm_91 gm_216
  rw [sp_115 s hx, Option.bind_some]
  by_cases a : 0 ≤ x ∧ x < 8
  · rw [if_neg (fun q => (gbD s).mp q a), sp_117 s hy, Option.bind_some]
    by_cases b : 0 ≤ y ∧ y < 4
    · obtain ⟨z, rfl⟩ : ∃ z : Nat, x = z := ⟨x.toNat, by omega⟩
      have i1 : ((z : Int)).toNat = z := by omega
      have i2 : (44 + (z : Int)).toNat = 44 + z := by omega
      have e5 : s.1 5 z = f (44 + z) := by
        have := c.1.2.2.2.2.2.2.2.1 z (by omega)
        rw [show (1 : Nat) + 4 = 5 from rfl] at this
        exact this
      have mr := v.1.2.2.2.2.2.2.1 z (by omega)
      have gR : ∀ t : gx_S, t.1 216 = f → ((if (-2147483648 ≤ (z : Int) ∧ (z : Int) ≤ 2147483647) then ((gm_130 z 0 7 t).bind fun q20 => if (gb q20.1) = 0 then some ((-1), q20.2) else (if (-2147483648 ≤ y ∧ y ≤ 2147483647) then ((gm_130 y 0 3 q20.2).bind fun q24 => if ¬ (gb q24.1) = 0 then (if 0 ≤ (44 + (z : Int)) ∧ (44 + (z : Int)) < 340 then (if (-2147483648 ≤ (q24.2.1 216 ((44 + (z : Int))).toNat) ∧ (q24.2.1 216 ((44 + (z : Int))).toNat) ≤ 2147483647) then (if ¬ (q24.2.1 216 ((44 + (z : Int))).toNat) = y then ((gm_132 q24.2).bind fun q32 => some ((q24.2.1 216 ((44 + (z : Int))).toNat), (gw1 q32 216 ((44 + (z : Int))).toNat y))) else some ((-2), q24.2)) else none) else none) else some ((-1), q24.2)) else none)) else none) : Option (Int × gx_S)) = if ¬ f (44 + z) = y then ((gm_132 t).bind fun q32 => some (f (44 + z), gw1 q32 216 (44 + z) y)) else some (-2, t) := fun t ht => by
        rw [if_pos hx', in_ t hx (by omega) (by omega), Option.bind_some, if_neg (fun q => (gbD t).mp q (by omega)), if_pos hy', in_ t hy (by omega) (by omega), Option.bind_some, if_pos (fun q => (gbD t).mp q (by omega)), if_pos (by omega)]
        show (if (-2147483648 ≤ (t.1 216 ((44 + (z : Int))).toNat) ∧ (t.1 216 ((44 + (z : Int))).toNat) ≤ 2147483647) then (if ¬ (t.1 216 ((44 + (z : Int))).toNat) = y then ((gm_132 t).bind fun q32 => some ((t.1 216 ((44 + (z : Int))).toNat), (gw1 q32 216 ((44 + (z : Int))).toNat y))) else some ((-2), t)) else none) = _
        rw [i2, ht, if_pos (by omega)]
      rw [if_pos (fun q => (gbD s).mp q b), if_pos (by omega)]
      show ∃ (r' : Int) (u w : gx_S), (if (-2147483648 ≤ (s.1 5 ((z : Int)).toNat) ∧ (s.1 5 ((z : Int)).toNat) ≤ 2147483647) then (if (-2147483648 ≤ y ∧ y ≤ 2147483647) then (if ¬ (s.1 5 ((z : Int)).toNat) = y then ((gm_119 s).bind fun q30 => some ((s.1 5 ((z : Int)).toNat), (gw1 q30 5 ((z : Int)).toNat y))) else some ((-2), s)) else none) else none) = some (r', u) ∧ _ = some (r', w) ∧ INV w
      rw [i1, e5, if_pos (by omega), if_pos hy']
      by_cases d : f (44 + z) = y
      · rw [if_neg (fun q => q d)]
        exact ⟨-2, s, s, rfl, (gR s r.1).trans (if_neg fun q => q d), h⟩
      · rw [if_pos d]
        obtain ⟨u, w, u1, w1, w2, w3⟩ := inv_one c r v (k := 5) (j := z) (i := 44 + z) (x := y) (by omega) (MP_up v.1 (by omega)) fun u m => MR_up m (by omega)
        refine ⟨f (44 + z), gw1 u 5 z y, gw1 w 216 (44 + z) y, by rw [u1, Option.bind_some], ?_, w3⟩
        have eu : (gw1 u 5 z y).1 216 = f := by
          obtain ⟨u', q1, q2, q3, q4⟩ := sp_119 v.1 c
          have e : u' = u := Option.some.inj (q1.symm.trans u1)
          funext q
          rw [gw1_1, if_neg (by omega), ← e, q4 216 q (by omega) (by omega), r.1]
        rw [gR _ eu, if_pos d, w1, Option.bind_some]
    · rw [if_neg (fun q => q ((gbD s).mpr b))]
      refine ⟨-1, s, s, rfl, ?_, h⟩
      rw [if_pos hx', in_ s hx (by omega) (by omega), Option.bind_some, if_neg (fun q => (gbD s).mp q (by omega)), if_pos hy', in_ s hy (by omega) (by omega), Option.bind_some, if_neg (fun q => q ((gbD s).mpr (by omega)))]
  · rw [if_pos ((gbD s).mpr a)]
    refine ⟨-1, s, s, rfl, ?_, h⟩
    rw [if_pos hx', in_ s hx (by omega) (by omega), Option.bind_some, if_pos ((gbD s).mpr (by omega))]
