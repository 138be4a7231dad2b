/-! THE CLASS ALONE: the tape, acts -/
def QS (f : Nat → Int) (R C n : Nat) (pf : Nat → Nat → Int) (L : Nat) (tb : Nat → Int) (s : gx_S) : Prop := CV s f R C n pf L tb ∧ AV f R C L tb
section
variable {s : gx_S} {f : Nat → Int} {R C n L : Nat} {pf : Nat → Nat → Int} {tb : Nat → Int}
theorem qs_feed (h : QS f R C n pf L tb s) (hL : L + 20 ≤ 200) (x1 x2 x3 x4 x5 : Int) : ∃ u : gx_S, gm_85 x1 x2 x3 x4 x5 s = some (((L + 20 : Nat) : Int), u) ∧ QS f R C n pf (L + 20) (ap5 tb L x1 x2 x3 x4 x5) u := by
  obtain ⟨c, v⟩ := h
  have e1 := c.2.2.2.1
  unfold gm_85
  rw [e1, if_pos (by omega)]
  obtain ⟨a, a1, a2, a3⟩ := sp_82 (x := x1) (by omega) (show TAc s L tb from c.2.2.2)
  obtain ⟨b, b1, b2, b3⟩ := sp_82 (x := x2) (by omega) a3
  obtain ⟨d, d1, d2, d3⟩ := sp_82 (x := x3) (by omega) b3
  obtain ⟨e, e1, e2', e3⟩ := sp_82 (x := x4) (by omega) d3
  obtain ⟨u, u1, u2, u3⟩ := sp_82 (x := x5) (by omega) e3
  have uC : FC s u := FC_tr a2 (FC_tr b2 (FC_tr d2 (FC_tr e2' u2)))
  have e20 : L + 4 + 4 + 4 + 4 + 4 = L + 20 := by omega
  rw [if_pos (by omega), a1, Option.bind_some, b1, Option.bind_some, d1, Option.bind_some, e1, Option.bind_some, u1, Option.bind_some]
  rw [e20] at u3
  refine ⟨u, by rw [u3.1], ⟨MR_o (fun k j q1 q2 => uC.2 k j (by omega) (by omega)) c.1, fun g hg => ?_, HC_o (fun k j q1 q2 => uC.2 k j (by omega) (by omega)) c.2.2.1, u3.1, u3.2⟩, v.1, by omega, ?_⟩
  · obtain ⟨D', z'⟩ := c.2.1 g hg
    exact ⟨D', GGD_o (fun k j q1 q2 => uC.2 k j (by omega) (by omega)) z'⟩
  · exact fun i hi => app_r (fun i hi => app_r (fun i hi => app_r (fun i hi => app_r (fun i hi => app_r v.2.2 i hi) i hi) i hi) i hi) i (by omega)
theorem qs_end (h : QS f R C n pf L tb s) {x : Nat} (hx : x ≤ L) : ∃ u : gx_S, gm_86 x s = some ((x : Int), u) ∧ QS f R C n pf x tb u := by
  obtain ⟨c, v⟩ := h
  have e1 := c.2.2.2.1
  have hL := v.2.1
  have o : ∀ k j, ¬ (k = 14 ∧ j = 1) → (gw1 s 14 1 x).1 k j = s.1 k j := fun k j h1 => by rw [gw1_1, if_neg h1]
  refine ⟨gw1 s 14 1 x, ?_, ⟨MR_o (fun k j q1 q2 => o k j (by omega)) c.1, fun g hg => ?_, HC_o (fun k j q1 q2 => o k j (by omega)) c.2.2.1, by rw [gw1_1, if_pos ⟨rfl, rfl⟩], fun i hi => (o _ _ (by omega)).trans (c.2.2.2.2 i (by omega))⟩, v.1, by omega, fun i hi => v.2.2 i (by omega)⟩
  · unfold gm_86
    rw [if_pos (by omega), if_neg (by omega), e1, if_pos (by omega), if_pos (by omega)]
  · obtain ⟨D, z⟩ := c.2.1 g hg
    exact ⟨D, GGD_o (fun k j q1 q2 => o k j (by omega)) z⟩
/-- an act begins; what is behind it -/
theorem qs_act (h : QS f R C n pf L tb s) : ∃ u : gx_S, gm_119 s = some u ∧ u.2 = s.2 ∧ MR u 1 f R C ∧ (∀ k j, ¬ (16 ≤ k ∧ k ≤ 57) → ¬ ((k = 71 ∨ k = 119 ∨ k = 167) ∧ j = 8) → u.1 k j = s.1 k j) ∧ ∀ (u' : gx_S) (fn : Nat → Int) (R' C' : Nat), (∀ k j, 6 ≤ k → u'.1 k j = u.1 k j) → MP fn R' C' → MR u' 1 fn R' C' → QS fn R' C' (nn n) (pn n pf f) L tb u' := by
  obtain ⟨c, v⟩ := h
  obtain ⟨u, u1, u2, u3, u4⟩ := sp_119 v.1 c
  refine ⟨u, u1, u3, u2.1, u4, fun u' fn R' C' h1 hM hR => ?_⟩
  obtain ⟨a1, a2, a3, a4, a5⟩ := u2
  have ca : CW u' fn R' C' (nn n) (pn n pf f) L tb := ⟨hR, fun g hg => ⟨by rw [h1 _ _ (by omega)]; exact (a2 g hg).1, by rw [h1 _ _ (by omega)]; exact (a2 g hg).2⟩, HC_o (fun k j q1 q2 => h1 k j (by omega)) a3, by rw [h1 _ _ (by omega)]; exact a4, fun q hq => by rw [h1 _ _ (by omega)]; exact a5 q hq⟩
  exact ⟨CW_CV hM (fun _ _ => rfl) ca, hM, v.2⟩
/-- a setting -/
theorem qs_settle (h : QS f R C n pf L tb s) {z : Nat} {y : Int} (hz : z < 2) (hy : y = 0 ∨ y = 1) : ∃ (u : gx_S) (n' : Nat) (pf' : Nat → Nat → Int), gm_90 z y s = some (if f (3 + z) = y then -2 else f (3 + z), u) ∧ QS (fun q => if q = 3 + z then y else f q) R C n' pf' L tb u := by
  obtain ⟨c, v⟩ := id h
  have z2 : z = 0 ∨ z = 1 := by omega
  have fr : f (3 + z) = 0 ∨ f (3 + z) = 1 := by
    rcases z2 with e | e
    · rw [e]; exact v.1.2.2.1
    · rw [e]; exact v.1.2.2.2.1
  have cl : s.1 1 (7 + z) = f (3 + z) := by
    rcases z2 with e | e
    · rw [e]; exact c.1.2.2.2.1
    · rw [e]; exact c.1.2.2.2.2.1
  have e1 : gm_90 z y s = if ¬ f (3 + z) = y then ((gm_119 s).bind fun q5 => some (f (3 + z), gw1 q5 1 (7 + z) y)) else some (-2, s) := by
    have st : gm_90 z y s = gm_90_41 z y (f (3 + z)) s := by
      unfold gm_90
      rw [if_pos (by omega), if_neg (by omega), if_neg (by omega), if_pos (by omega), if_neg (by omega), if_pos (by omega)]
      rcases z2 with e | e
      · rw [e] at cl ⊢
        have cl : s.1 1 7 = f (3 + 0) := cl
        rw [if_neg (by omega), cl]
      · rw [e] at cl ⊢
        have cl : s.1 1 8 = f (3 + 1) := cl
        rw [if_pos (by omega), cl]
    rw [st]
    unfold gm_90_41
    rw [if_pos (by omega), if_pos (by omega)]
    by_cases d : f (3 + z) = y
    · rw [if_neg (fun q => q d), if_neg (fun q => q d)]
    · rw [if_pos d, if_pos d]
      congr 1
      funext q5
      rw [if_pos (by omega)]
      rcases z2 with e | e
      · rw [e, if_neg (by omega)]
        rfl
      · rw [e, if_pos (by omega)]
        rfl
  by_cases d : f (3 + z) = y
  · refine ⟨s, n, pf, by rw [e1, if_neg (fun q => q d), if_pos d], ?_⟩
    have ef : (fun q => if q = 3 + z then y else f q) = f := by
      funext q
      by_cases e : q = 3 + z
      · rw [if_pos e, e, d]
      · rw [if_neg e]
    rw [ef]
    exact h
  · obtain ⟨u, u1, u2, u3, u4, u5⟩ := qs_act h
    refine ⟨gw1 u 1 (7 + z) y, nn n, pn n pf f, by rw [e1, if_pos d, u1, if_neg d]; rfl, u5 _ _ R C (fun k j q => by rw [gw1_1, if_neg (by omega)]) (MP_up v.1 (by omega)) (MR_up u3 (by omega))⟩
/-- a district -/
theorem qs_district (h : QS f R C n pf L tb s) {z : Nat} {y : Int} (hz : z < 8) (hy : 0 ≤ y ∧ y < 4) : ∃ (u : gx_S) (n' : Nat) (pf' : Nat → Nat → Int), gm_91 z y s = some (if f (44 + z) = y then -2 else f (44 + z), u) ∧ QS (fun q => if q = 44 + z then y else f q) R C n' pf' L tb u := by
  obtain ⟨c, v⟩ := id h
  have hx : i32 (z : Int) := by unfold i32; omega
  have hy' : i32 y := by unfold i32; omega
  have i1 : ((z : Int)).toNat = z := by omega
  have e5 : s.1 5 z = f (44 + z) := by
    have := c.1.2.2.2.2.2.2.2.1 z (by omega)
    rw [show (1 : Nat) + 4 = 5 from rfl] at this
    exact this
  have mr := v.1.2.2.2.2.2.2.1 z (by omega)
  have e1 : gm_91 z y s = if ¬ f (44 + z) = y then ((gm_119 s).bind fun q30 => some (f (44 + z), gw1 q30 5 z y)) else some (-2, s) := by
    unfold gm_91
    rw [sp_115 s hx, Option.bind_some, if_neg (fun q => (gbD s).mp q (by omega)), sp_117 s hy', Option.bind_some, if_pos (fun q => (gbD s).mp q hy), if_pos (by omega)]
    show (if (-2147483648 ≤ (s.1 5 ((z : Int)).toNat) ∧ (s.1 5 ((z : Int)).toNat) ≤ 2147483647) then (if (-2147483648 ≤ y ∧ y ≤ 2147483647) then (if ¬ (s.1 5 ((z : Int)).toNat) = y then ((gm_119 s).bind fun q30 => some ((s.1 5 ((z : Int)).toNat), (gw1 q30 5 ((z : Int)).toNat y))) else some ((-2), s)) else none) else none) = _
    rw [i1, e5, if_pos (by omega), if_pos (by omega)]
  by_cases d : f (44 + z) = y
  · refine ⟨s, n, pf, by rw [e1, if_neg (fun q => q d), if_pos d], ?_⟩
    have ef : (fun q => if q = 44 + z then y else f q) = f := by
      funext q
      by_cases e : q = 44 + z
      · rw [if_pos e, e, d]
      · rw [if_neg e]
    rw [ef]
    exact h
  · obtain ⟨u, u1, u2, u3, u4, u5⟩ := qs_act h
    refine ⟨gw1 u 5 z y, nn n, pn n pf f, by rw [e1, if_pos d, u1, if_neg d]; rfl, u5 _ _ R C (fun k j q => by rw [gw1_1, if_neg (by omega)]) (MP_up v.1 (by omega)) (MR_up u3 (by omega))⟩
/-- a weight of one group -/
theorem qs_weigh (h : QS f R C n pf L tb s) {a y : Nat} {z : Int} (ha : a < 3) (y4 : y < 4) (hz : 0 ≤ z ∧ z ≤ 9) : ∃ (u : gx_S) (n' : Nat) (pf' : Nat → Nat → Int), gm_89 a y z s = some (if f (32 + 4 * a + y) = z then -2 else f (32 + 4 * a + y), u) ∧ QS (fun q => if q = 32 + 4 * a + y then z else f q) R C n' pf' L tb u := by
  obtain ⟨c, v⟩ := id h
  have hx : i32 (a : Int) := by unfold i32; omega
  have hy : i32 (y : Int) := by unfold i32; omega
  have hz' : i32 z := by unfold i32; omega
  have wr : ∀ i, i < 12 → s.1 4 i = f (32 + i) ∧ 0 ≤ f (32 + i) ∧ f (32 + i) ≤ 9 := fun i hi => by
    have e := c.1.2.2.2.2.2.2.1 i hi
    rw [show (1 : Nat) + 3 = 4 from rfl] at e
    exact ⟨e, v.1.2.2.2.2.2.1 i hi⟩
  have c1 : gm_89 a y z s = gm_89_62 100000 y z a a 1 a s := by
    unfold gm_89
    rw [if_pos (by omega), if_neg (by omega), sp_114 s hx, Option.bind_some, if_neg (fun q => (gbD s).mp q (by omega))]
    show gm_89_12 a y z s = _
    unfold gm_89_12
    rw [sp_116 s hy, Option.bind_some, if_neg (fun q => (gbD s).mp q (by omega)), if_pos (by omega), if_neg (by omega), if_pos (by omega), if_pos (by omega), if_pos (by omega)]
    show gm_89_41 a y z a s = _
    unfold gm_89_41 gm_89_53
    rw [if_pos (by omega), if_pos (by omega)]
  obtain ⟨k0, c4, c5⟩ := sl_89_62 (s := s) (x := z) y4 (Nat.le_refl a) ha hz' (fun i hi => by
    have := wr i hi
    unfold i32
    omega) 100000 a 1 (by omega) (Nat.le_refl a) (by omega) (.inr rfl)
  have e4 : s.1 4 (4 * a + y) = f (32 + 4 * a + y) := by
    rw [(wr (4 * a + y) (by omega)).1, show 32 + (4 * a + y) = 32 + 4 * a + y by omega]
  rw [c1, c4]
  by_cases d : f (32 + 4 * a + y) = z
  · have dd : k0 = true := c5.mpr ⟨rfl, fun g g1 g2 => by rw [show g = a by omega, e4]; exact d⟩
    refine ⟨s, n, pf, by rw [if_pos dd, if_pos d], ?_⟩
    have ef : (fun q => if q = 32 + 4 * a + y then z else f q) = f := by
      funext q
      by_cases e : q = 32 + 4 * a + y
      · rw [if_pos e, e, d]
      · rw [if_neg e]
    rw [ef]
    exact h
  · have dd : ¬ k0 = true := fun t => d (by rw [← e4]; exact (c5.mp t).2 a (Nat.le_refl a) (Nat.le_refl a))
    obtain ⟨u, u1, u2, u3, u4, u5⟩ := qs_act h
    obtain ⟨u', p1, p2, p3, p4⟩ := sl_89_137 (a := a) (x := z) (v := s.1 4 (4 * a + y)) y4 ha 100000 a u (by omega) (by omega)
    refine ⟨u', nn n, pn n pf f, by rw [if_neg dd, if_neg d, u1, Option.bind_some, p1, e4], u5 _ _ R C (fun k j q => p3 k j (by omega)) (MP_up v.1 (by omega)) ?_⟩
    obtain ⟨m1, m2, m3, m4, m5, m6, m7, m8, m9⟩ := u3
    have o : ∀ q, ¬ (q = 32 + 4 * a + y) → (if q = 32 + 4 * a + y then z else f q) = f q := fun q hq => if_neg hq
    refine ⟨?_, ?_, ?_, ?_, ?_, fun i hi => ?_, fun i hi => ?_, fun i hi => ?_, fun l hl b' k hk => ?_⟩
    · show _ = (if 0 = 32 + 4 * a + y then z else f 0)
      rw [p3 _ _ (by omega), o 0 (by omega)]; exact m1
    · show _ = (if 1 = 32 + 4 * a + y then z else f 1)
      rw [p3 _ _ (by omega), o 1 (by omega)]; exact m2
    · show _ = (if 2 = 32 + 4 * a + y then z else f 2)
      rw [p3 _ _ (by omega), o 2 (by omega)]; exact m3
    · show _ = (if 3 = 32 + 4 * a + y then z else f 3)
      rw [p3 _ _ (by omega), o 3 (by omega)]; exact m4
    · show _ = (if 4 = 32 + 4 * a + y then z else f 4)
      rw [p3 _ _ (by omega), o 4 (by omega)]; exact m5
    · show _ = (if 5 + i = 32 + 4 * a + y then z else f (5 + i))
      rw [p3 _ _ (by omega), o _ (by omega)]; exact m6 i hi
    · have e7 := m7 i hi
      show _ = (if 32 + i = 32 + 4 * a + y then z else f (32 + i))
      rw [show (1 : Nat) + 3 = 4 from rfl] at e7 ⊢
      rw [p4]
      by_cases t : i = 4 * a + y
      · rw [if_pos (by omega), if_pos (by omega)]
      · rw [if_neg (by omega), if_neg (by omega)]
        exact e7
    · show _ = (if 44 + i = 32 + 4 * a + y then z else f (44 + i))
      rw [p3 _ _ (by omega), o _ (by omega)]; exact m8 i hi
    · show _ = (if 52 + 96 * l + 12 * (k / C) + k % C = 32 + 4 * a + y then z else f (52 + 96 * l + 12 * (k / C) + k % C))
      have b' : (if 2 = 32 + 4 * a + y then z else f 2) / 2 ^ l % 2 = 1 := b'
      rw [o 2 (by omega)] at b'
      rw [p3 _ _ (by omega), o _ (by omega)]
      exact m9 l hl b' k hk
/-- the last act is undone -/
theorem qs_undo (h : QS f R C n pf L tb s) (h0 : 0 < n) : ∃ (u : gx_S) (R' C' : Nat), gm_94 s = some (((n - 1 : Nat) : Int), u) ∧ QS (pf (n - 1)) R' C' (n - 1) pf L tb u := by
  obtain ⟨c, v⟩ := h
  obtain ⟨c1, c2, c3, c4, c5⟩ := id c
  obtain ⟨n8, p, p8, e1, e2, e3⟩ := id c3
  unfold gm_94
  rw [e2, if_pos (by omega), if_pos (by omega)]
  obtain ⟨a, a1, a2, a3, a4, a5, a6⟩ := sp_120 s
  have Ha : HC a n pf := HC_o (fun k j q1 q2 => a3 k j (by omega)) c3
  obtain ⟨b, R', C', b1, b2, b3, b4, b5, b6⟩ := sp_32 (by omega) Ha
  obtain ⟨_, p', _, _, b42, _⟩ := id b4
  rw [a1, Option.bind_some, b1, Option.bind_some]
  have ca : CW b (pf (n - 1)) R' C' (n - 1) pf L tb := by
    refine ⟨b6, fun g hg => ?_, b4, ?_, fun i hi => ?_⟩
    · obtain ⟨D, x1, x2, x3, _⟩ := c2 g hg
      refine ⟨?_, by rw [b3 _ _ (by omega) (by omega), a3 _ _ (by omega)]; exact x3⟩
      rw [b3 _ _ (by omega) (by omega)]
      rcases (show g = 0 ∨ g = 1 ∨ g = 2 by omega) with z | z | z
      · rw [z]; exact a4
      · rw [z]; exact a5
      · rw [z]; exact a6
    · rw [b3 _ _ (by omega) (by omega), a3 _ _ (by omega)]
      exact c4
    · rw [b3 _ _ (by omega) (by omega), a3 _ _ (by omega)]
      exact c5 i hi
  exact ⟨b, R', C', by rw [b42], CW_CV b5 (fun _ _ => rfl) ca, b5, v.2⟩
theorem qs_undo0 (h : QS f R C 0 pf L tb s) : gm_94 s = some (-1, s) := by
  obtain ⟨c, v⟩ := h
  obtain ⟨n8, p, p8, e1, e2, e3⟩ := c.2.2.1
  unfold gm_94
  rw [e2, if_pos (by omega), if_neg (by omega)]
end
