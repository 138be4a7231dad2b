section
/-! FEED: the bytes of an int -/
theorem by_m (i : Nat) (h : i < 32) : (255#32).getLsbD i = decide (i < 8) := by
  have : ∀ i, i < 32 → (255#32).getLsbD i = decide (i < 8) := by decide +kernel
  exact this i h
theorem by_b (b : BitVec 32) (n : Nat) (hn : n ≤ 24) : (((((b.sshiftRight n).signExtend 8).signExtend 32).signExtend 8).signExtend 32 &&& 255#32) = ((b >>> n) &&& 255#32) := by
  apply BitVec.eq_of_getLsbD_eq
  intro i hi
  rw [BitVec.getLsbD_and, BitVec.getLsbD_and, by_m i hi]
  by_cases h : i < 8
  · rw [BitVec.getLsbD_signExtend, BitVec.getLsbD_signExtend, BitVec.getLsbD_signExtend, BitVec.getLsbD_signExtend, BitVec.getLsbD_sshiftRight, BitVec.getLsbD_ushiftRight]
    have a : n + i < 32 := by omega
    simp [h, hi, a, show ¬ 32 ≤ i by omega]
  · rw [decide_eq_false h, Bool.and_false, Bool.and_false]
def cby (x k : Int) : Int := ((Int32.ofInt ((((Int32.ofInt x).toUInt32 >>> ((Int32.ofInt k).toUInt32 &&& Int32.toUInt32 31)).toInt32).toInt) &&& Int32.ofInt 255)).toInt
def rb_ (x k : Int) : Int := gn3 (((Int32.ofInt (((Int32.ofInt x >>> (Int32.ofInt k &&& 31))).toInt)).toInt8.toInt32).toInt)
theorem cby_r (x k : Int) : 0 ≤ cby x k ∧ cby x k ≤ 255 := by
  unfold cby
  obtain ⟨Y, hY⟩ : ∃ Y : Int32, Y = Int32.ofInt ((((Int32.ofInt x).toUInt32 >>> ((Int32.ofInt k).toUInt32 &&& Int32.toUInt32 31)).toInt32).toInt) := ⟨_, rfl⟩
  rw [← hY]
  have e : (Y &&& Int32.ofInt 255).toInt = (Y.toBitVec &&& 255#32).toInt := rfl
  have n : (Y.toBitVec &&& 255#32).toNat ≤ 255 := by
    rw [BitVec.toNat_and]
    exact Nat.and_le_right
  rw [e, BitVec.toInt_eq_toNat_of_lt (by omega)]
  omega
theorem by_s (X : Int32) (n : Nat) (k : Int) (h : (n = 24 ∧ k = 24) ∨ (n = 16 ∧ k = 16) ∨ (n = 8 ∧ k = 8) ∨ (n = 0 ∧ k = 0)) : (X >>> (Int32.ofInt k &&& 31)).toBitVec = X.toBitVec.sshiftRight n := by
  have e : ((Int32.ofInt k &&& 31).toBitVec.smod 32).toNat = n := by
    rcases h with ⟨h1, h2⟩ | ⟨h1, h2⟩ | ⟨h1, h2⟩ | ⟨h1, h2⟩
    · rw [h1, h2]; decide +kernel
    · rw [h1, h2]; decide +kernel
    · rw [h1, h2]; decide +kernel
    · rw [h1, h2]; decide +kernel
  rw [Int32.toBitVec_shiftRight, BitVec.sshiftRight', e]
theorem by_u (X : UInt32) (n : Nat) (k : Int) (h : (n = 24 ∧ k = 24) ∨ (n = 16 ∧ k = 16) ∨ (n = 8 ∧ k = 8) ∨ (n = 0 ∧ k = 0)) : (X >>> ((Int32.ofInt k).toUInt32 &&& Int32.toUInt32 31)).toBitVec = X.toBitVec >>> n := by
  have e : (((Int32.ofInt k).toUInt32 &&& Int32.toUInt32 31).toBitVec % 32).toNat = n := by
    rcases h with ⟨h1, h2⟩ | ⟨h1, h2⟩ | ⟨h1, h2⟩ | ⟨h1, h2⟩
    · rw [h1, h2]; decide +kernel
    · rw [h1, h2]; decide +kernel
    · rw [h1, h2]; decide +kernel
    · rw [h1, h2]; decide +kernel
  rw [UInt32.toBitVec_shiftRight, BitVec.ushiftRight_eq', e]
theorem by_k (X : Int32) (n : Nat) (k : Int) (h : (n = 24 ∧ k = 24) ∨ (n = 16 ∧ k = 16) ∨ (n = 8 ∧ k = 8) ∨ (n = 0 ∧ k = 0)) : ((X >>> (Int32.ofInt k &&& 31)).toInt8.toInt32.toInt8.toInt32 &&& Int32.ofInt 255) = ((X.toUInt32 >>> ((Int32.ofInt k).toUInt32 &&& Int32.toUInt32 31)).toInt32 &&& Int32.ofInt 255) := by
  have e := by_b X.toBitVec n (by omega)
  have a := by_s X n k h
  have b := by_u X.toUInt32 n k h
  refine Int32.toBitVec_inj.mp ?_
  have e1 : ((X >>> (Int32.ofInt k &&& 31)).toInt8.toInt32.toInt8.toInt32 &&& Int32.ofInt 255).toBitVec = ((((((X >>> (Int32.ofInt k &&& 31)).toBitVec).signExtend 8).signExtend 32).signExtend 8).signExtend 32 &&& 255#32) := by
    rw [Int32.toBitVec_and, Int8.toBitVec_toInt32, Int32.toBitVec_toInt8, Int8.toBitVec_toInt32, Int32.toBitVec_toInt8, show (Int32.ofInt 255).toBitVec = 255#32 by decide +kernel]
  have e2 : ((X.toUInt32 >>> ((Int32.ofInt k).toUInt32 &&& Int32.toUInt32 31)).toInt32 &&& Int32.ofInt 255).toBitVec = ((X.toUInt32 >>> ((Int32.ofInt k).toUInt32 &&& Int32.toUInt32 31)).toBitVec &&& 255#32) := rfl
  rw [e1, e2, a, b, e]
  rfl
theorem cb_rb {x k : Int} (h : k = 24 ∨ k = 16 ∨ k = 8 ∨ k = 0) : (Int32.ofInt (rb_ x k) &&& Int32.ofInt 255).toInt = cby x k := by
  have e : Int32.ofInt (rb_ x k) = (Int32.ofInt x >>> (Int32.ofInt k &&& 31)).toInt8.toInt32.toInt8.toInt32 := by
    unfold rb_ gn3
    rw [Int32.ofInt_toInt, Int32.ofInt_toInt, Int32.ofInt_toInt]
    rfl
  unfold cby
  rw [e, Int32.ofInt_toInt, by_k (Int32.ofInt x) k.toNat k (by omega)]
end
section
/-! CALLS: feed -/
def app (tb : Nat → Int) (L : Nat) (x : Int) (i : Nat) : Int := if i = L then cby x 24 else if i = L + 1 then cby x 16 else if i = L + 2 then cby x 8 else if i = L + 3 then cby x 0 else tb i
def ap1 (tb : Nat → Int) (L : Nat) (v : Int) (i : Nat) : Int := if i = L then v else tb i
theorem app_1 (tb : Nat → Int) (L : Nat) (x : Int) (i : Nat) : ap1 (ap1 (ap1 (ap1 tb L (cby x 24)) (L + 1) (cby x 16)) (L + 2) (cby x 8)) (L + 3) (cby x 0) i = app tb L x i := by
  unfold ap1 app
  by_cases a : i = L
  · rw [if_neg (by omega), if_neg (by omega), if_neg (by omega), if_pos a, if_pos a]
  · rw [if_neg a, if_neg a]
    by_cases b : i = L + 1
    · rw [if_neg (by omega), if_neg (by omega), if_pos b, if_pos b]
    · rw [if_neg b, if_neg b]
      by_cases c : i = L + 2
      · rw [if_neg (by omega), if_pos c, if_pos c]
      · rw [if_neg c, if_neg c]
def TAc (s : gx_S) (L : Nat) (tb : Nat → Int) : Prop := s.1 14 1 = L ∧ ∀ i, i < L → s.1 15 i = tb i
def TAr (s : gx_S) (L : Nat) (tb : Nat → Int) : Prop := s.1 215 4 = L ∧ ∀ i, i < L → (Int32.ofInt (s.1 218 i) &&& Int32.ofInt 255).toInt = tb i
def FC (s u : gx_S) : Prop := u.2 = s.2 ∧ ∀ k j, k ≠ 15 → ¬ (k = 14 ∧ j = 1) → u.1 k j = s.1 k j
def FR_ (s u : gx_S) : Prop := u.2 = s.2 ∧ ∀ k j, k ≠ 218 → ¬ (k = 215 ∧ j = 4) → u.1 k j = s.1 k j
theorem FC_tr {s t u : gx_S} (a : FC s t) (b : FC t u) : FC s u := ⟨b.1.trans a.1, fun k j h1 h2 => (b.2 k j h1 h2).trans (a.2 k j h1 h2)⟩
theorem FR_tr {s t u : gx_S} (a : FR_ s t) (b : FR_ t u) : FR_ s u := ⟨b.1.trans a.1, fun k j h1 h2 => (b.2 k j h1 h2).trans (a.2 k j h1 h2)⟩
theorem st_82 {n : Nat} {x k : Int} {s : gx_S} {L : Nat} {tb : Nat → Int} (hk : 0 ≤ k ∧ k ≤ 24) (hL : L < 200) (T : TAc s L tb) : ∃ u : gx_S, gm_82_3 (n + 1) x k s = gm_82_3 n x (k - 8) u ∧ FC s u ∧ TAc u (L + 1) (ap1 tb L (cby x k)) := by
  obtain ⟨t1, t2⟩ := T
  have cl : ((L : Int) + 1) = ((L + 1 : Nat) : Int) := rfl
  rw [gm_82_3, if_pos (by omega), if_neg (by omega), t1, if_pos (by omega), if_neg (by omega), if_pos (by omega), show ((L : Int)).toNat = L by omega]
  have x1 : (gw1 s 15 L (cby x k)).1 14 1 = L := by rw [gw1_1, if_neg (by omega)]; exact t1
  show ∃ u : gx_S, gm_82_3 n x (k + -8) (gw1 (gw1 s 15 L (cby x k)) 14 1 ((gw1 s 15 L (cby x k)).1 14 1 + 1)) = _ ∧ _
  rw [x1, cl, show k + -8 = k - 8 from rfl]
  refine ⟨_, rfl, ⟨rfl, fun k j h1 h2 => by rw [gw1_1, if_neg h2, gw1_1, if_neg (fun t => h1 t.1)]⟩, by rw [gw1_1, if_pos ⟨rfl, rfl⟩], fun i hi => ?_⟩
  rw [gw1_1, if_neg (by omega), gw1_1]
  unfold ap1
  by_cases z : i = L
  · rw [if_pos ⟨rfl, z⟩, if_pos z]
  · rw [if_neg (fun t => z t.2), if_neg z]
    exact t2 i (by omega)
theorem st_135 {n : Nat} {x k : Int} {s : gx_S} {L : Nat} {tb : Nat → Int} (hk : k = 24 ∨ k = 16 ∨ k = 8 ∨ k = 0) (hL : L < 200) (T : TAr s L tb) : ∃ u : gx_S, gm_135_3 (n + 1) x k s = gm_135_3 n x (k - 8) u ∧ FR_ s u ∧ TAr u (L + 1) (ap1 tb L (cby x k)) := by
  obtain ⟨t1, t2⟩ := T
  have cl : ((L : Int) + 1) = ((L + 1 : Nat) : Int) := rfl
  rw [gm_135_3, if_pos (by omega), if_neg (by omega), t1, if_pos (by omega), show ((L : Int)).toNat = L by omega]
  have x1 : (gw1 s 218 L (rb_ x k)).1 215 4 = L := by rw [gw1_1, if_neg (by omega)]; exact t1
  show ∃ u : gx_S, gm_135_3 n x (k + -8) (gw1 (gw1 s 218 L (rb_ x k)) 215 4 ((gw1 s 218 L (rb_ x k)).1 215 4 + 1)) = _ ∧ _
  rw [x1, cl, show k + -8 = k - 8 from rfl]
  refine ⟨_, rfl, ⟨rfl, fun k j h1 h2 => by rw [gw1_1, if_neg h2, gw1_1, if_neg (fun t => h1 t.1)]⟩, by rw [gw1_1, if_pos ⟨rfl, rfl⟩], fun i hi => ?_⟩
  rw [gw1_1, if_neg (by omega), gw1_1]
  unfold ap1
  by_cases z : i = L
  · rw [if_pos ⟨rfl, z⟩, if_pos z]
    exact cb_rb hk
  · rw [if_neg (fun t => z t.2), if_neg z]
    exact t2 i (by omega)
theorem sp_82 {x : Int} {s : gx_S} {L : Nat} {tb : Nat → Int} (hL : L + 4 ≤ 200) (T : TAc s L tb) : ∃ u : gx_S, gm_82 x s = some u ∧ FC s u ∧ TAc u (L + 4) (app tb L x) := by
  obtain ⟨a, a1, a2, a3⟩ := st_82 (n := 99999) (x := x) (k := 24) (by omega) (by omega) T
  obtain ⟨b, b1, b2, b3⟩ := st_82 (n := 99998) (x := x) (k := 16) (by omega) (by omega) a3
  obtain ⟨c, c1, c2, c3⟩ := st_82 (n := 99997) (x := x) (k := 8) (by omega) (by omega) b3
  obtain ⟨d, d1, d2, d3⟩ := st_82 (n := 99996) (x := x) (k := 0) (by omega) (by omega) c3
  have e : gm_82_3 99996 x (0 - 8) d = some d := by
    rw [show (99996 : Nat) = 99995 + 1 from rfl, gm_82_3, if_pos (by decide), if_pos (by decide)]
  have a1 : gm_82_3 100000 x 24 s = gm_82_3 99999 x 16 a := a1
  have b1 : gm_82_3 99999 x 16 a = gm_82_3 99998 x 8 b := b1
  have c1 : gm_82_3 99998 x 8 b = gm_82_3 99997 x 0 c := c1
  refine ⟨d, ?_, FC_tr a2 (FC_tr b2 (FC_tr c2 d2)), d3.1, fun i hi => by rw [d3.2 i hi, app_1]⟩
  unfold gm_82
  rw [a1, b1, c1, d1, e]
theorem sp_135 {x : Int} {s : gx_S} {L : Nat} {tb : Nat → Int} (hL : L + 4 ≤ 200) (T : TAr s L tb) : ∃ u : gx_S, gm_135 x s = some u ∧ FR_ s u ∧ TAr u (L + 4) (app tb L x) := by
  obtain ⟨a, a1, a2, a3⟩ := st_135 (n := 99999) (x := x) (k := 24) (by omega) (by omega) T
  obtain ⟨b, b1, b2, b3⟩ := st_135 (n := 99998) (x := x) (k := 16) (by omega) (by omega) a3
  obtain ⟨c, c1, c2, c3⟩ := st_135 (n := 99997) (x := x) (k := 8) (by omega) (by omega) b3
  obtain ⟨d, d1, d2, d3⟩ := st_135 (n := 99996) (x := x) (k := 0) (by omega) (by omega) c3
  have e : gm_135_3 99996 x (0 - 8) d = some d := by
    rw [show (99996 : Nat) = 99995 + 1 from rfl, gm_135_3, if_pos (by decide), if_pos (by decide)]
  have a1 : gm_135_3 100000 x 24 s = gm_135_3 99999 x 16 a := a1
  have b1 : gm_135_3 99999 x 16 a = gm_135_3 99998 x 8 b := b1
  have c1 : gm_135_3 99998 x 8 b = gm_135_3 99997 x 0 c := c1
  refine ⟨d, ?_, FR_tr a2 (FR_tr b2 (FR_tr c2 d2)), d3.1, fun i hi => by rw [d3.2 i hi, app_1]⟩
  unfold gm_135
  rw [a1, b1, c1, d1, e]
def ap5 (tb : Nat → Int) (L : Nat) (a b c d e : Int) : Nat → Int := app (app (app (app (app tb L a) (L + 4) b) (L + 8) c) (L + 12) d) (L + 16) e
theorem app_r {tb : Nat → Int} {L : Nat} {x : Int} (h : ∀ i, i < L → 0 ≤ tb i ∧ tb i ≤ 255) (i : Nat) (hi : i < L + 4) : 0 ≤ app tb L x i ∧ app tb L x i ≤ 255 := by
  unfold app
  split
  · exact cby_r x 24
  · split
    · exact cby_r x 16
    · split
      · exact cby_r x 8
      · split
        · exact cby_r x 0
        · exact h i (by omega)
theorem inv_feed {s : gx_S} (h : INV s) (x1 x2 x3 x4 x5 : Int) : two s (gm_85 x1 x2 x3 x4 x5) (gm_134 x1 x2 x3 x4 x5) := by
  obtain ⟨f, R, C, n, pf, L, tb, c, r, v⟩ := id h
  have hL := v.2.1
  have e1 := c.2.2.2.1
  have e2 := r.2.2.1
  unfold two gm_85
  rw [e1, if_pos (by omega)]
  by_cases z : L + 20 ≤ 200
  · obtain ⟨a, a1, a2, a3⟩ := sp_82 (x := x1) (by omega) (T := show TAc s L tb from c.2.2.2)
    obtain ⟨b, b1, b2, b3⟩ := sp_82 (x := x2) (by omega) a3
    obtain ⟨d, d1, d2, d3⟩ := sp_82 (x := x3) (by omega) b3
    obtain ⟨e, e1, e2', e3⟩ := sp_82 (x := x4) (by omega) d3
    obtain ⟨u, u1, u2, u3⟩ := sp_82 (x := x5) (by omega) e3
    have uC : FC s u := FC_tr a2 (FC_tr b2 (FC_tr d2 (FC_tr e2' u2)))
    have rs : TAr u L tb := ⟨by rw [uC.2 _ _ (by omega) (by omega)]; exact r.2.2.1, fun i hi => by rw [uC.2 _ _ (by omega) (by omega)]; exact r.2.2.2.1 i hi⟩
    obtain ⟨A, A1, A2, A3⟩ := sp_135 (x := x1) (by omega) rs
    obtain ⟨B, B1, B2, B3⟩ := sp_135 (x := x2) (by omega) A3
    obtain ⟨D, D1, D2, D3⟩ := sp_135 (x := x3) (by omega) B3
    obtain ⟨E, E1, E2, E3⟩ := sp_135 (x := x4) (by omega) D3
    obtain ⟨w, w1, w2, w3⟩ := sp_135 (x := x5) (by omega) E3
    have wR : FR_ u w := FR_tr A2 (FR_tr B2 (FR_tr D2 (FR_tr E2 w2)))
    have e20 : L + 4 + 4 + 4 + 4 + 4 = L + 20 := by omega
    rw [if_pos (by omega), a1, Option.bind_some, b1, Option.bind_some, d1, Option.bind_some, e1, Option.bind_some, u1, Option.bind_some]
    refine ⟨((L + 4 + 4 + 4 + 4 + 4 : Nat) : Int), u, w, by rw [u3.1], ?_, f, R, C, n, pf, L + 4 + 4 + 4 + 4 + 4, _, ⟨?_, fun g hg => ?_, ?_, ?_, fun i hi => ?_⟩, ⟨?_, ⟨?_, fun k hk i hi => ?_⟩, w3.1, w3.2, ⟨fun j hj => ?_, fun q hq => ?_, fun i hi => ?_⟩⟩, v.1, by omega, ?_⟩
    · unfold gm_134
      rw [rs.1, if_pos (by omega), if_pos (by omega), A1, Option.bind_some, B1, Option.bind_some, D1, Option.bind_some, E1, Option.bind_some, w1, Option.bind_some, w3.1]
    · exact MR_o (fun k j q1 q2 => by rw [wR.2 k j (by omega) (by omega), uC.2 k j (by omega) (by omega)]) c.1
    · obtain ⟨D', z'⟩ := c.2.1 g hg
      exact ⟨D', GGD_o (fun k j q1 q2 => by rw [wR.2 k j (by omega) (by omega), uC.2 k j (by omega) (by omega)]) z'⟩
    · exact HC_o (fun k j q1 q2 => by rw [wR.2 k j (by omega) (by omega), uC.2 k j (by omega) (by omega)]) c.2.2.1
    · rw [wR.2 _ _ (by omega) (by omega)]
      exact u3.1
    · rw [wR.2 _ _ (by omega) (by omega)]
      exact u3.2 i hi
    · funext i
      rw [wR.2 _ _ (by omega) (by omega), uC.2 _ _ (by omega) (by omega), r.1]
    · rw [wR.2 _ _ (by omega) (by omega), uC.2 _ _ (by omega) (by omega)]
      exact r.2.1.1
    · rw [wR.2 _ _ (by omega) (by omega), uC.2 _ _ (by omega) (by omega)]
      exact r.2.1.2 k hk i hi
    · rw [wR.2 _ _ (by omega) (by omega), uC.2 _ _ (by omega) (by omega), wR.2 _ _ (by omega) (by omega), uC.2 _ _ (by omega) (by omega), wR.2 _ _ (by omega) (by omega), uC.2 _ _ (by omega) (by omega), wR.1, uC.1]
      exact r.2.2.2.2.1 j hj
    · rw [wR.2 _ _ (by omega) (by omega), uC.2 _ _ (by omega) (by omega), wR.1, uC.1]
      exact r.2.2.2.2.2.1 q hq
    · rw [wR.1, uC.1]
      exact r.2.2.2.2.2.2 i hi
    · exact fun i hi => app_r (fun i hi => app_r (fun i hi => app_r (fun i hi => app_r (fun i hi => app_r v.2.2 i hi) i hi) i hi) i hi) i hi
  · rw [if_neg (by omega)]
    refine ⟨-1, s, s, rfl, ?_, h⟩
    unfold gm_134
    rw [e2, if_pos (by omega), if_neg (by omega)]
end
section
/-! QUERIES: cell, people -/
/-- a query on both sides keeps all -/
theorem q_inv {s u w : gx_S} {f : Nat → Int} {R C n L : Nat} {pf : Nat → Nat → Int} {tb : Nat → Int} (k : KC s u) (c : CV u f R C n pf L tb) (r : RV s f n pf L tb) (v : AV f R C L tb) (kw : KRw u w) : INV w := ⟨f, R, C, n, pf, L, tb, CV_KF (KR_KF kw) c, RV_KR kw (RV_KC k r), v⟩
theorem CV_20 {s : gx_S} {f : Nat → Int} {R C n L g : Nat} {pf : Nat → Nat → Int} {tb : Nat → Int} (M : MP f R C) (hg : g < 3) (c : CV s f R C n pf L tb) : ∃ (D : Nat) (u : gx_S), gm_20 (71 + 48 * g) s = some u ∧ CV u f R C n pf L tb ∧ KG (71 + 48 * g) s u ∧ GGD u f R C g (71 + 48 * g) D ∧ D / 1 % 2 = 1 := by
  obtain ⟨c1, c2, c3, c4, c5⟩ := c
  obtain ⟨D0, d0⟩ := c2 g hg
  have a := ga_of hg
  obtain ⟨D, u, u1, u2, u3, u4⟩ := sp_20 c1 M hg a d0
  refine ⟨D, u, u1, ⟨KG_MR a u2 c1, fun g' hg' => ?_, HC_o (fun k j q1 q2 => u2.2 k j (by omega) (by omega)) c3, (u2.2 _ _ (by omega) (by omega)).trans c4, fun i hi => (u2.2 _ _ (by omega) (by omega)).trans (c5 i hi)⟩, u2, u3, u4⟩
  by_cases e : g' = g
  · rw [e]
    exact ⟨D, u3⟩
  · obtain ⟨D', d'⟩ := c2 g' hg'
    exact ⟨D', GGD_o (fun k j q1 q2 => u2.2 k j (by omega) (by omega)) d'⟩
theorem KC_rfl (s : gx_S) : KC s s := ⟨fun _ _ _ => rfl, fun _ _ _ => rfl⟩
theorem sp_59 {s : gx_S} {f : Nat → Int} {R C : Nat} {x y : Int} (m : MR s 1 f R C) (M : MP f R C) (hx : i32 x) (hy : i32 y) : gm_59 1 x y s = some (decide (0 ≤ x ∧ x < R ∧ 0 ≤ y ∧ y < C), s) := by
  unfold i32 at hx hy
  have m1 := M.1
  have e4 : s.1 1 4 = R := m.1.trans M.1.1
  have e5 : s.1 1 5 = C := m.2.1.trans M.1.2.1
  unfold gm_59
  rw [if_pos (by decide +kernel), if_pos hx, e4, e5]
  by_cases a : x < 0
  · rw [if_pos a, decide_eq_false (by omega)]
  · rw [if_neg a, if_pos (by omega)]
    by_cases b : R ≤ x
    · rw [if_pos b, decide_eq_false (by omega)]
    · rw [if_neg b, if_pos hy]
      by_cases c : y < 0
      · rw [if_pos c, decide_eq_false (by omega)]
      · rw [if_neg c, if_pos (by omega)]
        by_cases d : C ≤ y
        · rw [if_pos d, decide_eq_false (by omega)]
        · rw [if_neg d, decide_eq_true (by omega)]
theorem sp_198 {s : gx_S} {f : Nat → Int} {R C : Nat} {x y : Int} (e : s.1 216 = f) (M : MP f R C) (hx : i32 x) (hy : i32 y) : gm_198 x y s = some (decide (0 ≤ x ∧ x < R ∧ 0 ≤ y ∧ y < C), s) := by
  have hx' := hx
  have hy' := hy
  unfold i32 at hx' hy'
  have m1 := M.1
  unfold gm_198
  rw [if_pos hx', e, m1.1, if_pos (by omega), in_ s hx (by omega) (by omega), Option.bind_some]
  by_cases a : 0 ≤ x ∧ x ≤ (R : Int) - 1
  · rw [if_neg (fun q => (gbD s).mp q a), if_pos hy']
    show (if (-2147483648 ≤ ((s.1 216 1) - 1) ∧ ((s.1 216 1) - 1) ≤ 2147483647) then ((gm_130 y 0 ((s.1 216 1) - 1) s).bind fun q27 => if (gb q27.1) = 0 then some (false, q27.2) else some (true, q27.2)) else none) = _
    rw [e, m1.2.1, if_pos (by omega), in_ s hy (by omega) (by omega), Option.bind_some]
    by_cases b : 0 ≤ y ∧ y ≤ (C : Int) - 1
    · rw [if_neg (fun q => (gbD s).mp q b), decide_eq_true (show 0 ≤ x ∧ x < (R : Int) ∧ 0 ≤ y ∧ y < (C : Int) by omega)]
    · rw [if_pos ((gbD s).mpr b), decide_eq_false (show ¬ (0 ≤ x ∧ x < (R : Int) ∧ 0 ≤ y ∧ y < (C : Int)) by omega)]
  · rw [if_pos ((gbD s).mpr a), decide_eq_false (show ¬ (0 ≤ x ∧ x < (R : Int) ∧ 0 ≤ y ∧ y < (C : Int)) by omega)]
theorem inv_cell {s : gx_S} (h : INV s) {x y z : Int} (hx : i32 x) (hy : i32 y) (hz : i32 z) : two s (gm_95 x y z) (gm_218 x y z) := by
  obtain ⟨f, R, C, n, pf, L, tb, c, r, v⟩ := id h
  have hx' := hx
  unfold i32 at hx'
  have m1 := v.1.1
  have fin : ∀ q : Int, gm_95 x y z s = some (q, s) → gm_218 x y z s = some (q, s) → two s (gm_95 x y z) (gm_218 x y z) := fun q a b => ⟨q, s, s, a, b, h⟩
  by_cases a : 0 ≤ x ∧ x ≤ 2
  · obtain ⟨l, rfl⟩ : ∃ l : Nat, x = l := ⟨x.toNat, by omega⟩
    have e6 : s.1 1 6 = f 2 := c.1.2.2.1
    have c56 := sp_56 (s := s) (a := 1) (by decide +kernel) l (by omega) (by rw [e6]; exact v.1.2.1)
    have c44 := sp_144 (s := s) l (by omega) (by rw [r.1]; exact v.1.2.1)
    have c59 := sp_59 c.1 v.1 hy hz
    have c98 := sp_198 r.1 v.1 hy hz
    rw [e6] at c56
    rw [r.1] at c44
    have s1 : gm_95 l y z s = if f 2 / 2 ^ l % 2 = 1 then (if 0 ≤ y ∧ y < R ∧ 0 ≤ z ∧ z < C then ((gm_60 1 l ((y * (s.1 1 5)) + z) s).bind fun q25 => if ¬ (l : Int) = 2 then (if (-2147483648 ≤ q25.1 ∧ q25.1 ≤ 2147483647) then (if ¬ q25.1 = 8 then some ((97 + q25.1), q25.2) else some (46, q25.2)) else none) else some ((48 + q25.1), q25.2)) else some (-1, s)) else some (-1, s) := by
      unfold gm_95
      rw [if_pos hx', if_neg (by omega), if_neg (by omega), c56, Option.bind_some]
      by_cases b : f 2 / 2 ^ l % 2 = 1
      · rw [if_neg (fun q => (gbD s).mp q b), if_pos b]
        show ((gm_59 1 y z s).bind _) = _
        rw [c59, Option.bind_some]
        by_cases d : 0 ≤ y ∧ y < R ∧ 0 ≤ z ∧ z < C
        · rw [if_pos (fun q => (gbD s).mp q d), if_pos d]
        · rw [if_neg (fun q => q ((gbD s).mpr d)), if_neg d]
      · rw [if_pos ((gbD s).mpr b), if_neg b]
    have s2 : gm_218 l y z s = if f 2 / 2 ^ l % 2 = 1 then (if 0 ≤ y ∧ y < R ∧ 0 ≤ z ∧ z < C then (if 0 ≤ (((52 + (96 * (l : Int))) + (12 * y)) + z) ∧ (((52 + (96 * (l : Int))) + (12 * y)) + z) < 340 then (if ¬ (l : Int) = 2 then (if (-2147483648 ≤ (f ((((52 + (96 * (l : Int))) + (12 * y)) + z)).toNat) ∧ (f ((((52 + (96 * (l : Int))) + (12 * y)) + z)).toNat) ≤ 2147483647) then (if ¬ (f ((((52 + (96 * (l : Int))) + (12 * y)) + z)).toNat) = 8 then some ((97 + (f ((((52 + (96 * (l : Int))) + (12 * y)) + z)).toNat)), s) else some (46, s)) else none) else some ((48 + (f ((((52 + (96 * (l : Int))) + (12 * y)) + z)).toNat)), s)) else none) else some (-1, s)) else some (-1, s) := by
      unfold gm_218
      rw [if_pos hx', in_ s hx (by omega) (by omega), Option.bind_some, if_neg (fun q => (gbD s).mp q a), c44, Option.bind_some]
      by_cases b : f 2 / 2 ^ l % 2 = 1
      · rw [if_neg (fun q => (gbD s).mp q b), if_pos b]
        show ((gm_198 y z s).bind _) = _
        rw [c98, Option.bind_some]
        by_cases d : 0 ≤ y ∧ y < R ∧ 0 ≤ z ∧ z < C
        · rw [if_pos (fun q => (gbD s).mp q d), if_pos d]
          show (if 0 ≤ (((52 + (96 * (l : Int))) + (12 * y)) + z) ∧ (((52 + (96 * (l : Int))) + (12 * y)) + z) < 340 then (if ¬ (l : Int) = 2 then (if (-2147483648 ≤ (s.1 216 ((((52 + (96 * (l : Int))) + (12 * y)) + z)).toNat) ∧ (s.1 216 ((((52 + (96 * (l : Int))) + (12 * y)) + z)).toNat) ≤ 2147483647) then (if ¬ (s.1 216 ((((52 + (96 * (l : Int))) + (12 * y)) + z)).toNat) = 8 then some ((97 + (s.1 216 ((((52 + (96 * (l : Int))) + (12 * y)) + z)).toNat)), s) else some (46, s)) else none) else some ((48 + (s.1 216 ((((52 + (96 * (l : Int))) + (12 * y)) + z)).toNat)), s)) else none) = _
          rw [r.1]
        · rw [if_neg (fun q => q ((gbD s).mpr d)), if_neg d]
      · rw [if_pos ((gbD s).mpr b), if_neg b]
    by_cases b : f 2 / 2 ^ l % 2 = 1
    · by_cases d : 0 ≤ y ∧ y < R ∧ 0 ≤ z ∧ z < C
      · obtain ⟨y, rfl⟩ : ∃ y' : Nat, y = y' := ⟨y.toNat, by omega⟩
        obtain ⟨z, rfl⟩ : ∃ z' : Nat, z = z' := ⟨z.toNat, by omega⟩
        have hk : y * C + z < R * C := by
          have := Nat.mul_le_mul_right C (show y + 1 ≤ R by omega)
          rw [Nat.add_mul] at this
          omega
        have d1 : (y * C + z) / C = y := by
          rw [Nat.mul_comm, Nat.mul_add_div (by omega), Nat.div_eq_of_lt (by omega)]
          rfl
        have d2 : (y * C + z) % C = z := by
          rw [Nat.mul_comm, Nat.mul_add_mod, Nat.mod_eq_of_lt (by omega)]
        have e5 : s.1 1 5 = C := c.1.2.1.trans m1.2.1
        have ei : (y : Int) * (C : Int) + (z : Int) = ((y * C + z : Nat) : Int) := by
          rw [Int.natCast_add, Int.natCast_mul]
        have c60 := sp_60 (s := s) (a := 1) (by decide +kernel) l (y * C + z) (by omega) (by have := RC_96 m1.2.2.1 m1.2.2.2; omega)
        have e9 := c.1.2.2.2.2.2.2.2.2 l (by omega) b (y * C + z) hk
        have r9 := v.1.2.2.2.2.2.2.2.1 l (by omega) b (y * C + z) hk
        rw [d1, d2] at e9 r9
        rw [e9] at c60
        have i2 : (((52 + (96 * (l : Int))) + (12 * (y : Int))) + (z : Int)).toNat = 52 + 96 * l + 12 * y + z := by omega
        have rr : -2147483648 ≤ f (52 + 96 * l + 12 * y + z) ∧ f (52 + 96 * l + 12 * y + z) ≤ 2147483647 := by
          by_cases q : l = 2
          · rw [if_pos q] at r9; omega
          · rw [if_neg q] at r9; omega
        rw [if_pos b, if_pos d, e5, ei, c60, Option.bind_some] at s1
        rw [if_pos b, if_pos d, i2, if_pos (by omega)] at s2
        by_cases q : ¬ (l : Int) = 2
        · rw [if_pos q] at s1 s2
          have s1 : gm_95 l y z s = if (-2147483648 ≤ f (52 + 96 * l + 12 * y + z) ∧ f (52 + 96 * l + 12 * y + z) ≤ 2147483647) then (if ¬ f (52 + 96 * l + 12 * y + z) = 8 then some ((97 + f (52 + 96 * l + 12 * y + z)), s) else some (46, s)) else none := s1
          rw [if_pos rr] at s1 s2
          by_cases p : ¬ f (52 + 96 * l + 12 * y + z) = 8
          · rw [if_pos p] at s1 s2
            exact fin _ s1 s2
          · rw [if_neg p] at s1 s2
            exact fin _ s1 s2
        · rw [if_neg q] at s1 s2
          exact fin _ s1 s2
      · exact fin _ (s1.trans (by rw [if_pos b, if_neg d])) (s2.trans (by rw [if_pos b, if_neg d]))
    · exact fin _ (s1.trans (if_neg b)) (s2.trans (if_neg b))
  · refine fin (-1) ?_ ?_
    · unfold gm_95
      rw [if_pos hx']
      by_cases b : x < 0
      · rw [if_pos b]
      · rw [if_neg b, if_pos (by omega)]
    · unfold gm_218
      rw [if_pos hx', in_ s hx (by omega) (by omega), Option.bind_some, if_pos ((gbD s).mpr a)]
theorem inv_people {s : gx_S} (h : INV s) {x y : Int} (hx : i32 x) (hy : i32 y) : two s (gm_97 x y) (gm_179 x y) := by
  obtain ⟨f, R, C, n, pf, L, tb, c, r, v⟩ := id h
  have hx' := hx
  have hy' := hy
  unfold i32 at hx' hy'
  have c14 := sp_114 s hx
  have c148 : ∀ t : gx_S, gm_148 x t = _ := fun t => sp_148 t hx
  by_cases a : 0 ≤ x ∧ x < 3
  · obtain ⟨g, rfl⟩ : ∃ g : Nat, x = g := ⟨x.toNat, by omega⟩
    have hg : g < 3 := by omega
    by_cases b : 0 ≤ y ∧ y ≤ 10
    · obtain ⟨y, rfl⟩ : ∃ y' : Nat, y = y' := ⟨y.toNat, by omega⟩
      obtain ⟨D, u, u1, u2, u3, u4, u5⟩ := CV_20 v.1 hg c
      obtain ⟨l1, l2, l3⟩ := u4.2.2.2.1 u5
      have ev : fx_rf 70 (g : Int).toNat = 71 + 48 * g := by
        rw [show ((g : Int)).toNat = g by omega]
        rcases (show g = 0 ∨ g = 1 ∨ g = 2 by omega) with e | e | e
        · rw [e]; rfl
        · rw [e]; rfl
        · rw [e]; rfl
      have kc : KC s u := KG_KC (ga_of hg) u3
      have ru := RV_KC kc r
      have eu : u.1 216 = f := ru.1
      have Mu : MP (u.1 216) R C := by rw [eu]; exact v.1
      have s1 : gm_97 g y s = if (8 : Int) ≤ (y : Int) then (if ¬ (y : Int) = 8 then (if ¬ (y : Int) = 9 then ((gm_66 1 g u).bind fun q37 => some (q37.1, q37.2)) else some ((u.1 (71 + 48 * g) 7), u)) else some ((u.1 (71 + 48 * g) 6), u)) else (if 0 ≤ (y : Int) ∧ (y : Int) < 8 then some ((u.1 (71 + 48 * g + 1) (y : Int).toNat), u) else none) := by
        unfold gm_97
        rw [c14, Option.bind_some, if_neg (fun q => (gbD s).mp q a), if_pos hy', if_neg (by omega), if_pos b.2, if_pos a, Option.bind_some, ev, u1, Option.bind_some]
      have s2 : gm_179 g y u = if (y : Int) = 8 then ((gm_174 g u).bind fun q42 => some (q42.1, q42.2)) else (if (y : Int) = 9 then ((gm_176 g u).bind fun q40 => some (q40.1, q40.2)) else (if (y : Int) = 10 then ((gm_178 g u).bind fun q38 => some (q38.1, q38.2)) else ((gm_177 g u).bind fun q33 => if 0 ≤ (y : Int) ∧ (y : Int) < 8 then some ((q33.1 236 (y : Int).toNat), q33) else none))) := by
        unfold gm_179
        rw [c148 u, Option.bind_some, if_neg (fun q => (gbD s).mp q (by omega)), if_pos hy', in_ u hy (by omega) (by omega), Option.bind_some, if_pos (fun q => (gbD s).mp q b)]
      unfold two
      rw [s1]
      by_cases y8 : y < 8
      · rw [if_neg (by omega), if_pos (by omega), show ((y : Int)).toNat = y by omega, l1 y y8]
        rw [if_neg (by omega), if_neg (by omega), if_neg (by omega)] at s2
        obtain ⟨w, w1, w2, w3⟩ := sp_177 (g := g) Mu hg
        rw [w1, Option.bind_some, if_pos (by omega), show ((y : Int)).toNat = y by omega, w2 y y8, eu] at s2
        exact ⟨_, u, w, rfl, s2, q_inv kc u2 r v (KR_w w3)⟩
      · rw [if_pos (by omega)]
        by_cases e8 : y = 8
        · rw [if_neg (show ¬ ¬ (y : Int) = 8 by omega), l2]
          rw [if_pos (by omega), sp_174 Mu hg, Option.bind_some, eu] at s2
          exact ⟨_, u, u, rfl, s2, q_inv kc u2 r v (KRw_rf u)⟩
        · rw [if_pos (show ¬ (y : Int) = 8 by omega)]
          by_cases e9 : y = 9
          · rw [if_neg (show ¬ ¬ (y : Int) = 9 by omega), l3]
            rw [if_neg (by omega), if_pos (by omega), sp_176 Mu hg, Option.bind_some, eu] at s2
            exact ⟨_, u, u, rfl, s2, q_inv kc u2 r v (KRw_rf u)⟩
          · rw [if_pos (show ¬ (y : Int) = 9 by omega), sp_66g u2.1 hg, Option.bind_some]
            rw [if_neg (by omega), if_neg (by omega), if_pos (by omega), sp_178 hg, Option.bind_some, eu] at s2
            exact ⟨_, u, u, rfl, s2, q_inv kc u2 r v (KRw_rf u)⟩
    · refine ⟨-1, s, s, ?_, ?_, h⟩
      · unfold gm_97
        rw [c14, Option.bind_some, if_neg (fun q => (gbD s).mp q a), if_pos hy']
        by_cases d : y < 0
        · rw [if_pos d]
        · rw [if_neg d, if_neg (by omega)]
      · unfold gm_179
        rw [c148 s, Option.bind_some, if_neg (fun q => (gbD s).mp q (by omega)), if_pos hy', in_ s hy (by omega) (by omega), Option.bind_some, if_neg (fun q => q ((gbD s).mpr b))]
  · refine ⟨-1, s, s, ?_, ?_, h⟩
    · unfold gm_97
      rw [c14, Option.bind_some, if_pos ((gbD s).mpr a)]
    · unfold gm_179
      rw [c148 s, Option.bind_some, if_pos ((gbD s).mpr (by omega))]
end
section
/-! QUERIES: moved -/
def pxs (F : Nat → Int) (lo n : Nat) : Int := sg (fun y => if lo ≤ y then F y else 0) n
theorem pxs_0 (F : Nat → Int) (lo : Nat) : pxs F lo lo = 0 := by
  have e : pxs F lo lo = sg (fun _ => 0) lo := sg_eq fun y hy => if_neg (by omega)
  rw [e]
  have : ∀ n, sg (fun _ => (0 : Int)) n = 0 := fun n => by
    induction n with
    | zero => rfl
    | succ n ih => show sg (fun _ => (0 : Int)) n + 0 = 0; rw [ih]; rfl
  exact this lo
theorem pxs_s (F : Nat → Int) {lo n : Nat} (h : lo ≤ n) : pxs F lo (n + 1) = pxs F lo n + F n := by
  show sg (fun y => if lo ≤ y then F y else 0) n + (if lo ≤ n then F n else 0) = _
  rw [if_pos h]
  rfl
theorem pxs_1 (F : Nat → Int) (z : Nat) : pxs F z (z + 1) = F z := by
  rw [pxs_s F (Nat.le_refl z), pxs_0, Int.zero_add]
theorem pxs_a (F : Nat → Int) (n : Nat) : pxs F 0 n = sg F n := sg_eq fun y _ => if_pos (Nat.zero_le y)
theorem sl_99_124 {a lo hi x x6 : Nat} {s : gx_S} {k : Nat → Int → Int → Int → Int → Int → gx_S → Option (Int × gx_S)} {A : Int} (hx : x < 8) (hh : hi < 9) : ∀ (m j : Nat), hi + 1 < m + j → lo ≤ j → j ≤ hi + 1 → gm_99_124 k m a x6 lo hi (A + pxs (fun y => s.1 (a + 11) (9 * x + y)) lo j) x j s = k a x6 lo hi (A + pxs (fun y => s.1 (a + 11) (9 * x + y)) lo (hi + 1)) ((x + 1 : Nat) : Int) s := by
  intro m
  induction m with
  | zero => intro j h; omega
  | succ m ih =>
    intro j h h1 h2
    have cx : ((x : Int) + 1) = ((x + 1 : Nat) : Int) := rfl
    rw [gm_99_124, if_pos (by omega), if_pos (by omega)]
    by_cases q : j = hi + 1
    · rw [if_pos (by omega), q, cx]
    · have cj : ((j : Int) + 1) = ((j + 1 : Nat) : Int) := rfl
      have ix : (((x : Int) * 9) + (j : Int)).toNat = 9 * x + j := by omega
      rw [if_neg (by omega), if_pos (by omega), ix, cj, Int.add_assoc, show a + 3 + 8 = a + 11 from rfl]
      have e := pxs_s (fun y => s.1 (a + 11) (9 * x + y)) h1
      rw [← e]
      exact ih (j + 1) (by omega) (by omega) (by omega)
theorem sl_99_113 {a lo hi l2 h2 : Nat} {s : gx_S} (hl : lo ≤ hi + 1) (hh : hi < 9) (hx : h2 < 8) : ∀ (m x : Nat), h2 + 1 < m + x → l2 ≤ x → x ≤ h2 + 1 → gm_99_113 m a h2 lo hi (pxs (fun x => pxs (fun y => s.1 (a + 11) (9 * x + y)) lo (hi + 1)) l2 x) x s = some (pxs (fun x => pxs (fun y => s.1 (a + 11) (9 * x + y)) lo (hi + 1)) l2 (h2 + 1), s) := by
  intro m
  induction m with
  | zero => intro j h; omega
  | succ m ih =>
    intro x h h1 h3
    rw [gm_99_113, if_pos (by omega), if_pos (by omega)]
    by_cases q : x = h2 + 1
    · rw [if_pos (by omega), q]
    · rw [if_neg (by omega)]
      have i := sl_99_124 (a := a) (lo := lo) (hi := hi) (x := x) (x6 := h2) (s := s) (k := gm_99_113 m) (A := pxs (fun x => pxs (fun y => s.1 (a + 11) (9 * x + y)) lo (hi + 1)) l2 x) (by omega) hh 100000 lo (by omega) (Nat.le_refl lo) hl
      rw [pxs_0, Int.add_zero] at i
      rw [i]
      have e := pxs_s (fun x => pxs (fun y => s.1 (a + 11) (9 * x + y)) lo (hi + 1)) h1
      have e' : pxs (fun x => pxs (fun y => s.1 (a + 11) (9 * x + y)) lo (hi + 1)) l2 x + pxs (fun y => s.1 (a + 11) (9 * x + y)) lo (hi + 1) = pxs (fun x => pxs (fun y => s.1 (a + 11) (9 * x + y)) lo (hi + 1)) l2 (x + 1) := e.symm
      rw [e']
      exact ih (x + 1) (by omega) (by omega) (by omega)
/-- the sum of the asked part of a table -/
def MVs (G : Nat → Nat → Int) (o z : Int) : Int := if o = -1 then (if z = -1 then sg (fun x => sg (fun y => G x y) 9) 8 else sg (fun x => G x z.toNat) 8) else (if z = -1 then sg (fun y => G o.toNat y) 9 else G o.toNat z.toNat)
theorem sp_99t {a : Nat} {s : gx_S} {o z : Int} {G : Nat → Nat → Int} (ho : -1 ≤ o ∧ o < 8) (hz : -1 ≤ z ∧ z < 9) (hG : ∀ x y, x < 8 → y < 9 → s.1 (a + 11) (9 * x + y) = G x y) : (if ¬ o = -1 then gm_99_66 o z a o s else gm_99_66 o z a 0 s) = some (MVs G o z, s) := by
  have st : ∀ l2 h2 lo hi : Nat, lo ≤ hi + 1 → hi < 9 → h2 < 8 → l2 ≤ h2 + 1 → gm_99_104 a l2 h2 lo hi s = some (pxs (fun x => pxs (fun y => s.1 (a + 11) (9 * x + y)) lo (hi + 1)) l2 (h2 + 1), s) := fun l2 h2 lo hi q1 q2 q3 q4 => by
    have i := sl_99_113 (a := a) (lo := lo) (hi := hi) (l2 := l2) (h2 := h2) (s := s) q1 q2 q3 100000 l2 (by omega) (Nat.le_refl l2) q4
    rw [pxs_0] at i
    exact i
  have GG : ∀ l2 h2 lo hi : Nat, hi < 9 → h2 < 8 → pxs (fun x => pxs (fun y => s.1 (a + 11) (9 * x + y)) lo (hi + 1)) l2 (h2 + 1) = pxs (fun x => pxs (fun y => G x y) lo (hi + 1)) l2 (h2 + 1) := fun l2 h2 lo hi q1 q2 => sg_eq fun x hx => by
    have e : pxs (fun y => s.1 (a + 11) (9 * x + y)) lo (hi + 1) = pxs (fun y => G x y) lo (hi + 1) := sg_eq fun y hy => by
      show (if lo ≤ y then s.1 (a + 11) (9 * x + y) else 0) = (if lo ≤ y then G x y else 0)
      rw [hG x y (by omega) (by omega)]
    show (if l2 ≤ x then pxs (fun y => s.1 (a + 11) (9 * x + y)) lo (hi + 1) else 0) = _
    rw [e]
  unfold gm_99_66 MVs
  by_cases p : o = -1
  · rw [if_neg (fun t => t p), if_pos p, p, if_pos (show (-2147483648 : Int) ≤ -1 ∧ (-1 : Int) ≤ 2147483647 by decide), if_neg (show ¬ ¬ (-1 : Int) = -1 from fun t => t rfl)]
    unfold gm_99_79
    rw [if_pos (by omega)]
    by_cases q : z = -1
    · rw [if_neg (fun t => t q), if_pos q, q]
      unfold gm_99_91
      rw [if_pos (show (-2147483648 : Int) ≤ -1 ∧ (-1 : Int) ≤ 2147483647 by decide), if_neg (show ¬ ¬ (-1 : Int) = -1 from fun t => t rfl)]
      have := st 0 7 0 8 (by omega) (by omega) (by omega) (by omega)
      rw [GG 0 7 0 8 (by omega) (by omega), pxs_a] at this
      have e : sg (fun x => pxs (fun y => G x y) 0 9) 8 = sg (fun x => sg (fun y => G x y) 9) 8 := sg_eq fun x _ => pxs_a _ _
      rw [← e]
      exact this
    · obtain ⟨z, rfl⟩ : ∃ z' : Nat, z = z' := ⟨z.toNat, by omega⟩
      rw [if_pos q, if_neg q]
      unfold gm_99_91
      rw [if_pos (by omega), if_pos q]
      have := st 0 7 z z (by omega) (by omega) (by omega) (by omega)
      rw [GG 0 7 z z (by omega) (by omega), pxs_a] at this
      have e : sg (fun x => pxs (fun y => G x y) z (z + 1)) 8 = sg (fun x => G x (z : Int).toNat) 8 := sg_eq fun x _ => pxs_1 _ _
      rw [← e]
      exact this
  · obtain ⟨o, rfl⟩ : ∃ o' : Nat, o = o' := ⟨o.toNat, by omega⟩
    rw [if_pos p, if_neg p, if_pos (by omega), if_pos p]
    unfold gm_99_79
    rw [if_pos (by omega)]
    by_cases q : z = -1
    · rw [if_neg (fun t => t q), if_pos q, q]
      unfold gm_99_91
      rw [if_pos (show (-2147483648 : Int) ≤ -1 ∧ (-1 : Int) ≤ 2147483647 by decide), if_neg (show ¬ ¬ (-1 : Int) = -1 from fun t => t rfl)]
      have := st o o 0 8 (by omega) (by omega) (by omega) (by omega)
      rw [GG o o 0 8 (by omega) (by omega), pxs_1, pxs_a] at this
      exact this
    · obtain ⟨z, rfl⟩ : ∃ z' : Nat, z = z' := ⟨z.toNat, by omega⟩
      rw [if_pos q, if_neg q]
      unfold gm_99_91
      rw [if_pos (by omega), if_pos q]
      have := st o o z z (by omega) (by omega) (by omega) (by omega)
      rw [GG o o z z (by omega) (by omega), pxs_1, pxs_1] at this
      exact this
theorem vg_ (g : Nat) (hg : g < 3) : fx_rf 70 (g : Int).toNat = 71 + 48 * g := by
  rw [show ((g : Int)).toNat = g by omega]
  rcases (show g = 0 ∨ g = 1 ∨ g = 2 by omega) with e | e | e
  · rw [e]; rfl
  · rw [e]; rfl
  · rw [e]; rfl
theorem inv_moved {s : gx_S} (h : INV s) {x o z : Int} (hx : i32 x) (ho : i32 o) (hz : i32 z) : two s (gm_99 x o z) (gm_185 x o z) := by
  obtain ⟨f, R, C, n, pf, L, tb, c, r, v⟩ := id h
  have hx' := hx
  have ho' := ho
  have hz' := hz
  unfold i32 at hx' ho' hz'
  have e6 : s.1 1 6 = f 2 := c.1.2.2.1
  have c14 := sp_114 s hx
  have c148 : ∀ t : gx_S, gm_148 x t = _ := fun t => sp_148 t hx
  have c57 := sp_57 (s := s) (a := 1) (by decide +kernel) (by rw [e6]; exact v.1.2.1)
  rw [e6] at c57
  have c150 : ∀ t : gx_S, t.1 216 = f → gm_150 t = some (decide (f 2 = 7), t) := fun t et => by
    have := sp_150 (s := t) (by rw [et]; exact v.1.2.1)
    rw [et] at this
    exact this
  by_cases ok : (0 ≤ x ∧ x < 3) ∧ f 2 = 7 ∧ (-1 ≤ o ∧ o ≤ 7) ∧ (-1 ≤ z ∧ z ≤ 8)
  · obtain ⟨a, h7, b, d⟩ := ok
    obtain ⟨g, rfl⟩ : ∃ g : Nat, x = g := ⟨x.toNat, by omega⟩
    have hg : g < 3 := by omega
    obtain ⟨D, u, u1, u2, u3, u4, u5, u6⟩ := CV_ready (w := 2) (by omega) v.1 h7 hg c
    have u1 : gm_19 (71 + 48 * g) 2 s = some u := u1
    have tm := (u4.2.2.2.2.1 u5).2.1
    have kc : KC s u := KG_KC (ga_of hg) u3
    have ru := RV_KC kc r
    have eu : u.1 216 = f := ru.1
    have t1 := sp_99t (a := 71 + 48 * g) (s := u) (o := o) (z := z) (G := GV f R C g) (by omega) (by omega) fun x y hx hy => ((tm x hx).2.2 y hy).2.2.2
    have s1 : gm_99 g o z s = some (MVs (GV f R C g) o z, u) := by
      unfold gm_99
      rw [c14, Option.bind_some, if_neg (fun q => (gbD s).mp q a)]
      show ((gm_57 1 s).bind _) = _
      rw [c57, Option.bind_some, if_neg (fun q => (gbD s).mp q h7), if_pos ho', if_neg (by omega), if_neg (by omega), if_pos hz', if_neg (by omega), if_pos d.2, if_pos a, Option.bind_some, vg_ g hg]
      show ((gm_19 (71 + 48 * g) 2 s).bind _) = _
      rw [u1, Option.bind_some]
      exact t1
    obtain ⟨p, w, p1, p2, p3, p4, p5, p6, p7⟩ := sp_181f (s := u) (R := R) (C := C) (g := g) (by rw [eu]; exact v.1) (by rw [eu]; exact h7) hg ru.2.2.2.2
    have wg : ∀ x y, x < 8 → y < 9 → w.2 224 (9 * x + y) = GV f R C g x y := fun x y hx hy => by
      have := ((p7 x hx).2.2 y hy).2
      rw [eu] at this
      exact this
    have s2 : gm_185 g o z u = some (MVs (GV f R C g) o z, w) := by
      unfold gm_185
      rw [c150 u eu, Option.bind_some, if_neg (fun q => (gbD s).mp q h7)]
      show ((gm_148 g u).bind _) = _
      rw [c148 u, Option.bind_some, if_neg (fun q => (gbD s).mp q (by omega)), if_pos ho', in_ u ho (by omega) (by omega), Option.bind_some, if_neg (fun q => (gbD s).mp q b), if_pos hz', in_ u hz (by omega) (by omega), Option.bind_some, if_pos (fun q => (gbD s).mp q d)]
      show ((gm_181 g u).bind _) = _
      rw [p1, Option.bind_some, p2, Option.bind_some]
      unfold MVs
      by_cases q : o = -1
      · rw [if_neg (fun t => t q), if_pos q]
        by_cases q2 : z = -1
        · rw [if_neg (fun t => t q2), if_pos q2, sp_184 (R := 8) (m := 9) p5 p6 (by omega) (by omega), Option.bind_some]
          have e : sg (fun x => sg (fun y => w.2 224 (9 * x + y)) 9) 8 = sg (fun x => sg (fun y => GV f R C g x y) 9) 8 := sg_eq fun x hx => sg_eq fun y hy => wg x y hx hy
          show some (sg (fun x => sg (fun y => w.2 224 (9 * x + y)) 9) 8, w) = _
          rw [e]
        · obtain ⟨z, rfl⟩ : ∃ z' : Nat, z = z' := ⟨z.toNat, by omega⟩
          rw [if_pos q2, if_neg q2, sp_183 (R := 8) p5 (by omega) (by omega), Option.bind_some]
          have e : sg (fun x => w.2 224 (9 * x + z)) 8 = sg (fun x => GV f R C g x z) 8 := sg_eq fun x hx => wg x z hx (by omega)
          show some (sg (fun x => w.2 224 (9 * x + z)) 8, w) = _
          rw [e]
          rfl
      · obtain ⟨o, rfl⟩ : ∃ o' : Nat, o = o' := ⟨o.toNat, by omega⟩
        rw [if_pos q, if_neg q]
        by_cases q2 : z = -1
        · rw [if_neg (fun t => t q2), if_pos q2, sp_182 (m := 9) p6 (by omega) (by omega), Option.bind_some]
          have e : sg (fun y => w.2 224 (9 * o + y)) 9 = sg (fun y => GV f R C g o y) 9 := sg_eq fun y hy => wg o y (by omega) hy
          show some (sg (fun y => w.2 224 (9 * o + y)) 9, w) = _
          rw [e]
          rfl
        · obtain ⟨z, rfl⟩ : ∃ z' : Nat, z = z' := ⟨z.toNat, by omega⟩
          rw [if_pos q2, if_neg q2]
          unfold gm_160
          rw [Option.bind_some]
          show (if 0 ≤ ((9 * (o : Int)) + (z : Int)) ∧ ((9 * (o : Int)) + (z : Int)) < 72 then some ((w.2 224 ((9 * (o : Int)) + (z : Int)).toNat), w) else none) = _
          rw [if_pos (by omega), show ((9 * (o : Int)) + (z : Int)).toNat = 9 * o + z by omega, wg o z (by omega) (by omega)]
          rfl
    exact ⟨_, u, w, s1, s2, q_inv kc u2 r v (KR_w p4)⟩
  · refine ⟨-1, s, s, ?_, ?_, h⟩
    · unfold gm_99
      rw [c14, Option.bind_some]
      by_cases a : 0 ≤ x ∧ x < 3
      · rw [if_neg (fun q => (gbD s).mp q a)]
        show ((gm_57 1 s).bind _) = _
        rw [c57, Option.bind_some]
        by_cases b : f 2 = 7
        · rw [if_neg (fun q => (gbD s).mp q b), if_pos ho']
          by_cases d : o < -1
          · rw [if_pos d]
          · rw [if_neg d]
            by_cases e : 8 ≤ o
            · rw [if_pos e]
            · rw [if_neg e, if_pos hz']
              by_cases t : z < -1
              · rw [if_pos t]
              · rw [if_neg t, if_neg (fun q => ok ⟨a, b, by omega, by omega⟩)]
        · rw [if_pos ((gbD s).mpr b)]
      · rw [if_pos ((gbD s).mpr a)]
    · unfold gm_185
      rw [c150 s r.1, Option.bind_some]
      by_cases b : f 2 = 7
      · rw [if_neg (fun q => (gbD s).mp q b)]
        show ((gm_148 x s).bind _) = _
        rw [c148 s, Option.bind_some]
        by_cases a : 0 ≤ x ∧ x ≤ 2
        · rw [if_neg (fun q => (gbD s).mp q a), if_pos ho', in_ s ho (by omega) (by omega), Option.bind_some]
          by_cases d : -1 ≤ o ∧ o ≤ 7
          · rw [if_neg (fun q => (gbD s).mp q d), if_pos hz', in_ s hz (by omega) (by omega), Option.bind_some, if_neg (fun q => q ((gbD s).mpr fun t => ok ⟨by omega, b, d, t⟩))]
          · rw [if_pos ((gbD s).mpr d)]
        · rw [if_pos ((gbD s).mpr a)]
      · rw [if_pos ((gbD s).mpr b)]
end
section
/-! QUERIES: share -/
/-- a fraction in lowest terms -/
theorem sp_127 (s : gx_S) {a b : Nat} {w : Int} (ha : a ≤ 9000000000000000000) (hb : b < 1099511627776) (b0 : 0 < b) (hw : i32 w) : gm_127 a b w s = some ((if ¬ w = 0 then (b : Int) else (a : Int)) / ((Nat.gcd a b : Nat) : Int), s) := by
  unfold i32 at hw
  have g0 : 0 < Nat.gcd a b := Nat.gcd_pos_of_pos_right a b0
  have g1 : Nat.gcd a b ≤ b := Nat.gcd_le_right a b0
  unfold gm_127
  rw [sp_128 s ha hb, Option.bind_some]
  show (if (-9223372036854775808 ≤ ((Nat.gcd a b : Nat) : Int) ∧ ((Nat.gcd a b : Nat) : Int) ≤ 9223372036854775807) then (if ¬ ((Nat.gcd a b : Nat) : Int) = 0 then (if (-2147483648 ≤ w ∧ w ≤ 2147483647) then (if ¬ w = 0 then gm_127_28 ((Nat.gcd a b : Nat) : Int) b s else gm_127_28 ((Nat.gcd a b : Nat) : Int) a s) else none) else some ((-1), s)) else none) = _
  rw [if_pos (by omega), if_pos (show ¬ ((Nat.gcd a b : Nat) : Int) = 0 by omega), if_pos hw]
  unfold gm_127_28
  by_cases z : ¬ w = 0
  · rw [if_pos z, if_pos z, if_pos (by omega)]
  · rw [if_neg z, if_neg z, if_pos (by omega)]
theorem sp_194 (s : gx_S) {a b : Nat} {w : Int} (ha : a ≤ 9000000000000000000) (hb : b < 1099511627776) (b0 : 0 < b) (hw : i32 w) : gm_194 a b w s = some ((if ¬ w = 0 then (b : Int) else (a : Int)) / ((Nat.gcd a b : Nat) : Int), s) := by
  unfold i32 at hw
  have g0 : 0 < Nat.gcd a b := Nat.gcd_pos_of_pos_right a b0
  have g1 : Nat.gcd a b ≤ b := Nat.gcd_le_right a b0
  unfold gm_194
  rw [sp_164 s ha hb, Option.bind_some, if_pos hw]
  by_cases z : ¬ w = 0
  · rw [if_pos z, if_pos z, if_pos (by omega)]
  · rw [if_neg z, if_neg z, if_pos (by omega)]
theorem sp_118 {s : gx_S} {f : Nat → Int} {R C : Nat} {x y : Int} (m : MR s 1 f R C) (M : MP f R C) (hx : i32 x) (hy : i32 y) : gm_118 x y s = some (decide ((0 ≤ x ∧ x < 3) ∧ (0 ≤ y ∧ y ≤ 8) ∧ f 2 = 7), s) := by
  have hy' := hy
  unfold i32 at hy'
  have e6 : s.1 1 6 = f 2 := m.2.2.1
  have c57 := sp_57 (s := s) (a := 1) (by decide +kernel) (by rw [e6]; exact M.2.1)
  rw [e6] at c57
  unfold gm_118
  rw [sp_114 s hx, Option.bind_some]
  by_cases a : 0 ≤ x ∧ x < 3
  · rw [if_neg (fun q => (gbD s).mp q a), if_pos hy']
    by_cases b : y < 0
    · rw [if_pos b, decide_eq_false (show ¬ ((0 ≤ x ∧ x < 3) ∧ (0 ≤ y ∧ y ≤ 8) ∧ f 2 = 7) by omega)]
    · rw [if_neg b]
      by_cases d : 8 < y
      · rw [if_pos d, decide_eq_false (show ¬ ((0 ≤ x ∧ x < 3) ∧ (0 ≤ y ∧ y ≤ 8) ∧ f 2 = 7) by omega)]
      · rw [if_neg d]
        show ((gm_57 1 s).bind _) = _
        rw [c57, Option.bind_some]
        by_cases e : f 2 = 7
        · rw [if_neg (fun q => (gbD s).mp q e), decide_eq_true (show (0 ≤ x ∧ x < 3) ∧ (0 ≤ y ∧ y ≤ 8) ∧ f 2 = 7 by omega)]
        · rw [if_pos ((gbD s).mpr e), decide_eq_false (show ¬ ((0 ≤ x ∧ x < 3) ∧ (0 ≤ y ∧ y ≤ 8) ∧ f 2 = 7) by omega)]
  · rw [if_pos ((gbD s).mpr a), decide_eq_false (show ¬ ((0 ≤ x ∧ x < 3) ∧ (0 ≤ y ∧ y ≤ 8) ∧ f 2 = 7) by omega)]
end
section
/-! QUERIES: share -/
theorem inv_share {s : gx_S} (h : INV s) {x o z t : Int} (hx : i32 x) (ho : i32 o) (hz : i32 z) (ht : i32 t) : two s (gm_98 x o z t) (gm_195 x o z t) := by
  obtain ⟨f, R, C, n, pf, L, tb, c, r, v⟩ := id h
  have hx' := hx
  have ho' := ho
  have hz' := hz
  have ht' := ht
  unfold i32 at hx' ho' hz' ht'
  have c118 := sp_118 c.1 v.1 hx hz
  have c148 : ∀ t : gx_S, gm_148 x t = _ := fun t => sp_148 t hx
  have c150 : ∀ t : gx_S, t.1 216 = f → gm_150 t = some (decide (f 2 = 7), t) := fun t et => by
    have := sp_150 (s := t) (by rw [et]; exact v.1.2.1)
    rw [et] at this
    exact this
  have c153 : ∀ t : gx_S, t.1 216 = f → gm_153 0 o t = some (decide (0 < NC f R C 0 o), t) := fun t et => by
    have := sp_153g (s := t) (R := R) (C := C) (by rw [et]; exact v.1) 0 o (by omega) ho'
    rw [et] at this
    exact this
  -- the class ahead of its tables
  have s1 : gm_98 x o z t s = if ((0 ≤ x ∧ x < 3) ∧ (0 ≤ z ∧ z ≤ 8) ∧ f 2 = 7) ∧ (0 ≤ o ∧ o < 8) ∧ (0 ≤ t ∧ t ≤ 1) then (if 0 ≤ x ∧ x < 3 then ((some (fx_rf 70 (x).toNat)).bind fun v36 => (gm_19 v36 2 s).bind fun q41 => if 0 ≤ o ∧ o < 8 then (if (-2147483648 ≤ (q41.1 ((v36 + 3) + 2) (o).toNat) ∧ (q41.1 ((v36 + 3) + 2) (o).toNat) ≤ 2147483647) then (if ¬ (q41.1 ((v36 + 3) + 2) (o).toNat) = 0 then (if 0 ≤ ((o * 9) + z) ∧ ((o * 9) + z) < 72 then (if (-2147483648 ≤ (q41.1 ((v36 + 3) + 4) (((o * 9) + z)).toNat) ∧ (q41.1 ((v36 + 3) + 4) (((o * 9) + z)).toNat) ≤ 2147483647) then ((gm_127 (q41.1 ((v36 + 3) + 4) (((o * 9) + z)).toNat) (q41.1 ((v36 + 3) + 2) (o).toNat) t q41).bind fun q52 => some (q52.1, q52.2)) else none) else none) else some ((-1), q41)) else none) else none) else none) else some (-1, s) := by
    unfold gm_98
    rw [c118, Option.bind_some]
    by_cases a : (0 ≤ x ∧ x < 3) ∧ (0 ≤ z ∧ z ≤ 8) ∧ f 2 = 7
    · rw [if_neg (fun q => (gbD s).mp q a)]
      show ((gm_115 o s).bind _) = _
      rw [sp_115 s ho, Option.bind_some]
      by_cases b : 0 ≤ o ∧ o < 8
      · rw [if_neg (fun q => (gbD s).mp q b), if_pos ht']
        by_cases d : t < 0
        · rw [if_pos d, if_neg (show ¬ (((0 ≤ x ∧ x < 3) ∧ (0 ≤ z ∧ z ≤ 8) ∧ f 2 = 7) ∧ (0 ≤ o ∧ o < 8) ∧ (0 ≤ t ∧ t ≤ 1)) by omega)]
        · rw [if_neg d]
          by_cases e : t ≤ 1
          · rw [if_pos e, if_pos (show ((0 ≤ x ∧ x < 3) ∧ (0 ≤ z ∧ z ≤ 8) ∧ f 2 = 7) ∧ (0 ≤ o ∧ o < 8) ∧ (0 ≤ t ∧ t ≤ 1) by omega)]
          · rw [if_neg e, if_neg (show ¬ (((0 ≤ x ∧ x < 3) ∧ (0 ≤ z ∧ z ≤ 8) ∧ f 2 = 7) ∧ (0 ≤ o ∧ o < 8) ∧ (0 ≤ t ∧ t ≤ 1)) by omega)]
      · rw [if_pos ((gbD s).mpr b), if_neg (show ¬ (((0 ≤ x ∧ x < 3) ∧ (0 ≤ z ∧ z ≤ 8) ∧ f 2 = 7) ∧ (0 ≤ o ∧ o < 8) ∧ (0 ≤ t ∧ t ≤ 1)) by omega)]
    · rw [if_pos ((gbD s).mpr a), if_neg (fun q => a q.1)]
  have s2 : ∀ y : gx_S, y.1 216 = f → gm_195 x o z t y = if (((0 ≤ x ∧ x < 3) ∧ (0 ≤ z ∧ z ≤ 8) ∧ f 2 = 7) ∧ (0 ≤ o ∧ o < 8) ∧ (0 ≤ t ∧ t ≤ 1)) ∧ 0 < NC f R C 0 o then ((gm_180 x o y).bind fun q54 => (gm_157 x o z (gb q54.1) q54.2).bind fun q56 => if (-2147483648 ≤ q56.1 ∧ q56.1 ≤ 2147483647) then ((gm_157 x o (-1) (gb q54.1) q56.2).bind fun q59 => if (-2147483648 ≤ q59.1 ∧ q59.1 ≤ 2147483647) then ((gm_194 q56.1 q59.1 t q59.2).bind fun q62 => some (q62.1, q62.2)) else none) else none) else some (-1, y) := fun y ey => by
    unfold gm_195
    rw [c150 y ey, Option.bind_some]
    by_cases h7 : f 2 = 7
    · rw [if_neg (fun q => (gbD s).mp q h7)]
      show ((gm_148 x y).bind _) = _
      rw [c148 y, Option.bind_some]
      by_cases a : 0 ≤ x ∧ x ≤ 2
      · rw [if_neg (fun q => (gbD s).mp q a), if_pos ho', in_ y ho (by omega) (by omega), Option.bind_some]
        by_cases b : 0 ≤ o ∧ o ≤ 7
        · rw [if_neg (fun q => (gbD s).mp q b)]
          show ((gm_153 0 o y).bind _) = _
          rw [c153 y ey, Option.bind_some]
          by_cases d : 0 < NC f R C 0 o
          · rw [if_neg (fun q => (gbD s).mp q d), if_pos hz', in_ y hz (by omega) (by omega), Option.bind_some]
            by_cases e : 0 ≤ z ∧ z ≤ 8
            · rw [if_neg (fun q => (gbD s).mp q e), if_pos ht', in_ y ht (by omega) (by omega), Option.bind_some]
              by_cases k : 0 ≤ t ∧ t ≤ 1
              · rw [if_pos (fun q => (gbD s).mp q k), if_pos ⟨⟨⟨by omega, e, h7⟩, by omega, k⟩, d⟩]
              · rw [if_neg (fun q => q ((gbD s).mpr k)), if_neg (fun q => k q.1.2.2)]
            · rw [if_pos ((gbD s).mpr e), if_neg (fun q => e q.1.1.2.1)]
          · rw [if_pos ((gbD s).mpr d), if_neg (fun q => d q.2)]
        · rw [if_pos ((gbD s).mpr b), if_neg (fun q => b (by have := q.1.2.1; omega))]
      · rw [if_pos ((gbD s).mpr a), if_neg (fun q => a (by have := q.1.1.1; omega))]
    · rw [if_pos ((gbD s).mpr h7), if_neg (fun q => h7 q.1.1.2.2)]
  by_cases ok : ((0 ≤ x ∧ x < 3) ∧ (0 ≤ z ∧ z ≤ 8) ∧ f 2 = 7) ∧ (0 ≤ o ∧ o < 8) ∧ (0 ≤ t ∧ t ≤ 1)
  · rw [if_pos ok] at s1
    obtain ⟨⟨a, hz8, h7⟩, ho8, ht1⟩ := id ok
    obtain ⟨g, rfl⟩ : ∃ g : Nat, x = g := ⟨x.toNat, by omega⟩
    obtain ⟨o, rfl⟩ : ∃ o' : Nat, o = o' := ⟨o.toNat, by omega⟩
    obtain ⟨z, rfl⟩ : ∃ z' : Nat, z = z' := ⟨z.toNat, by omega⟩
    have hg : g < 3 := by omega
    obtain ⟨D, u, u1, u2, u3, u4, u5, u6⟩ := CV_ready (w := 2) (by omega) v.1 h7 hg c
    have u1 : gm_19 (71 + 48 * g) 2 s = some u := u1
    have tm := (u4.2.2.2.2.1 u5).2.1 o (by omega)
    have kc : KC s u := KG_KC (ga_of hg) u3
    have ru := RV_KC kc r
    have eu : u.1 216 = f := ru.1
    have e2 : u.1 (71 + 48 * g + 3 + 2) o = SO f R C g o (-1) (decide (SO f R C g o (-1) false = 0)) := by
      rw [tm.2.1]
      exact SO_row v.1 h7 o _
    have e4 : u.1 (71 + 48 * g + 3 + 4) (9 * o + z) = SO f R C g o z (decide (SO f R C g o (-1) false = 0)) := (tm.2.2 z (by omega)).1
    have r2 := SO_r v.1 h7 hg o (-1) (decide (SO f R C g o (-1) false = 0))
    have r4 := SO_r v.1 h7 hg o z (decide (SO f R C g o (-1) false = 0))
    obtain ⟨b, hb⟩ : ∃ b : Nat, SO f R C g o (-1) (decide (SO f R C g o (-1) false = 0)) = b := ⟨_, (Int.toNat_of_nonneg r2.1).symm⟩
    obtain ⟨p, hp⟩ : ∃ p : Nat, SO f R C g o z (decide (SO f R C g o (-1) false = 0)) = p := ⟨_, (Int.toNat_of_nonneg r4.1).symm⟩
    have t0 := tot_0 (x := o) v.1 h7 hg
    rw [hb] at r2 t0 e2
    rw [hp] at r4 e4
    rw [if_pos a, Option.bind_some, vg_ g hg, u1, Option.bind_some, if_pos ho8, show ((o : Int)).toNat = o by omega, e2, if_pos (by omega), show ((o : Int) * 9 + (z : Int)).toNat = 9 * o + z by omega, e4] at s1
    have s2 := s2 u eu
    by_cases d : 0 < NC f R C 0 o
    · have b0 : 0 < b := by omega
      rw [if_pos (show ¬ (b : Int) = 0 by omega), if_pos (by omega), if_pos (by omega), sp_127 u (by omega) (by omega) b0 ht, Option.bind_some] at s1
      have Mu : MP (u.1 216) R C := by rw [eu]; exact v.1
      have hu : u.1 216 2 = 7 := by rw [eu]; exact h7
      rw [if_pos ⟨ok, d⟩, sp_180 Mu hu hg (show o < 9 by omega), Option.bind_some] at s2
      have s2 : gm_195 g o z t u = ((gm_157 g o z (gb (decide (SO (u.1 216) R C g o (-1) false = 0))) u).bind fun q56 => if (-2147483648 ≤ q56.1 ∧ q56.1 ≤ 2147483647) then ((gm_157 g o (-1) (gb (decide (SO (u.1 216) R C g o (-1) false = 0))) q56.2).bind fun q59 => if (-2147483648 ≤ q59.1 ∧ q59.1 ≤ 2147483647) then ((gm_194 q56.1 q59.1 t q59.2).bind fun q62 => some (q62.1, q62.2)) else none) else none) := s2
      rw [sp_157g Mu hu o z _ hg (by omega) (by omega), Option.bind_some, eu, hp] at s2
      have s2 : gm_195 g o z t u = (if (-2147483648 ≤ (p : Int) ∧ (p : Int) ≤ 2147483647) then ((gm_157 g o (-1) (gb (decide (SO f R C g o (-1) false = 0))) u).bind fun q59 => if (-2147483648 ≤ q59.1 ∧ q59.1 ≤ 2147483647) then ((gm_194 p q59.1 t q59.2).bind fun q62 => some (q62.1, q62.2)) else none) else none) := s2
      have c57 := sp_157g Mu hu (o : Int) (-1) (decide (SO f R C g o (-1) false = 0)) hg (by omega) (by omega)
      rw [eu, hb] at c57
      rw [if_pos (by omega), c57, Option.bind_some] at s2
      have s2 : gm_195 g o z t u = (if (-2147483648 ≤ (b : Int) ∧ (b : Int) ≤ 2147483647) then ((gm_194 p b t u).bind fun q62 => some (q62.1, q62.2)) else none) := s2
      rw [if_pos (by omega), sp_194 u (by omega) (by omega) b0 ht, Option.bind_some] at s2
      exact ⟨_, u, u, s1, s2, q_inv kc u2 r v (KRw_rf u)⟩
    · have b0 : b = 0 := by omega
      rw [if_neg (show ¬ ¬ (b : Int) = 0 by omega)] at s1
      rw [if_neg (fun q => d q.2)] at s2
      exact ⟨-1, u, u, s1, s2, q_inv kc u2 r v (KRw_rf u)⟩
  · rw [if_neg ok] at s1
    exact ⟨-1, s, s, s1, (s2 s r.1).trans (if_neg fun q => ok q.1), h⟩
end
section
/-! THE REFERENCE: what flows back -/
theorem sl_191_83 {f : Nat → Int} {R C g x : Nat} (k : Int → Int → gx_S → Option gx_S) (M : MP f R C) (h7 : f 2 = 7) (hg : g < 3) (hx : x < 8) (b : Bool) : ∀ (n y : Nat) (s : gx_S), 9 < n + y → y ≤ 9 → s.1 216 = f → ∃ u : gx_S, gm_191_83 k n g x (gb b) y s = k g ((x + 1 : Nat) : Int) u ∧ u.2 = s.2 ∧ (∀ k i, k ≠ 222 → u.1 k i = s.1 k i) ∧ (∀ y', y ≤ y' → y' < 9 → u.1 222 (9 * x + y') = SO f R C g y' x b) ∧ ∀ i, ¬ (9 * x + y ≤ i ∧ i < 9 * x + 9) → u.1 222 i = s.1 222 i := by
  intro n
  induction n with
  | zero => intro y s h; omega
  | succ n ih =>
    intro y s h hy ef
    rw [gm_191_83, if_pos (by omega)]
    by_cases q : y = 9
    · rw [if_pos (by omega)]
      exact ⟨s, rfl, rfl, fun _ _ _ => rfl, fun y' h1 h2 => by omega, fun _ _ => rfl⟩
    · have ce : ((y : Int) + 1) = ((y + 1 : Nat) : Int) := rfl
      have i1 : ((9 * (x : Int) + (y : Int))).toNat = 9 * x + y := by omega
      have c57 := sp_157g (s := s) (R := R) (C := C) (by rw [ef]; exact M) (by rw [ef]; exact h7) (y : Int) (x : Int) b hg (by omega) (by omega)
      rw [ef] at c57
      rw [if_neg (by omega), sp_160, Option.bind_some]
      show ∃ u : gx_S, ((gm_157 g y x (gb b) s).bind _) = k g ((x + 1 : Nat) : Int) u ∧ _
      rw [c57, Option.bind_some, if_pos (by omega), i1, ce]
      obtain ⟨u, u1, u2, u3, u4, u5⟩ := ih (y + 1) (gw1 s 222 (9 * x + y) (SO f R C g y x b)) (by omega) (by omega) (by
        funext i
        rw [gw1_1, if_neg (by omega), ef])
      refine ⟨u, u1, u2, fun k i h1 => by rw [u3 k i h1, gw1_1, if_neg (fun x => h1 x.1)], fun y' h1 h2 => ?_, fun i h1 => ?_⟩
      · by_cases e : y' = y
        · rw [e, u5 _ (by omega), gw1_1, if_pos ⟨rfl, rfl⟩]
        · exact u4 y' (by omega) h2
      · rw [u5 i (by omega), gw1_1, if_neg (by omega)]
theorem sl_191_44 {f P : Nat → Int} {R C g : Nat} (M : MP f R C) (h7 : f 2 = 7) (hg : g < 3) (hP : ∀ x, x < 8 → 0 ≤ P x ∧ P x ≤ 100000000) : ∀ (n x : Nat) (s : gx_S), 8 < n + x → x ≤ 8 → s.1 216 = f → (∀ z, z < 8 → s.1 239 z = P z) → ∃ u : gx_S, gm_191_44 n g x s = ((gm_173 u).bind fun q4 => some q4) ∧ (∀ k i, k ≠ 222 → u.1 k i = s.1 k i) ∧ (∀ k i, k ≠ 221 → u.2 k i = s.2 k i) ∧ (∀ x', x ≤ x' → x' < 8 → u.2 221 x' = P x' ∧ ∀ y, y < 9 → u.1 222 (9 * x' + y) = Abk f R C g x' y) ∧ (∀ i, i < x → u.2 221 i = s.2 221 i) ∧ ∀ i, i < 9 * x → u.1 222 i = s.1 222 i := by
  intro n
  induction n with
  | zero => intro x s h; omega
  | succ n ih =>
    intro x s h hx ef hl
    rw [gm_191_44, if_pos (by omega)]
    by_cases q : x = 8
    · rw [if_pos (by omega)]
      exact ⟨s, rfl, fun _ _ _ => rfl, fun _ _ _ => rfl, fun x' h1 h2 => by omega, fun _ _ => rfl, fun _ _ => rfl⟩
    · have i5 : ((x : Int)).toNat = x := by omega
      have lr := hP x (by omega)
      have e16 : (gw2 s 221 x (P x)).1 216 = f := ef
      have c57 := sp_157g (s := gw2 s 221 x (P x)) (R := R) (C := C) (by rw [e16]; exact M) (by rw [e16]; exact h7) (-1) (x : Int) false hg (by omega) (by omega)
      rw [e16] at c57
      have c57 : gm_157 g (-1) x 0 (gw2 s 221 x (P x)) = _ := c57
      have sr := SO_r M h7 hg (-1) (x : Int) false
      rw [if_neg (by omega), if_pos (by omega), i5, hl x (by omega), if_pos (by omega), if_pos (by omega), c57, Option.bind_some]
      show ∃ u : gx_S, (if (-2147483648 ≤ SO f R C g (-1) x false ∧ SO f R C g (-1) x false ≤ 2147483647) then (if ¬ SO f R C g (-1) x false = 0 then gm_191_79 (gm_191_44 n) g x 0 (gw2 s 221 x (P x)) else gm_191_79 (gm_191_44 n) g x 1 (gw2 s 221 x (P x))) else none) = _ ∧ _
      rw [if_pos (by omega)]
      have st : (if ¬ SO f R C g (-1) x false = 0 then gm_191_79 (gm_191_44 n) g x 0 (gw2 s 221 x (P x)) else gm_191_79 (gm_191_44 n) g x 1 (gw2 s 221 x (P x))) = gm_191_83 (gm_191_44 n) 100000 g x (gb (decide (SO f R C g (-1) x false = 0))) 0 (gw2 s 221 x (P x)) := by
        by_cases z : SO f R C g (-1) x false = 0
        · rw [if_neg (fun t => t z), decide_eq_true z]
          rfl
        · rw [if_pos z, decide_eq_false z]
          rfl
      obtain ⟨t, t1, t2, t3, t4, t5⟩ := sl_191_83 (gm_191_44 n) M h7 hg (show x < 8 by omega) (decide (SO f R C g (-1) x false = 0)) 100000 0 (gw2 s 221 x (P x)) (by omega) (by omega) e16
      have t1 : gm_191_83 (gm_191_44 n) 100000 g x (gb (decide (SO f R C g (-1) x false = 0))) 0 (gw2 s 221 x (P x)) = gm_191_44 n g ((x + 1 : Nat) : Int) t := t1
      rw [st, t1]
      have tk : ∀ k i, k ≠ 222 → t.1 k i = s.1 k i := fun k i h1 => t3 k i h1
      obtain ⟨u, u1, u2, u3, u4, u5, u6⟩ := ih (x + 1) t (by omega) (by omega) (by
        funext i
        rw [tk 216 i (by decide), ef]) (fun z hz => by rw [tk 239 z (by decide)]; exact hl z hz)
      refine ⟨u, u1, fun k i h1 => (u2 k i h1).trans (tk k i h1), fun k i h1 => ?_, fun x' h1 h2 => ?_, fun i h1 => ?_, fun i h1 => ?_⟩
      · rw [u3 k i h1, t2, gw2_2, if_neg (fun x => h1 x.1)]
      · by_cases e : x' = x
        · rw [e]
          refine ⟨?_, fun y hy => ?_⟩
          · rw [u5 x (by omega), t2, gw2_2, if_pos ⟨rfl, rfl⟩]
          · rw [u6 _ (by omega), t4 y (by omega) hy]
            rfl
        · exact u4 x' (by omega) h2
      · rw [u5 i (by omega), t2, gw2_2, if_neg (by omega)]
      · rw [u6 i (by omega), t5 i (by omega)]
        rfl
theorem sl_191_11 {g : Nat} : ∀ (n x : Nat) (s : gx_S), 8 < n + x → x ≤ 8 → s.1 215 17 = 8 → ∃ u : gx_S, gm_191_11 n g x s = ((gm_159 8 9 u).bind fun q4 => gm_191_44 100000 g 0 q4) ∧ u.2 = s.2 ∧ (∀ k i, k ≠ 239 → u.1 k i = s.1 k i) ∧ ∀ j, u.1 239 j = if x ≤ j ∧ j < 8 then sg (fun r => s.2 224 (9 * r + j)) 8 else s.1 239 j := by
  intro n
  induction n with
  | zero => intro x s h; omega
  | succ n ih =>
    intro x s h hx e17
    rw [gm_191_11, if_pos (by omega)]
    by_cases q : x = 8
    · rw [if_pos (by omega)]
      exact ⟨s, rfl, rfl, fun _ _ _ => rfl, fun j => by rw [if_neg (by omega)]⟩
    · have ce : ((x : Int) + 1) = ((x + 1 : Nat) : Int) := rfl
      have i5 : ((x : Int)).toNat = x := by omega
      rw [if_neg (by omega), sp_183 (R := 8) e17 (by omega) (show x < 9 by omega), Option.bind_some, if_pos (by omega), i5, ce]
      obtain ⟨u, u1, u2, u3, u4⟩ := ih (x + 1) (gw1 s 239 x (sg (fun r => s.2 224 (9 * r + x)) 8)) (by omega) (by omega) (by rw [gw1_1, if_neg (by omega)]; exact e17)
      refine ⟨u, u1, u2, fun k i h1 => by rw [u3 k i h1, gw1_1, if_neg (fun x => h1 x.1)], fun j => ?_⟩
      rw [u4, gw1_1]
      by_cases y : j = x
      · rw [if_neg (by omega), if_pos ⟨rfl, y⟩, if_pos (by omega), y]
      · by_cases y2 : x + 1 ≤ j ∧ j < 8
        · rw [if_pos y2, if_pos (show x ≤ j ∧ j < 8 by omega)]
          rfl
        · rw [if_neg y2, if_neg (fun t => y t.2), if_neg (show ¬ (x ≤ j ∧ j < 8) by omega)]
/-- scratch of the reference alone -/
theorem KRw_of {s u : gx_S} (h1 : ∀ k j, ¬ (215 ≤ k) ∨ k = 216 ∨ k = 217 ∨ k = 218 ∨ (k = 215 ∧ (j = 2 ∨ j = 4)) ∨ (232 ≤ k ∧ k ≤ 235) → u.1 k j = s.1 k j) (h2 : ∀ k j, k ≠ 221 → u.2 k j = s.2 k j) : KRw s u := ⟨fun k j q => h1 k j (by omega), fun k j q => h2 k j (by omega), fun S => ⟨fun j hj => by rw [h1 232 j (by omega), h1 233 j (by omega), h1 234 j (by omega), h2 225 j (by decide)]; exact S.1 j hj, fun c hc => by rw [h1 235 c (by omega), h2 229 c (by decide), h2 230 c (by decide), h2 227 c (by decide), h2 228 c (by decide)]; exact S.2.1 c hc, fun k hk => by rw [h2 231 k (by decide)]; exact S.2.2 k hk⟩⟩
theorem sp_191 {s : gx_S} {R C g : Nat} (M : MP (s.1 216) R C) (h7 : s.1 216 2 = 7) (hg : g < 3) (S : SC s) : ∃ w : gx_S, gm_191 g s = some w ∧ KRw s w ∧ w.1 215 17 = 8 ∧ w.1 215 18 = 9 ∧ ∀ x y, x < 8 → y < 9 → w.2 224 (9 * x + y) = TB (s.1 216 3) (Pbk (s.1 216) R C g) (Abk (s.1 216) R C g) x y := by
  obtain ⟨a, b, a1, b1, a2, b2, b3, b4, b5⟩ := sp_181f M h7 hg S
  obtain ⟨c, c1, c2, c3, c4⟩ := sl_191_11 (g := g) 100000 0 b (by omega) (by omega) b3
  have c1 : gm_191_11 100000 g 0 b = _ := c1
  have cK : KRw b c := KRw_of (fun k j q => c3 k j (by omega)) fun k j _ => by rw [c2]
  obtain ⟨d, d1, d2, d3, d4, d5, d6, d7⟩ := KR_159 c 8 9
  have Kd : KRw s d := KRw_tr (KR_w b2) (KRw_tr cK (KR_w d2))
  obtain ⟨p1, p2⟩ := PA_bk M h7 hg
  have d39 : ∀ z, z < 8 → d.1 239 z = Pbk (s.1 216) R C g z := fun z hz => by
    rw [d6 239 z (by decide) (by decide), c4, if_pos (by omega)]
    exact sg_eq fun r hr => ((b5 r hr).2.2 z (by omega)).2
  obtain ⟨u, u1, u2, u3, u4, u5, u6⟩ := sl_191_44 M h7 hg p1.1 100000 0 d (by omega) (by omega) (KRw_216 Kd) d39
  have u1 : gm_191_44 100000 g 0 d = _ := u1
  have uK : KRw d u := KRw_of (fun k j q => u2 k j (by omega)) u3
  have Ku := KRw_tr Kd uK
  obtain ⟨w, w1, w2, w3, w4, w5, w6⟩ := TB_ref (md := s.1 216 3) (r := u) (R := 8) (m := 9) M.2.2.1 p1 (Ku.2.2 S) (by rw [u2 215 17 (by decide)]; exact d3) (by rw [u2 215 18 (by decide)]; exact d4) (by omega) (by omega) (fun _ => p2) (by rw [KRw_216 Ku]) (fun x hx => (u4 x (by omega) hx).1) (fun x y hx hy => (u4 x (by omega) hx).2 y hy) (fun x y hx hy hn => absurd ⟨hx, hy⟩ hn)
  refine ⟨w, ?_, KRw_tr Ku (KR_w (KR_rc w3 w4)), ?_, ?_, fun x y hx hy => w2 x y hx hy⟩
  · unfold gm_191
    rw [a1, Option.bind_some, b1, Option.bind_some, c1, d1, Option.bind_some, u1, w1, Option.bind_some]
  · rw [w3.1 215 17 (by decide) (by decide) (by decide) (by decide) (by decide), u2 215 17 (by decide)]
    exact d3
  · rw [w3.1 215 18 (by decide) (by decide) (by decide) (by decide) (by decide), u2 215 18 (by decide)]
    exact d4
theorem inv_returned {s : gx_S} (h : INV s) {x z : Int} (hx : i32 x) (hz : i32 z) : two s (gm_104 x z) (gm_192 x z) := by
  obtain ⟨f, R, C, n, pf, L, tb, c, r, v⟩ := id h
  have hx' := hx
  have hz' := hz
  unfold i32 at hx' hz'
  have c118 := sp_118 c.1 v.1 hx hz
  have c150 : ∀ t : gx_S, t.1 216 = f → gm_150 t = some (decide (f 2 = 7), t) := fun t et => by
    have := sp_150 (s := t) (by rw [et]; exact v.1.2.1)
    rw [et] at this
    exact this
  have s2 : ∀ y : gx_S, y.1 216 = f → gm_192 x z y = if (0 ≤ x ∧ x < 3) ∧ (0 ≤ z ∧ z ≤ 8) ∧ f 2 = 7 then ((gm_191 x y).bind fun q26 => (gm_183 z q26).bind fun q28 => some (q28.1, q28.2)) else some (-1, y) := fun y ey => by
    unfold gm_192
    rw [c150 y ey, Option.bind_some]
    by_cases h7 : f 2 = 7
    · rw [if_neg (fun q => (gbD s).mp q h7)]
      show ((gm_148 x y).bind _) = _
      rw [sp_148 y hx, Option.bind_some]
      by_cases a : 0 ≤ x ∧ x ≤ 2
      · rw [if_neg (fun q => (gbD s).mp q a), if_pos hz', in_ y hz (by omega) (by omega), Option.bind_some]
        by_cases b : 0 ≤ z ∧ z ≤ 8
        · rw [if_pos (fun q => (gbD s).mp q b), if_pos ⟨by omega, b, h7⟩]
        · rw [if_neg (fun q => q ((gbD s).mpr b)), if_neg (fun q => b q.2.1)]
      · rw [if_pos ((gbD s).mpr a), if_neg (fun q => a (by have := q.1; omega))]
    · rw [if_pos ((gbD s).mpr h7), if_neg (fun q => h7 q.2.2)]
  unfold two gm_104
  rw [c118, Option.bind_some]
  by_cases ok : (0 ≤ x ∧ x < 3) ∧ (0 ≤ z ∧ z ≤ 8) ∧ f 2 = 7
  · obtain ⟨a, b, h7⟩ := id ok
    obtain ⟨g, rfl⟩ : ∃ g : Nat, x = g := ⟨x.toNat, by omega⟩
    obtain ⟨z, rfl⟩ : ∃ z' : Nat, z = z' := ⟨z.toNat, by omega⟩
    have hg : g < 3 := by omega
    obtain ⟨D, u, u1, u2, u3, u4, u5, u6⟩ := CV_ready (w := 4) (by omega) v.1 h7 hg c
    have u1 : gm_19 (71 + 48 * g) 4 s = some u := u1
    have tm := u4.2.2.2.2.2.1 u5
    have kc : KC s u := KG_KC (ga_of hg) u3
    have ru := RV_KC kc r
    have eu : u.1 216 = f := ru.1
    obtain ⟨w, w1, w2, w3, w4, w5⟩ := sp_191 (s := u) (R := R) (C := C) (g := g) (by rw [eu]; exact v.1) (by rw [eu]; exact h7) hg ru.2.2.2.2
    rw [eu] at w5
    have s2 := s2 u eu
    rw [if_pos ok, w1, Option.bind_some, sp_183 (R := 8) w3 (by omega) (show z < 9 by omega), Option.bind_some] at s2
    rw [if_pos (fun q => (gbD s).mp q ok), if_pos a, Option.bind_some, vg_ g hg]
    show ∃ (r' : Int) (u' w : gx_S), ((gm_19 (71 + 48 * g) 4 s).bind _) = some (r', u') ∧ _
    rw [u1, Option.bind_some, sp_76 (ga_of hg).2.2.2.2.1 (show z < 9 by omega), Option.bind_some]
    refine ⟨_, u, w, rfl, ?_, q_inv kc u2 r v w2⟩
    rw [s2]
    have e : sg (fun x => w.2 224 (9 * x + z)) 8 = sg (fun x => u.1 (71 + 48 * g + 12 + 8) (9 * x + z)) 8 := sg_eq fun x hx => by
      rw [w5 x z hx (by omega), ((tm x hx).2.2 z (by omega)).2.2.2]
    show some (sg (fun x => w.2 224 (9 * x + z)) 8, w) = _
    rw [e]
  · rw [if_neg (fun q => q ((gbD s).mpr ok))]
    exact ⟨-1, s, s, rfl, (s2 s r.1).trans (if_neg ok), h⟩
end
section
/-! QUERIES: astray -/
def ab_ (x : Int) : Int := if 0 ≤ x then x else 0 - x
theorem sl_105 {a : Nat} {s : gx_S} {P : Nat → Int} {G : Nat → Nat → Int} (ht : fx_oc (a + 12) 7 = true) (hP : ∀ x, x < 8 → s.1 (a + 1) x = P x) (hG : ∀ x y, x < 8 → y < 9 → s.1 (a + 12 + 8) (9 * x + y) = G x y) (hb : ∀ x, x < 8 → -2147483648 ≤ P x - sg (fun r => G r x) 8 ∧ P x - sg (fun r => G r x) 8 ≤ 2147483647) : ∀ (n x : Nat), 8 < n + x → x ≤ 8 → gm_105_37 n a (sg (fun x => ab_ (P x - sg (fun r => G r x) 8)) x) x s = some (sg (fun x => ab_ (P x - sg (fun r => G r x) 8)) 8, s) := by
  intro n
  induction n with
  | zero => intro x h; omega
  | succ n ih =>
    intro x h hx
    rw [gm_105_37, if_pos (by omega)]
    by_cases q : x = 8
    · rw [if_pos (by omega), q]
    · have ce : ((x : Int) + 1) = ((x + 1 : Nat) : Int) := rfl
      have i5 : ((x : Int)).toNat = x := by omega
      have e : sg (fun r => s.1 (a + 12 + 8) (9 * r + x)) 8 = sg (fun r => G r x) 8 := sg_eq fun r hr => hG r x hr (by omega)
      rw [if_neg (by omega), if_pos (by omega), sp_76 ht (show x < 9 by omega), Option.bind_some, i5, hP x (by omega), e, if_pos (hb x (by omega)), ce]
      exact ih (x + 1) (by omega) (by omega)
theorem sl_193_55 {s : gx_S} {P Q : Nat → Int} (hP : ∀ x, x < 8 → s.1 236 x = P x) (hQ : ∀ x, x < 8 → s.1 239 x = Q x) (hb : ∀ x, x < 8 → -2147483648 ≤ P x - Q x ∧ P x - Q x ≤ 2147483647) : ∀ (n x : Nat), 8 < n + x → x ≤ 8 → gm_193_55 n (sg (fun x => ab_ (P x - Q x)) x) x s = some (sg (fun x => ab_ (P x - Q x)) 8, s) := by
  intro n
  induction n with
  | zero => intro x h; omega
  | succ n ih =>
    intro x h hx
    rw [gm_193_55, if_pos (by omega)]
    by_cases q : x = 8
    · rw [if_pos (by omega), q]
    · have ce : ((x : Int) + 1) = ((x + 1 : Nat) : Int) := rfl
      have i5 : ((x : Int)).toNat = x := by omega
      rw [if_neg (by omega), if_pos (by omega), if_pos (by omega), i5, hP x (by omega), hQ x (by omega), if_pos (hb x (by omega)), ce]
      exact ih (x + 1) (by omega) (by omega)
theorem sl_193_23 {g : Nat} : ∀ (n x : Nat) (s : gx_S), 8 < n + x → x ≤ 8 → s.1 215 17 = 8 → ∃ u : gx_S, gm_193_23 n g x s = ((gm_177 g u).bind fun q4 => gm_193_55 100000 0 0 q4) ∧ u.2 = s.2 ∧ (∀ k i, k ≠ 239 → u.1 k i = s.1 k i) ∧ ∀ j, u.1 239 j = if x ≤ j ∧ j < 8 then sg (fun r => s.2 224 (9 * r + j)) 8 else s.1 239 j := by
  intro n
  induction n with
  | zero => intro x s h; omega
  | succ n ih =>
    intro x s h hx e17
    rw [gm_193_23, if_pos (by omega)]
    by_cases q : x = 8
    · rw [if_pos (by omega)]
      exact ⟨s, rfl, rfl, fun _ _ _ => rfl, fun j => by rw [if_neg (by omega)]⟩
    · have ce : ((x : Int) + 1) = ((x + 1 : Nat) : Int) := rfl
      have i5 : ((x : Int)).toNat = x := by omega
      rw [if_neg (by omega), sp_183 (R := 8) e17 (by omega) (show x < 9 by omega), Option.bind_some, if_pos (by omega), i5, ce]
      obtain ⟨u, u1, u2, u3, u4⟩ := ih (x + 1) (gw1 s 239 x (sg (fun r => s.2 224 (9 * r + x)) 8)) (by omega) (by omega) (by rw [gw1_1, if_neg (by omega)]; exact e17)
      refine ⟨u, u1, u2, fun k i h1 => by rw [u3 k i h1, gw1_1, if_neg (fun x => h1 x.1)], fun j => ?_⟩
      rw [u4, gw1_1]
      by_cases y : j = x
      · rw [if_neg (by omega), if_pos ⟨rfl, y⟩, if_pos (by omega), y]
      · by_cases y2 : x + 1 ≤ j ∧ j < 8
        · rw [if_pos y2, if_pos (show x ≤ j ∧ j < 8 by omega)]
          rfl
        · rw [if_neg y2, if_neg (fun t => y t.2), if_neg (show ¬ (x ≤ j ∧ j < 8) by omega)]
theorem inv_astray {s : gx_S} (h : INV s) {x : Int} (hx : i32 x) : two s (gm_105 x) (gm_193 x) := by
  obtain ⟨f, R, C, n, pf, L, tb, c, r, v⟩ := id h
  have hx' := hx
  unfold i32 at hx'
  have e6 : s.1 1 6 = f 2 := c.1.2.2.1
  have c57 := sp_57 (s := s) (a := 1) (by decide +kernel) (by rw [e6]; exact v.1.2.1)
  rw [e6] at c57
  have c150 : ∀ t : gx_S, t.1 216 = f → gm_150 t = some (decide (f 2 = 7), t) := fun t et => by
    have := sp_150 (s := t) (by rw [et]; exact v.1.2.1)
    rw [et] at this
    exact this
  have s2 : ∀ y : gx_S, y.1 216 = f → gm_193 x y = if (0 ≤ x ∧ x < 3) ∧ f 2 = 7 then ((gm_191 x y).bind fun q34 => gm_193_23 100000 x 0 q34) else some (-1, y) := fun y ey => by
    unfold gm_193
    rw [c150 y ey, Option.bind_some]
    by_cases h7 : f 2 = 7
    · rw [if_neg (fun q => (gbD s).mp q h7)]
      show ((gm_148 x y).bind _) = _
      rw [sp_148 y hx, Option.bind_some]
      by_cases a : 0 ≤ x ∧ x ≤ 2
      · rw [if_pos (fun q => (gbD s).mp q a), if_pos ⟨by omega, h7⟩]
      · rw [if_neg (fun q => q ((gbD s).mpr a)), if_neg (fun q => a (by have := q.1; omega))]
    · rw [if_pos ((gbD s).mpr h7), if_neg (fun q => h7 q.2)]
  have s1 : gm_105 x s = if (0 ≤ x ∧ x < 3) ∧ f 2 = 7 then (if 0 ≤ x ∧ x < 3 then ((some (fx_rf 70 (x).toNat)).bind fun v27 => (gm_19 v27 4 s).bind fun q32 => gm_105_37 100000 v27 0 0 q32) else none) else some (-1, s) := by
    unfold gm_105
    rw [sp_114 s hx, Option.bind_some]
    by_cases a : 0 ≤ x ∧ x < 3
    · rw [if_neg (fun q => (gbD s).mp q a)]
      show ((gm_57 1 s).bind _) = _
      rw [c57, Option.bind_some]
      by_cases h7 : f 2 = 7
      · rw [if_pos (fun q => (gbD s).mp q h7), if_pos (show (0 ≤ x ∧ x < 3) ∧ f 2 = 7 from ⟨a, h7⟩)]
      · rw [if_neg (fun q => q ((gbD s).mpr h7)), if_neg (fun q => h7 q.2)]
    · rw [if_pos ((gbD s).mpr a), if_neg (fun q => a q.1)]
  by_cases ok : (0 ≤ x ∧ x < 3) ∧ f 2 = 7
  · obtain ⟨a, h7⟩ := id ok
    obtain ⟨g, rfl⟩ : ∃ g : Nat, x = g := ⟨x.toNat, by omega⟩
    have hg : g < 3 := by omega
    obtain ⟨D, u, u1, u2, u3, u4, u5, u6⟩ := CV_ready (w := 4) (by omega) v.1 h7 hg c
    have u1 : gm_19 (71 + 48 * g) 4 s = some u := u1
    have tm := u4.2.2.2.2.2.1 u5
    have lv := (u4.2.2.2.1 (u6 (by omega)).2).1
    have kc : KC s u := KG_KC (ga_of hg) u3
    have ru := RV_KC kc r
    have eu : u.1 216 = f := ru.1
    obtain ⟨p1, p2⟩ := PA_bk v.1 h7 hg
    obtain ⟨b1, b2⟩ := TB_0 (md := f 3) v.1.2.2.1 p1 (fun _ => p2)
    obtain ⟨l1, l2⟩ := LV_r v.1 hg
    have lb : ∀ x, x < 8 → 0 ≤ LV f R C g x ∧ LV f R C g x ≤ 100000000 := (PA_mv v.1 h7 hg).1.1
    have cb8 : ∀ x, x < 8 → 0 ≤ sg (fun r => TB (f 3) (Pbk f R C g) (Abk f R C g) r x) 8 ∧ sg (fun r => TB (f 3) (Pbk f R C g) (Abk f R C g) r x) 8 ≤ 800000072 := fun x hx => by
      refine ⟨sg_nn fun r hr => (b1 r x hr (by omega)).1, ?_⟩
      exact Int.le_trans (sg_le (g := fun _ => 100000009) fun r hr => by
        have := (b1 r x hr (by omega)).2
        have := (p1.1 r hr).2
        show TB (f 3) (Pbk f R C g) (Abk f R C g) r x ≤ 100000009
        omega) (by decide)
    have hb : ∀ x, x < 8 → -2147483648 ≤ LV f R C g x - sg (fun r => TB (f 3) (Pbk f R C g) (Abk f R C g) r x) 8 ∧ LV f R C g x - sg (fun r => TB (f 3) (Pbk f R C g) (Abk f R C g) r x) 8 ≤ 2147483647 := fun x hx => by
      have := lb x hx
      have := cb8 x hx
      omega
    have t1 := sl_105 (a := 71 + 48 * g) (s := u) (ga_of hg).2.2.2.2.1 lv (fun x y hx hy => ((tm x hx).2.2 y hy).2.2.2) hb 100000 0 (by omega) (by omega)
    have t1 : gm_105_37 100000 (71 + 48 * g) 0 0 u = _ := t1
    obtain ⟨w, w1, w2, w3, w4, w5⟩ := sp_191 (s := u) (R := R) (C := C) (g := g) (by rw [eu]; exact v.1) (by rw [eu]; exact h7) hg ru.2.2.2.2
    rw [eu] at w5
    obtain ⟨y, y1, y2, y3, y4⟩ := sl_193_23 (g := g) 100000 0 w (by omega) (by omega) w3
    have y1 : gm_193_23 100000 g 0 w = _ := y1
    have yK : KRw w y := KRw_of (fun k j q => y3 k j (by omega)) fun k j _ => by rw [y2]
    have Ky := KRw_tr w2 yK
    have ey : y.1 216 = f := (KRw_216 Ky).trans eu
    obtain ⟨z, z1, z2, z3⟩ := sp_177 (s := y) (R := R) (C := C) (g := g) (by rw [ey]; exact v.1) hg
    rw [ey] at z2
    have z39 : ∀ x, x < 8 → z.1 239 x = sg (fun r => TB (f 3) (Pbk f R C g) (Abk f R C g) r x) 8 := fun x hx => by
      rw [z3.1 239 x (by omega), y4, if_pos (by omega)]
      exact sg_eq fun r hr => w5 r x hr (by omega)
    have t2 := sl_193_55 z2 z39 hb 100000 0 (by omega) (by omega)
    have t2 : gm_193_55 100000 0 0 z = _ := t2
    have s2 := s2 u eu
    rw [if_pos ok, w1, Option.bind_some, y1, z1, Option.bind_some, t2] at s2
    rw [if_pos ok, if_pos a, Option.bind_some, vg_ g hg, u1, Option.bind_some, t1] at s1
    exact ⟨_, u, z, s1, s2, q_inv kc u2 r v (KRw_tr Ky (KR_w z3))⟩
  · rw [if_neg ok] at s1
    exact ⟨-1, s, s, s1, (s2 s r.1).trans (if_neg ok), h⟩
end
section
/-! THE REFERENCE: coarse parts -/
theorem dsc_r_ {f : Nat → Int} {R C y : Nat} (M : MP f R C) (hy : y < 9) : 0 ≤ dsc f y ∧ dsc f y ≤ 4 := by
  have m := M.2.2.2.2.2.2.1
  unfold dsc
  by_cases e : y = 8
  · rw [if_pos e]
    omega
  · rw [if_neg e]
    have := m y (by omega)
    omega
theorem sp_186 {s : gx_S} {f : Nat → Int} {y : Nat} (e : s.1 216 = f) (hy : y < 9) : gm_186 y s = some (dsc f y, s) := by
  unfold gm_186 dsc
  rw [if_pos (by omega)]
  by_cases q : y = 8
  · rw [if_neg (by omega), if_pos q]
  · rw [if_pos (by omega), if_neg q, if_pos (by omega), show (44 + (y : Int)).toNat = 44 + y by omega, e]
/-- the parts by district, up to column y -/
def dpt (f : Nat → Int) (A : Nat → Int) (d y : Nat) : Int := sg (fun y => if dsc f y = (d : Int) then A y else 0) y
theorem sl_187_91 {k : Int → gx_S → Option gx_S} {x : Nat} (hx : x < 8) : ∀ (n d : Nat) (s : gx_S), 5 < n + d → d ≤ 5 → ∃ u : gx_S, gm_187_91 k n x d s = k ((x + 1 : Nat) : Int) u ∧ u.2 = s.2 ∧ (∀ k i, k ≠ 222 → u.1 k i = s.1 k i) ∧ (∀ j, d ≤ j → j < 5 → u.1 222 (9 * x + j) = s.1 237 j) ∧ ∀ i, ¬ (9 * x + d ≤ i ∧ i < 9 * x + 5) → u.1 222 i = s.1 222 i := by
  intro n
  induction n with
  | zero => intro d s h; omega
  | succ n ih =>
    intro d s h hd
    rw [gm_187_91, if_pos (by omega)]
    by_cases q : d = 5
    · rw [if_pos (by omega)]
      exact ⟨s, rfl, rfl, fun _ _ _ => rfl, fun j h1 h2 => by omega, fun _ _ => rfl⟩
    · have ce : ((d : Int) + 1) = ((d + 1 : Nat) : Int) := rfl
      have i1 : ((9 * (x : Int) + (d : Int))).toNat = 9 * x + d := by omega
      have i2 : ((d : Int)).toNat = d := by omega
      rw [if_neg (by omega), sp_160, Option.bind_some, if_pos (by omega)]
      show ∃ u : gx_S, (if 0 ≤ (9 * (x : Int) + (d : Int)) ∧ (9 * (x : Int) + (d : Int)) < 72 then gm_187_91 k n x ((d : Int) + 1) (gw1 s 222 ((9 * (x : Int) + (d : Int))).toNat (s.1 237 ((d : Int)).toNat)) else none) = _ ∧ _
      rw [if_pos (by omega), i1, i2, ce]
      obtain ⟨u, u1, u2, u3, u4, u5⟩ := ih (d + 1) (gw1 s 222 (9 * x + d) (s.1 237 d)) (by omega) (by omega)
      refine ⟨u, u1, u2, fun k i h1 => by rw [u3 k i h1, gw1_1, if_neg (fun x => h1 x.1)], fun j h1 h2 => ?_, fun i h1 => ?_⟩
      · by_cases e : j = d
        · rw [e, u5 _ (by omega), gw1_1, if_pos ⟨rfl, rfl⟩]
        · rw [u4 j (by omega) h2, gw1_1, if_neg (by omega)]
      · rw [u5 i (by omega), gw1_1, if_neg (by omega)]
theorem sl_187_41 {f : Nat → Int} {R C x : Nat} {A : Nat → Int} {k : Int → gx_S → Option gx_S} (M : MP f R C) (hx : x < 8) : ∀ (n y : Nat) (s : gx_S), 9 < n + y → y ≤ 9 → s.1 216 = f → (∀ j, y ≤ j → j < 9 → s.1 222 (9 * x + j) = A j) → (∀ d, d < 5 → s.1 237 d = dpt f A d y) → ∃ u : gx_S, gm_187_41 k n x y s = gm_187_91 k 100000 x 0 u ∧ u.2 = s.2 ∧ (∀ k i, k ≠ 222 → k ≠ 237 → u.1 k i = s.1 k i) ∧ (∀ d, d < 5 → u.1 237 d = dpt f A d 9) ∧ ∀ i, ¬ (9 * x + y ≤ i ∧ i < 9 * x + 9) → u.1 222 i = s.1 222 i := by
  intro n
  induction n with
  | zero => intro y s h; omega
  | succ n ih =>
    intro y s h hy ef hA hd
    rw [gm_187_41, if_pos (by omega)]
    by_cases q : y = 9
    · rw [if_pos (by omega)]
      exact ⟨s, rfl, rfl, fun _ _ _ _ => rfl, fun d h1 => by rw [hd d h1, q], fun _ _ => rfl⟩
    · have ce : ((y : Int) + 1) = ((y + 1 : Nat) : Int) := rfl
      have i1 : ((9 * (x : Int) + (y : Int))).toNat = 9 * x + y := by omega
      have dr := dsc_r_ M (show y < 9 by omega)
      obtain ⟨e, he⟩ : ∃ e : Nat, dsc f y = e := ⟨_, (Int.toNat_of_nonneg dr.1).symm⟩
      rw [he] at dr
      have i2 : ((e : Int)).toNat = e := by omega
      rw [if_neg (by omega), sp_186 ef (show y < 9 by omega), Option.bind_some, he, if_pos (by omega), sp_160, Option.bind_some]
      show ∃ u : gx_S, (if 0 ≤ (9 * (x : Int) + (y : Int)) ∧ (9 * (x : Int) + (y : Int)) < 72 then ((gm_160 x y (gw1 s 237 ((e : Int)).toNat ((s.1 237 ((e : Int)).toNat) + (s.1 222 ((9 * (x : Int) + (y : Int))).toNat)))).bind fun q16 => if 0 ≤ q16.1 ∧ q16.1 < 72 then gm_187_41 k n x ((y : Int) + 1) (gw1 q16.2 222 (q16.1).toNat 0) else none) else none) = _ ∧ _
      rw [if_pos (by omega), sp_160, Option.bind_some]
      show ∃ u : gx_S, (if 0 ≤ (9 * (x : Int) + (y : Int)) ∧ (9 * (x : Int) + (y : Int)) < 72 then gm_187_41 k n x ((y : Int) + 1) (gw1 (gw1 s 237 ((e : Int)).toNat ((s.1 237 ((e : Int)).toNat) + (s.1 222 ((9 * (x : Int) + (y : Int))).toNat))) 222 ((9 * (x : Int) + (y : Int))).toNat 0) else none) = _ ∧ _
      rw [if_pos (by omega), i1, i2, ce, hA y (Nat.le_refl y) (by omega)]
      obtain ⟨t, ht⟩ : ∃ t, t = gw1 (gw1 s 237 e (s.1 237 e + A y)) 222 (9 * x + y) 0 := ⟨_, rfl⟩
      have to : ∀ k i, k ≠ 222 → k ≠ 237 → t.1 k i = s.1 k i := fun k i h1 h2 => by rw [ht, gw1_1, if_neg (by omega), gw1_1, if_neg (by omega)]
      have t2 : ∀ i, i ≠ 9 * x + y → t.1 222 i = s.1 222 i := fun i h1 => by rw [ht, gw1_1, if_neg (by omega), gw1_1, if_neg (by omega)]
      rw [← ht]
      obtain ⟨u, u1, u2, u3, u4, u5⟩ := ih (y + 1) t (by omega) (by omega) (by
        funext i
        rw [to 216 i (by decide) (by decide), ef]) (fun j h1 h2 => by rw [t2 _ (by omega)]; exact hA j (by omega) h2) (fun d h1 => by
        rw [ht, gw1_1, if_neg (by omega), gw1_1]
        show _ = dpt f A d y + (if dsc f y = (d : Int) then A y else 0)
        by_cases z : d = e
        · rw [if_pos ⟨rfl, z⟩, if_pos (by rw [he, z]), hd e (by omega), z]
        · rw [if_neg (fun t => z t.2), if_neg (by rw [he]; omega), hd d h1, Int.add_zero])
      exact ⟨u, u1, by rw [u2, ht]; rfl, fun k i h1 h2 => by rw [u3 k i h1 h2, to k i h1 h2], u4, fun i h1 => by rw [u5 i (by omega), t2 i (by omega)]⟩
theorem sl_187_21 {x : Nat} {k : Int → gx_S → Option gx_S} : ∀ (n d : Nat) (s : gx_S), 5 < n + d → d ≤ 5 → ∃ u : gx_S, gm_187_21 k n x d s = gm_187_41 k 100000 x 0 u ∧ u.2 = s.2 ∧ (∀ k i, k ≠ 237 → u.1 k i = s.1 k i) ∧ ∀ j, u.1 237 j = if d ≤ j ∧ j < 5 then 0 else s.1 237 j := by
  intro n
  induction n with
  | zero => intro d s h; omega
  | succ n ih =>
    intro d s h hd
    rw [gm_187_21, if_pos (by omega)]
    by_cases q : d = 5
    · rw [if_pos (by omega)]
      exact ⟨s, rfl, rfl, fun _ _ _ => rfl, fun j => by rw [if_neg (by omega)]⟩
    · have ce : ((d : Int) + 1) = ((d + 1 : Nat) : Int) := rfl
      have i2 : ((d : Int)).toNat = d := by omega
      rw [if_neg (by omega), if_pos (by omega), i2, ce]
      obtain ⟨u, u1, u2, u3, u4⟩ := ih (d + 1) (gw1 s 237 d 0) (by omega) (by omega)
      refine ⟨u, u1, u2, fun k i h1 => by rw [u3 k i h1, gw1_1, if_neg (fun x => h1 x.1)], fun j => ?_⟩
      rw [u4, gw1_1]
      by_cases e : j = d
      · rw [if_neg (by omega), if_pos ⟨rfl, e⟩, if_pos (by omega)]
      · by_cases e2 : d + 1 ≤ j ∧ j < 5
        · rw [if_pos e2, if_pos (show d ≤ j ∧ j < 5 by omega)]
        · rw [if_neg e2, if_neg (fun t => e t.2), if_neg (show ¬ (d ≤ j ∧ j < 5) by omega)]
theorem sl_187_7 {f : Nat → Int} {R C : Nat} {A : Nat → Nat → Int} (M : MP f R C) : ∀ (n x : Nat) (s : gx_S), 8 < n + x → x ≤ 8 → s.1 216 = f → (∀ x' y, x ≤ x' → x' < 8 → y < 9 → s.1 222 (9 * x' + y) = A x' y) → ∃ u : gx_S, gm_187_7 n x s = some (gw1 u 215 18 5) ∧ u.2 = s.2 ∧ (∀ k i, k ≠ 222 → k ≠ 237 → u.1 k i = s.1 k i) ∧ (∀ x' d, x ≤ x' → x' < 8 → d < 5 → u.1 222 (9 * x' + d) = dpt f (A x') d 9) ∧ ∀ i, i < 9 * x → u.1 222 i = s.1 222 i := by
  intro n
  induction n with
  | zero => intro x s h; omega
  | succ n ih =>
    intro x s h hx ef hA
    rw [gm_187_7, if_pos (by omega)]
    by_cases q : x = 8
    · rw [if_pos (by omega)]
      exact ⟨s, rfl, rfl, fun _ _ _ _ => rfl, fun x' d h1 h2 => by omega, fun _ _ => rfl⟩
    · rw [if_neg (by omega)]
      obtain ⟨a, a1, a2, a3, a4⟩ := sl_187_21 (x := x) (k := gm_187_7 n) 100000 0 s (by omega) (by omega)
      have a1 : gm_187_21 (gm_187_7 n) 100000 x 0 s = _ := a1
      obtain ⟨b, b1, b2, b3, b4, b5⟩ := sl_187_41 (k := gm_187_7 n) (A := A x) M (show x < 8 by omega) 100000 0 a (by omega) (by omega) (by
        funext i
        rw [a3 216 i (by decide), ef]) (fun j h1 h2 => by rw [a3 222 _ (by decide)]; exact hA x j (Nat.le_refl x) (by omega) h2) (fun d h1 => by
        rw [a4, if_pos (by omega)]
        rfl)
      have b1 : gm_187_41 (gm_187_7 n) 100000 x 0 a = _ := b1
      obtain ⟨c, c1, c2, c3, c4, c5⟩ := sl_187_91 (k := gm_187_7 n) (show x < 8 by omega) 100000 0 b (by omega) (by omega)
      have c1 : gm_187_91 (gm_187_7 n) 100000 x 0 b = _ := c1
      have ck : ∀ k i, k ≠ 222 → k ≠ 237 → c.1 k i = s.1 k i := fun k i h1 h2 => by rw [c3 k i h1, b3 k i h1 h2, a3 k i h2]
      have co_ : ∀ i, ¬ (9 * x ≤ i ∧ i < 9 * x + 9) → c.1 222 i = s.1 222 i := fun i h1 => by rw [c5 i (by omega), b5 i (by omega), a3 222 i (by decide)]
      obtain ⟨u, u1, u2, u3, u4, u5⟩ := ih (x + 1) c (by omega) (by omega) (by
        funext i
        rw [ck 216 i (by decide) (by decide), ef]) (fun x' y h1 h2 h3 => by rw [co_ _ (by omega)]; exact hA x' y (by omega) h2 h3)
      rw [a1, b1, c1]
      refine ⟨u, u1, by rw [u2, c2, b2, a2], fun k i h1 h2 => by rw [u3 k i h1 h2, ck k i h1 h2], fun x' d h1 h2 h3 => ?_, fun i h1 => by rw [u5 i (by omega), co_ i (by omega)]⟩
      by_cases e : x' = x
      · rw [e, u5 _ (by omega), c4 d (by omega) h3, b4 d h3]
      · exact u4 x' d (by omega) h2 h3
theorem sp_187 {s : gx_S} {R C g : Nat} (M : MP (s.1 216) R C) (h7 : s.1 216 2 = 7) (hg : g < 3) : ∃ u : gx_S, gm_187 g s = some u ∧ KRw s u ∧ u.1 215 17 = 8 ∧ u.1 215 18 = 5 ∧ (∀ x, x < 8 → u.2 221 x = LV (s.1 216) R C g x) ∧ ∀ x d, x < 8 → d < 5 → u.1 222 (9 * x + d) = Aco (s.1 216) R C g x d := by
  obtain ⟨a, a1, a2, a3, a4, a5⟩ := sp_181 M h7 hg
  obtain ⟨u, u1, u2, u3, u4, u5⟩ := sl_187_7 (A := PMV (s.1 216) R C g) M 100000 0 a (by omega) (by omega) (KR_216 a2) (fun x' y _ h2 h3 => (a5 x' h2).2 y h3)
  have u1 : gm_187_7 100000 0 a = _ := u1
  refine ⟨gw1 u 215 18 5, ?_, KRw_tr (KR_w a2) (KRw_of (fun k j q => by rw [gw1_1, if_neg (by omega), u3 k j (by omega) (by omega)]) fun k j _ => by rw [gw1_2, u2]), ?_, by rw [gw1_1, if_pos ⟨rfl, rfl⟩], fun x hx => ?_, fun x d hx hd => ?_⟩
  · unfold gm_187
    rw [a1, Option.bind_some, u1]
  · rw [gw1_1, if_neg (by omega), u3 215 17 (by decide) (by decide)]
    exact a3
  · rw [gw1_2, u2]
    exact (a5 x hx).1
  · rw [gw1_1, if_neg (by omega), u4 x d (by omega) hx hd]
    rfl
end
section
/-! QUERIES: coarse -/
def cos_ (f : Nat → Int) (R C g : Nat) (d : Int) (n : Nat) : Int := sg (fun y => if dsc f y = d then sg (fun x => GV f R C g x y) 8 else 0) n
theorem sl_101 {f : Nat → Int} {R C g a : Nat} {d : Int} {s : gx_S} (M : MP f R C) (m : MR s 1 f R C) (ht : fx_oc (a + 3) 7 = true) (hd : i32 d) (hG : ∀ x y, x < 8 → y < 9 → s.1 (a + 3 + 8) (9 * x + y) = GV f R C g x y) : ∀ (n y : Nat), 8 < n + y → y ≤ 8 → gm_101_79 n d a (cos_ f R C g d y) y s = some (cos_ f R C g d 8, s) := by
  unfold i32 at hd
  intro n
  induction n with
  | zero => intro y h; omega
  | succ n ih =>
    intro y h hy
    rw [gm_101_79, if_pos (by omega)]
    by_cases q : y = 8
    · rw [if_pos (by omega), q]
    · have ce : ((y : Int) + 1) = ((y + 1 : Nat) : Int) := rfl
      have i5 : ((y : Int)).toNat = y := by omega
      have dr := dsc_r M (show y < 9 by omega)
      have e5 : s.1 5 y = dsc f y := by
        have := m.2.2.2.2.2.2.2.1 y (by omega)
        rw [show (1 : Nat) + 4 = 5 from rfl] at this
        rw [this, (dr.2.2 (by omega)).2]
      have e : sg (fun x => s.1 (a + 3 + 8) (9 * x + y)) 8 = sg (fun x => GV f R C g x y) 8 := sg_eq fun x hx => hG x y hx (by omega)
      rw [if_neg (by omega), if_pos (by omega), i5, e5, if_pos (by omega), if_pos hd]
      unfold gm_101_115
      by_cases z : dsc f y = d
      · rw [if_neg (fun t => t z), sp_76 ht (show y < 9 by omega), Option.bind_some, e, ce]
        have st : cos_ f R C g d y + sg (fun x => GV f R C g x y) 8 = cos_ f R C g d (y + 1) := by
          show _ = cos_ f R C g d y + (if dsc f y = d then sg (fun x => GV f R C g x y) 8 else 0)
          rw [if_pos z]
        show gm_101_79 n d a (cos_ f R C g d y + sg (fun x => GV f R C g x y) 8) ((y + 1 : Nat) : Int) s = _
        rw [st]
        exact ih (y + 1) (by omega) (by omega)
      · rw [if_pos z, ce]
        have st : cos_ f R C g d (y + 1) = cos_ f R C g d y := by
          show cos_ f R C g d y + (if dsc f y = d then sg (fun x => GV f R C g x y) 8 else 0) = _
          rw [if_neg z, Int.add_zero]
        rw [← st]
        exact ih (y + 1) (by omega) (by omega)
theorem sl_188 {f : Nat → Int} {R C g : Nat} {d : Int} {s : gx_S} (M : MP f R C) (ef : s.1 216 = f) (h17 : s.1 215 17 = 8) (hd : i32 d) (hG : ∀ x y, x < 8 → y < 9 → s.2 224 (9 * x + y) = GV f R C g x y) : ∀ (n y : Nat), 8 < n + y → y ≤ 8 → gm_188_73 n d (cos_ f R C g d y) y s = some (cos_ f R C g d 8, s) := by
  unfold i32 at hd
  intro n
  induction n with
  | zero => intro y h; omega
  | succ n ih =>
    intro y h hy
    rw [gm_188_73, if_pos (by omega)]
    by_cases q : y = 8
    · rw [if_pos (by omega), q]
    · have ce : ((y : Int) + 1) = ((y + 1 : Nat) : Int) := rfl
      have dr := dsc_r M (show y < 9 by omega)
      have e : sg (fun x => s.2 224 (9 * x + y)) 8 = sg (fun x => GV f R C g x y) 8 := sg_eq fun x hx => hG x y hx (by omega)
      rw [if_neg (by omega), sp_186 ef (show y < 9 by omega), Option.bind_some, if_pos (by omega), if_pos hd]
      unfold gm_188_102
      by_cases z : dsc f y = d
      · rw [if_neg (fun t => t z), sp_183 (R := 8) h17 (by omega) (show y < 9 by omega), Option.bind_some, e, ce]
        have st : cos_ f R C g d y + sg (fun x => GV f R C g x y) 8 = cos_ f R C g d (y + 1) := by
          show _ = cos_ f R C g d y + (if dsc f y = d then sg (fun x => GV f R C g x y) 8 else 0)
          rw [if_pos z]
        show gm_188_73 n d (cos_ f R C g d y + sg (fun x => GV f R C g x y) 8) ((y + 1 : Nat) : Int) s = _
        rw [st]
        exact ih (y + 1) (by omega) (by omega)
      · rw [if_pos z, ce]
        have st : cos_ f R C g d (y + 1) = cos_ f R C g d y + 0 := by
          show cos_ f R C g d y + (if dsc f y = d then sg (fun x => GV f R C g x y) 8 else 0) = _
          rw [if_neg z]
        rw [← st]
        exact ih (y + 1) (by omega) (by omega)
/-- the coarse table on the reference's side -/
theorem sp_187f {s : gx_S} {R C g : Nat} (M : MP (s.1 216) R C) (h7 : s.1 216 2 = 7) (hg : g < 3) (S : SC s) : ∃ u w : gx_S, gm_187 g s = some u ∧ gm_173 u = some w ∧ KRw s w ∧ w.1 215 17 = 8 ∧ w.1 215 18 = 5 ∧ ∀ x d, x < 8 → d < 5 → w.2 224 (9 * x + d) = GC_ (s.1 216) R C g x d := by
  obtain ⟨u, u1, u2, u3, u4, u5, u6⟩ := sp_187 M h7 hg
  obtain ⟨p1, p2, p3, p4⟩ := PA_co M h7 hg
  obtain ⟨w, w1, w2, w3, w4, w5, w6⟩ := TB_ref (md := s.1 216 3) (r := u) (R := 8) (m := 5) M.2.2.1 p1 (u2.2.2 S) u3 u4 (by omega) (by omega) (fun _ => p2) (by rw [KRw_216 u2]) (fun x hx => u5 x hx) (fun x y hx hy => u6 x y hx hy) (fun x y hx hy hn => p3 x y hy (by omega))
  refine ⟨u, w, u1, w1, KRw_tr u2 (KR_w (KR_rc w3 w4)), ?_, ?_, fun x d hx hd => w2 x d hx hd⟩
  · rw [w3.1 215 17 (by decide) (by decide) (by decide) (by decide) (by decide)]
    exact u3
  · rw [w3.1 215 18 (by decide) (by decide) (by decide) (by decide) (by decide)]
    exact u4
theorem inv_coarse {s : gx_S} (h : INV s) {x d t : Int} (hx : i32 x) (hd : i32 d) (ht : i32 t) : two s (gm_101 x d t) (gm_188 x d t) := by
  obtain ⟨f, R, C, n, pf, L, tb, c, r, v⟩ := id h
  have hx' := hx
  have hd' := hd
  have ht' := ht
  unfold i32 at hx' hd' ht'
  have e6 : s.1 1 6 = f 2 := c.1.2.2.1
  have c57 := sp_57 (s := s) (a := 1) (by decide +kernel) (by rw [e6]; exact v.1.2.1)
  rw [e6] at c57
  have c150 : ∀ t : gx_S, t.1 216 = f → gm_150 t = some (decide (f 2 = 7), t) := fun t et => by
    have := sp_150 (s := t) (by rw [et]; exact v.1.2.1)
    rw [et] at this
    exact this
  have s1 : gm_101 x d t s = if ((0 ≤ x ∧ x < 3) ∧ f 2 = 7) ∧ (0 ≤ d ∧ d < 4) ∧ (0 ≤ t ∧ t ≤ 1) then (if 0 ≤ x ∧ x < 3 then ((some (fx_rf 70 (x).toNat)).bind fun v46 => if ¬ t = 1 then ((gm_19 v46 2 s).bind fun q52 => gm_101_79 100000 d v46 0 0 q52) else ((gm_19 v46 8 s).bind fun q54 => (gm_76 (v46 + 21) d q54).bind fun q56 => some (q56.1, q56.2))) else none) else some (-1, s) := by
    unfold gm_101
    rw [sp_114 s hx, Option.bind_some]
    by_cases a : 0 ≤ x ∧ x < 3
    · rw [if_neg (fun q => (gbD s).mp q a)]
      show ((gm_57 1 s).bind _) = _
      rw [c57, Option.bind_some]
      by_cases h7 : f 2 = 7
      · rw [if_neg (fun q => (gbD s).mp q h7)]
        show ((gm_117 d s).bind _) = _
        rw [sp_117 s hd, Option.bind_some]
        by_cases b : 0 ≤ d ∧ d < 4
        · rw [if_neg (fun q => (gbD s).mp q b), if_pos ht']
          by_cases e : t < 0
          · rw [if_pos e, if_neg (show ¬ (((0 ≤ x ∧ x < 3) ∧ f 2 = 7) ∧ (0 ≤ d ∧ d < 4) ∧ (0 ≤ t ∧ t ≤ 1)) by omega)]
          · rw [if_neg e]
            by_cases e2 : t ≤ 1
            · rw [if_pos e2, if_pos (show ((0 ≤ x ∧ x < 3) ∧ f 2 = 7) ∧ (0 ≤ d ∧ d < 4) ∧ (0 ≤ t ∧ t ≤ 1) by omega)]
            · rw [if_neg e2, if_neg (show ¬ (((0 ≤ x ∧ x < 3) ∧ f 2 = 7) ∧ (0 ≤ d ∧ d < 4) ∧ (0 ≤ t ∧ t ≤ 1)) by omega)]
        · rw [if_pos ((gbD s).mpr b), if_neg (show ¬ (((0 ≤ x ∧ x < 3) ∧ f 2 = 7) ∧ (0 ≤ d ∧ d < 4) ∧ (0 ≤ t ∧ t ≤ 1)) from fun q => b q.2.1)]
      · rw [if_pos ((gbD s).mpr h7), if_neg (show ¬ (((0 ≤ x ∧ x < 3) ∧ f 2 = 7) ∧ (0 ≤ d ∧ d < 4) ∧ (0 ≤ t ∧ t ≤ 1)) from fun q => h7 q.1.2)]
    · rw [if_pos ((gbD s).mpr a), if_neg (show ¬ (((0 ≤ x ∧ x < 3) ∧ f 2 = 7) ∧ (0 ≤ d ∧ d < 4) ∧ (0 ≤ t ∧ t ≤ 1)) from fun q => a q.1.1)]
  have s2 : ∀ y : gx_S, y.1 216 = f → gm_188 x d t y = if ((0 ≤ x ∧ x < 3) ∧ f 2 = 7) ∧ (0 ≤ d ∧ d < 4) ∧ (0 ≤ t ∧ t ≤ 1) then (if ¬ t = 1 then ((gm_181 x y).bind fun q51 => (gm_173 q51).bind fun q53 => gm_188_73 100000 d 0 0 q53) else ((gm_187 x y).bind fun q55 => (gm_173 q55).bind fun q57 => (gm_183 d q57).bind fun q59 => some (q59.1, q59.2))) else some (-1, y) := fun y ey => by
    unfold gm_188
    rw [c150 y ey, Option.bind_some]
    by_cases h7 : f 2 = 7
    · rw [if_neg (fun q => (gbD s).mp q h7)]
      show ((gm_148 x y).bind _) = _
      rw [sp_148 y hx, Option.bind_some]
      by_cases a : 0 ≤ x ∧ x ≤ 2
      · rw [if_neg (fun q => (gbD s).mp q a), if_pos hd', in_ y hd (by omega) (by omega), Option.bind_some]
        by_cases b : 0 ≤ d ∧ d ≤ 3
        · rw [if_neg (fun q => (gbD s).mp q b), if_pos ht', in_ y ht (by omega) (by omega), Option.bind_some]
          by_cases e : 0 ≤ t ∧ t ≤ 1
          · rw [if_pos (fun q => (gbD s).mp q e), if_pos (show ((0 ≤ x ∧ x < 3) ∧ f 2 = 7) ∧ (0 ≤ d ∧ d < 4) ∧ (0 ≤ t ∧ t ≤ 1) by omega)]
          · rw [if_neg (fun q => q ((gbD s).mpr e)), if_neg (show ¬ (((0 ≤ x ∧ x < 3) ∧ f 2 = 7) ∧ (0 ≤ d ∧ d < 4) ∧ (0 ≤ t ∧ t ≤ 1)) from fun q => e q.2.2)]
        · rw [if_pos ((gbD s).mpr b), if_neg (show ¬ (((0 ≤ x ∧ x < 3) ∧ f 2 = 7) ∧ (0 ≤ d ∧ d < 4) ∧ (0 ≤ t ∧ t ≤ 1)) by omega)]
      · rw [if_pos ((gbD s).mpr a), if_neg (show ¬ (((0 ≤ x ∧ x < 3) ∧ f 2 = 7) ∧ (0 ≤ d ∧ d < 4) ∧ (0 ≤ t ∧ t ≤ 1)) by omega)]
    · rw [if_pos ((gbD s).mpr h7), if_neg (show ¬ (((0 ≤ x ∧ x < 3) ∧ f 2 = 7) ∧ (0 ≤ d ∧ d < 4) ∧ (0 ≤ t ∧ t ≤ 1)) from fun q => h7 q.1.2)]
  by_cases ok : ((0 ≤ x ∧ x < 3) ∧ f 2 = 7) ∧ (0 ≤ d ∧ d < 4) ∧ (0 ≤ t ∧ t ≤ 1)
  · obtain ⟨⟨a, h7⟩, b, e⟩ := id ok
    obtain ⟨g, rfl⟩ : ∃ g : Nat, x = g := ⟨x.toNat, by omega⟩
    have hg : g < 3 := by omega
    rw [if_pos ok, if_pos a, Option.bind_some, vg_ g hg] at s1
    by_cases t1 : t = 1
    · obtain ⟨d, rfl⟩ : ∃ d' : Nat, d = d' := ⟨d.toNat, by omega⟩
      obtain ⟨D, u, u1, u2, u3, u4, u5, u6⟩ := CV_ready (w := 8) (by omega) v.1 h7 hg c
      have u1 : gm_19 (71 + 48 * g) 8 s = some u := u1
      have tm := (u4.2.2.2.2.2.2.1 u5).2
      have kc : KC s u := KG_KC (ga_of hg) u3
      have ru := RV_KC kc r
      have eu : u.1 216 = f := ru.1
      obtain ⟨p, w, p1, p2, p3, p4, p5, p6⟩ := sp_187f (s := u) (R := R) (C := C) (g := g) (by rw [eu]; exact v.1) (by rw [eu]; exact h7) hg ru.2.2.2.2
      rw [eu] at p6
      have s2 := s2 u eu
      rw [if_pos ok, if_neg (fun q => q t1), p1, Option.bind_some, p2, Option.bind_some, sp_183 (R := 8) p4 (by omega) (show d < 9 by omega), Option.bind_some] at s2
      rw [if_neg (fun q => q t1), u1, Option.bind_some, sp_76 (ga_of hg).2.2.2.2.2.1 (show d < 9 by omega), Option.bind_some] at s1
      have e : sg (fun x => w.2 224 (9 * x + d)) 8 = sg (fun x => u.1 (71 + 48 * g + 21 + 8) (9 * x + d)) 8 := sg_eq fun x hx => by
        rw [p6 x d hx (by omega), ((tm x hx).2.2 d (by omega)).2.2.2]
        rfl
      have s2 : gm_188 g d t u = some (sg (fun x => w.2 224 (9 * x + d)) 8, w) := s2
      rw [e] at s2
      exact ⟨_, u, w, s1, s2, q_inv kc u2 r v p3⟩
    · obtain ⟨D, u, u1, u2, u3, u4, u5, u6⟩ := CV_ready (w := 2) (by omega) v.1 h7 hg c
      have u1 : gm_19 (71 + 48 * g) 2 s = some u := u1
      have tm := (u4.2.2.2.2.1 u5).2.1
      have kc : KC s u := KG_KC (ga_of hg) u3
      have ru := RV_KC kc r
      have eu : u.1 216 = f := ru.1
      obtain ⟨p, w, p1, p2, p3, p4, p5, p6, p7⟩ := sp_181f (s := u) (R := R) (C := C) (g := g) (by rw [eu]; exact v.1) (by rw [eu]; exact h7) hg ru.2.2.2.2
      have wg : ∀ x y, x < 8 → y < 9 → w.2 224 (9 * x + y) = GV f R C g x y := fun x y hx hy => by
        have := ((p7 x hx).2.2 y hy).2
        rw [eu] at this
        exact this
      have t1' := sl_101 (a := 71 + 48 * g) v.1 u2.1 (ga_of hg).2.2.2.1 hd (fun x y hx hy => ((tm x hx).2.2 y hy).2.2.2) 100000 0 (by omega) (by omega)
      have t1' : gm_101_79 100000 d (71 + 48 * g) 0 0 u = _ := t1'
      have t2 := sl_188 v.1 ((KR_216 p4).trans eu) p5 hd wg 100000 0 (by omega) (by omega)
      have t2 : gm_188_73 100000 d 0 0 w = _ := t2
      have s2 := s2 u eu
      rw [if_pos ok, if_pos t1, p1, Option.bind_some, p2, Option.bind_some, t2] at s2
      rw [if_pos t1, u1, Option.bind_some, t1'] at s1
      exact ⟨_, u, w, s1, s2, q_inv kc u2 r v (KR_w p4)⟩
  · rw [if_neg ok] at s1
    exact ⟨-1, s, s, s1, (s2 s r.1).trans (if_neg ok), h⟩
end
section
/-! QUERIES: byWay -/
def wrow (f : Nat → Int) (R C g d : Nat) (b : Bool) (y : Nat) : Int := if dsc f y = (d : Int) then SO f R C g (-1) ((y : Nat) : Int) b else 0
theorem sl_190 {f : Nat → Int} {R C g d : Nat} (M : MP f R C) (h7 : f 2 = 7) (hg : g < 3) (hd : d < 4) (b : Bool) : ∀ (n y : Nat) (s : gx_S), 8 < n + y → y ≤ 8 → s.1 216 = f → ∃ u : gx_S, gm_190_3 n g d (gb b) y s = some u ∧ u.2 = s.2 ∧ (∀ k i, k ≠ 222 → u.1 k i = s.1 k i) ∧ (∀ y', y ≤ y' → y' < 8 → u.1 222 (9 * d + y') = wrow f R C g d b y') ∧ ∀ i, ¬ (9 * d + y ≤ i ∧ i < 9 * d + 8) → u.1 222 i = s.1 222 i := by
  intro n
  induction n with
  | zero => intro y s h; omega
  | succ n ih =>
    intro y s h hy ef
    rw [gm_190_3, if_pos (by omega)]
    by_cases q : y = 8
    · rw [if_pos (by omega)]
      exact ⟨s, rfl, rfl, fun _ _ _ => rfl, fun y' h1 h2 => by omega, fun _ _ => rfl⟩
    · have ce : ((y : Int) + 1) = ((y + 1 : Nat) : Int) := rfl
      have i1 : ((9 * (d : Int) + (y : Int))).toNat = 9 * d + y := by omega
      have dr := dsc_r M (show y < 9 by omega)
      rw [if_neg (by omega), sp_160, Option.bind_some]
      show ∃ u : gx_S, ((gm_186 y s).bind fun q6 => if (-2147483648 ≤ q6.1 ∧ q6.1 ≤ 2147483647) then (if (-2147483648 ≤ (d : Int) ∧ (d : Int) ≤ 2147483647) then (if ¬ q6.1 = (d : Int) then gm_190_43 (gm_190_3 n) g d (gb b) y (9 * (d : Int) + (y : Int)) 0 q6.2 else ((gm_157 g (-1) y (gb b) q6.2).bind fun q11 => gm_190_43 (gm_190_3 n) g d (gb b) y (9 * (d : Int) + (y : Int)) q11.1 q11.2)) else none) else none) = _ ∧ _
      rw [sp_186 ef (show y < 9 by omega), Option.bind_some, if_pos (by omega), if_pos (by omega)]
      have st : (if ¬ dsc f y = (d : Int) then gm_190_43 (gm_190_3 n) g d (gb b) y (9 * (d : Int) + (y : Int)) 0 s else ((gm_157 g (-1) y (gb b) s).bind fun q11 => gm_190_43 (gm_190_3 n) g d (gb b) y (9 * (d : Int) + (y : Int)) q11.1 q11.2)) = gm_190_3 n g d (gb b) ((y + 1 : Nat) : Int) (gw1 s 222 (9 * d + y) (wrow f R C g d b y)) := by
        have tail : ∀ v : Int, gm_190_43 (gm_190_3 n) g d (gb b) y (9 * (d : Int) + (y : Int)) v s = gm_190_3 n g d (gb b) ((y + 1 : Nat) : Int) (gw1 s 222 (9 * d + y) v) := fun v => by
          unfold gm_190_43
          rw [if_pos (by omega), i1, ce]
        unfold wrow
        by_cases z : dsc f y = (d : Int)
        · have c57 := sp_157g (s := s) (R := R) (C := C) (by rw [ef]; exact M) (by rw [ef]; exact h7) (-1) (y : Int) b hg (by omega) (by omega)
          rw [ef] at c57
          rw [if_neg (fun t => t z), if_pos z, c57, Option.bind_some]
          exact tail _
        · rw [if_pos z, if_neg z]
          exact tail 0
      show ∃ u : gx_S, (if ¬ dsc f y = (d : Int) then gm_190_43 (gm_190_3 n) g d (gb b) y (9 * (d : Int) + (y : Int)) 0 s else ((gm_157 g (-1) y (gb b) s).bind fun q11 => gm_190_43 (gm_190_3 n) g d (gb b) y (9 * (d : Int) + (y : Int)) q11.1 q11.2)) = _ ∧ _
      rw [st]
      obtain ⟨u, u1, u2, u3, u4, u5⟩ := ih (y + 1) (gw1 s 222 (9 * d + y) (wrow f R C g d b y)) (by omega) (by omega) (by
        funext i
        rw [gw1_1, if_neg (by omega), ef])
      refine ⟨u, u1, u2, fun k i h1 => by rw [u3 k i h1, gw1_1, if_neg (fun x => h1 x.1)], fun y' h1 h2 => ?_, fun i h1 => ?_⟩
      · by_cases e : y' = y
        · rw [e, u5 _ (by omega), gw1_1, if_pos ⟨rfl, rfl⟩]
        · exact u4 y' (by omega) h2
      · rw [u5 i (by omega), gw1_1, if_neg (by omega)]
theorem wrow_r {f : Nat → Int} {R C g d : Nat} (M : MP f R C) (h7 : f 2 = 7) (hg : g < 3) (b : Bool) (y : Nat) : 0 ≤ wrow f R C g d b y ∧ wrow f R C g d b y ≤ 864 := by
  unfold wrow
  split
  · exact SO_r M h7 hg (-1) y b
  · omega
theorem sl_189_70 {f P : Nat → Int} {R C g : Nat} {z : Int} (M : MP f R C) (h7 : f 2 = 7) (hg : g < 3) (hP : ∀ x, x < 4 → 0 ≤ P x ∧ P x ≤ 100000000) : ∀ (n d : Nat) (s : gx_S), 4 < n + d → d ≤ 4 → s.1 216 = f → s.1 215 18 = 8 → (∀ x, x < 4 → s.1 238 x = P x) → ∃ u : gx_S, gm_189_70 n g z d s = ((gm_173 u).bind fun q4 => (gm_183 z q4).bind fun q6 => some (q6.1, q6.2)) ∧ (∀ k i, k ≠ 222 → k ≠ 223 → u.1 k i = s.1 k i) ∧ (∀ k i, k ≠ 221 → u.2 k i = s.2 k i) ∧ (∀ x', d ≤ x' → x' < 4 → u.2 221 x' = P x' ∧ ∀ y, y < 8 → u.1 222 (9 * x' + y) = Awy f R C g x' y) ∧ (∀ i, i < d → u.2 221 i = s.2 221 i) ∧ ∀ i, i < 9 * d → u.1 222 i = s.1 222 i := by
  intro n
  induction n with
  | zero => intro d s h; omega
  | succ n ih =>
    intro d s h hd ef e18 hl
    rw [gm_189_70, if_pos (by omega)]
    by_cases q : d = 4
    · rw [if_pos (by omega)]
      exact ⟨s, rfl, fun _ _ _ _ => rfl, fun _ _ _ => rfl, fun x' h1 h2 => by omega, fun _ _ => rfl, fun _ _ => rfl⟩
    · have i5 : ((d : Int)).toNat = d := by omega
      have ce : ((d : Int) + 1) = ((d + 1 : Nat) : Int) := rfl
      have lr := hP d (by omega)
      rw [if_neg (by omega), if_pos (by omega), i5, hl d (by omega), if_pos (by omega), if_pos (by omega)]
      obtain ⟨a, ha⟩ : ∃ a, a = gw2 s 221 d (P d) := ⟨_, rfl⟩
      have a1 : ∀ k i, a.1 k i = s.1 k i := fun k i => by rw [ha]; rfl
      have ea : a.1 216 = f := by
        funext i
        rw [a1, ef]
      obtain ⟨b, b1, b2, b3, b4, b5⟩ := sl_190 M h7 hg (show d < 4 by omega) false 100000 0 a (by omega) (by omega) ea
      have b1 : gm_190 g d 0 a = some b := b1
      have b18 : b.1 215 18 = ((8 : Nat) : Int) := by rw [b3 215 18 (by decide), a1]; exact e18
      have sm : sg (fun c => b.1 222 (9 * d + c)) 8 = sg (fun y => wrow f R C g d false y) 8 := sg_eq fun y hy => b4 y (by omega) hy
      have smr : 0 ≤ sg (fun y => wrow f R C g d false y) 8 ∧ sg (fun y => wrow f R C g d false y) 8 ≤ 6912 := by
        refine ⟨sg_nn fun y _ => (wrow_r M h7 hg false y).1, ?_⟩
        exact Int.le_trans (sg_le (g := fun _ => 864) fun y _ => (wrow_r M h7 hg false y).2) (by decide)
      have c61 := sp_161 (s := b) (r := d) (m := 8) (by omega) (by omega) b18
      rw [sm] at c61
      obtain ⟨e, he⟩ : ∃ e, e = gw1 b 223 d (sg (fun y => wrow f R C g d false y) 8) := ⟨_, rfl⟩
      rw [← he] at c61
      have e1 : ∀ k i, k ≠ 223 → e.1 k i = b.1 k i := fun k i q => by rw [he, gw1_1, if_neg (by omega)]
      rw [← ha, b1, Option.bind_some, c61, Option.bind_some]
      show ∃ u : gx_S, (if (-2147483648 ≤ sg (fun y => wrow f R C g d false y) 8 ∧ sg (fun y => wrow f R C g d false y) 8 ≤ 2147483647) then (if ¬ sg (fun y => wrow f R C g d false y) 8 = 0 then gm_189_110 (gm_189_70 n) g z d e else ((gm_190 g d 1 e).bind fun q21 => gm_189_110 (gm_189_70 n) g z d q21)) else none) = _ ∧ _
      rw [if_pos (by omega)]
      -- the row as it is laid in the end
      have row : ∃ t : gx_S, (if ¬ sg (fun y => wrow f R C g d false y) 8 = 0 then gm_189_110 (gm_189_70 n) g z d e else ((gm_190 g d 1 e).bind fun q21 => gm_189_110 (gm_189_70 n) g z d q21)) = gm_189_70 n g z ((d + 1 : Nat) : Int) t ∧ t.2 = e.2 ∧ (∀ k i, k ≠ 222 → t.1 k i = e.1 k i) ∧ (∀ y, y < 8 → t.1 222 (9 * d + y) = Awy f R C g d y) ∧ ∀ i, ¬ (9 * d ≤ i ∧ i < 9 * d + 8) → t.1 222 i = e.1 222 i := by
        have aw : ∀ y, y < 8 → Awy f R C g d y = wrow f R C g d (decide (sg (fun y => wrow f R C g d false y) 8 = 0)) y := fun y hy => by
          unfold Awy
          by_cases z : dsc f y = (d : Int)
          · rw [if_pos ⟨hy, z⟩]
            show SO f R C g (-1) y (decide (sg (fun y => wrow f R C g d false y) 8 = 0)) = _
            show _ = (if dsc f y = (d : Int) then SO f R C g (-1) ((y : Nat) : Int) (decide (sg (fun y => wrow f R C g d false y) 8 = 0)) else 0)
            rw [if_pos z]
          · rw [if_neg (fun t => z t.2)]
            show _ = (if dsc f y = (d : Int) then SO f R C g (-1) ((y : Nat) : Int) (decide (sg (fun y => wrow f R C g d false y) 8 = 0)) else 0)
            rw [if_neg z]
        by_cases z0 : sg (fun y => wrow f R C g d false y) 8 = 0
        · have ee : e.1 216 = f := by
            funext i
            rw [e1 216 i (by decide), b3 216 i (by decide), ea]
          obtain ⟨t, t1, t2, t3, t4, t5⟩ := sl_190 M h7 hg (show d < 4 by omega) true 100000 0 e (by omega) (by omega) ee
          have t1 : gm_190 g d 1 e = some t := t1
          rw [if_neg (fun t => t z0), t1, Option.bind_some]
          refine ⟨t, rfl, t2, t3, fun y hy => ?_, fun i hi => t5 i (by omega)⟩
          rw [t4 y (by omega) hy, aw y hy, decide_eq_true z0]
        · rw [if_pos z0]
          refine ⟨e, rfl, rfl, fun _ _ _ => rfl, fun y hy => ?_, fun _ _ => rfl⟩
          rw [e1 222 _ (by decide), b4 y (by omega) hy, aw y hy, decide_eq_false z0]
      obtain ⟨t, t1, t2, t3, t4, t5⟩ := row
      have tk : ∀ k i, k ≠ 222 → k ≠ 223 → t.1 k i = s.1 k i := fun k i h1 h2 => by rw [t3 k i h1, e1 k i h2, b3 k i h1, a1]
      have tl : ∀ k i, t.2 k i = a.2 k i := fun k i => by rw [t2, he, gw1_2, b2]
      rw [t1]
      obtain ⟨u, u1, u2, u3, u4, u5, u6⟩ := ih (d + 1) t (by omega) (by omega) (by
        funext i
        rw [tk 216 i (by decide) (by decide), ef]) (by rw [tk 215 18 (by decide) (by decide)]; exact e18) (fun x hx => by rw [tk 238 x (by decide) (by decide)]; exact hl x hx)
      refine ⟨u, u1, fun k i h1 h2 => (u2 k i h1 h2).trans (tk k i h1 h2), fun k i h1 => ?_, fun x' h1 h2 => ?_, fun i h1 => ?_, fun i h1 => ?_⟩
      · rw [u3 k i h1, tl, ha, gw2_2, if_neg (fun x => h1 x.1)]
      · by_cases e' : x' = d
        · rw [e']
          refine ⟨?_, fun y hy => ?_⟩
          · rw [u5 d (by omega), tl, ha, gw2_2, if_pos ⟨rfl, rfl⟩]
          · rw [u6 _ (by omega), t4 y hy]
        · exact u4 x' (by omega) h2
      · rw [u5 i (by omega), tl, ha, gw2_2, if_neg (by omega)]
      · rw [u6 i (by omega), t5 i (by omega), e1 222 i (by decide), b5 i (by omega), a1]
theorem sl_189_39 {g : Nat} {z : Int} : ∀ (n x : Nat) (s : gx_S), 4 < n + x → x ≤ 4 → s.1 215 17 = 8 → ∃ u : gx_S, gm_189_39 n g z x s = ((gm_159 4 8 u).bind fun q4 => gm_189_70 100000 g z 0 q4) ∧ u.2 = s.2 ∧ (∀ k i, k ≠ 238 → u.1 k i = s.1 k i) ∧ ∀ j, u.1 238 j = if x ≤ j ∧ j < 4 then sg (fun r => s.2 224 (9 * r + j)) 8 else s.1 238 j := by
  intro n
  induction n with
  | zero => intro x s h; omega
  | succ n ih =>
    intro x s h hx e17
    rw [gm_189_39, if_pos (by omega)]
    by_cases q : x = 4
    · rw [if_pos (by omega)]
      exact ⟨s, rfl, rfl, fun _ _ _ => rfl, fun j => by rw [if_neg (by omega)]⟩
    · have ce : ((x : Int) + 1) = ((x + 1 : Nat) : Int) := rfl
      have i5 : ((x : Int)).toNat = x := by omega
      rw [if_neg (by omega), sp_183 (R := 8) e17 (by omega) (show x < 9 by omega), Option.bind_some, if_pos (by omega), i5, ce]
      obtain ⟨u, u1, u2, u3, u4⟩ := ih (x + 1) (gw1 s 238 x (sg (fun r => s.2 224 (9 * r + x)) 8)) (by omega) (by omega) (by rw [gw1_1, if_neg (by omega)]; exact e17)
      refine ⟨u, u1, u2, fun k i h1 => by rw [u3 k i h1, gw1_1, if_neg (fun x => h1 x.1)], fun j => ?_⟩
      rw [u4, gw1_1]
      by_cases y : j = x
      · rw [if_neg (by omega), if_pos ⟨rfl, y⟩, if_pos (by omega), y]
      · by_cases y2 : x + 1 ≤ j ∧ j < 4
        · rw [if_pos y2, if_pos (show x ≤ j ∧ j < 4 by omega)]
          rfl
        · rw [if_neg y2, if_neg (fun t => y t.2), if_neg (show ¬ (x ≤ j ∧ j < 4) by omega)]
end
section
/-! QUERIES: byWay, whole -/
theorem KRw_of2 {s u : gx_S} (h1 : ∀ k j, k ≠ 222 → k ≠ 223 → u.1 k j = s.1 k j) (h2 : ∀ k j, k ≠ 221 → u.2 k j = s.2 k j) : KRw s u := ⟨fun k j q => h1 k j (by omega) (by omega), fun k j q => h2 k j (by omega), fun S => ⟨fun j hj => by rw [h1 232 j (by decide) (by decide), h1 233 j (by decide) (by decide), h1 234 j (by decide) (by decide), h2 225 j (by decide)]; exact S.1 j hj, fun c hc => by rw [h1 235 c (by decide) (by decide), h2 229 c (by decide), h2 230 c (by decide), h2 227 c (by decide), h2 228 c (by decide)]; exact S.2.1 c hc, fun k hk => by rw [h2 231 k (by decide)]; exact S.2.2 k hk⟩⟩
theorem sg_48 (F : Nat → Int) (h : ∀ x, 4 ≤ x → x < 8 → F x = 0) : sg F 8 = sg F 4 := by
  have e : sg F 8 = sg F 4 + F 4 + F 5 + F 6 + F 7 := rfl
  rw [e, h 4 (by omega) (by omega), h 5 (by omega) (by omega), h 6 (by omega) (by omega), h 7 (by omega) (by omega)]
  omega
theorem inv_byWay {s : gx_S} (h : INV s) {x z : Int} (hx : i32 x) (hz : i32 z) : two s (gm_103 x z) (gm_189 x z) := by
  obtain ⟨f, R, C, n, pf, L, tb, c, r, v⟩ := id h
  have hx' := hx
  have hz' := hz
  unfold i32 at hx' hz'
  have e6 : s.1 1 6 = f 2 := c.1.2.2.1
  have c57 := sp_57 (s := s) (a := 1) (by decide +kernel) (by rw [e6]; exact v.1.2.1)
  rw [e6] at c57
  have c150 : ∀ t : gx_S, t.1 216 = f → gm_150 t = some (decide (f 2 = 7), t) := fun t et => by
    have := sp_150 (s := t) (by rw [et]; exact v.1.2.1)
    rw [et] at this
    exact this
  have s1 : gm_103 x z s = if (0 ≤ x ∧ x < 3) ∧ (0 ≤ z ∧ z < 8) ∧ f 2 = 7 then (if 0 ≤ x ∧ x < 3 then ((some (fx_rf 70 (x).toNat)).bind fun v27 => (gm_19 v27 16 s).bind fun q32 => (gm_76 (v27 + 30) z q32).bind fun q34 => some (q34.1, q34.2)) else none) else some (-1, s) := by
    unfold gm_103
    rw [sp_114 s hx, Option.bind_some]
    by_cases a : 0 ≤ x ∧ x < 3
    · rw [if_neg (fun q => (gbD s).mp q a)]
      show ((gm_115 z s).bind _) = _
      rw [sp_115 s hz, Option.bind_some]
      by_cases b : 0 ≤ z ∧ z < 8
      · rw [if_neg (fun q => (gbD s).mp q b)]
        show ((gm_57 1 s).bind _) = _
        rw [c57, Option.bind_some]
        by_cases h7 : f 2 = 7
        · rw [if_pos (fun q => (gbD s).mp q h7), if_pos (show (0 ≤ x ∧ x < 3) ∧ (0 ≤ z ∧ z < 8) ∧ f 2 = 7 from ⟨a, b, h7⟩)]
        · rw [if_neg (fun q => q ((gbD s).mpr h7)), if_neg (show ¬ ((0 ≤ x ∧ x < 3) ∧ (0 ≤ z ∧ z < 8) ∧ f 2 = 7) from fun q => h7 q.2.2)]
      · rw [if_pos ((gbD s).mpr b), if_neg (show ¬ ((0 ≤ x ∧ x < 3) ∧ (0 ≤ z ∧ z < 8) ∧ f 2 = 7) from fun q => b q.2.1)]
    · rw [if_pos ((gbD s).mpr a), if_neg (show ¬ ((0 ≤ x ∧ x < 3) ∧ (0 ≤ z ∧ z < 8) ∧ f 2 = 7) from fun q => a q.1)]
  have s2 : ∀ y : gx_S, y.1 216 = f → gm_189 x z y = if (0 ≤ x ∧ x < 3) ∧ (0 ≤ z ∧ z < 8) ∧ f 2 = 7 then ((gm_187 x y).bind fun q56 => (gm_173 q56).bind fun q58 => gm_189_39 100000 x z 0 q58) else some (-1, y) := fun y ey => by
    unfold gm_189
    rw [c150 y ey, Option.bind_some]
    by_cases h7 : f 2 = 7
    · rw [if_neg (fun q => (gbD s).mp q h7)]
      show ((gm_148 x y).bind _) = _
      rw [sp_148 y hx, Option.bind_some]
      by_cases a : 0 ≤ x ∧ x ≤ 2
      · rw [if_neg (fun q => (gbD s).mp q a), if_pos hz', in_ y hz (by omega) (by omega), Option.bind_some]
        by_cases b : 0 ≤ z ∧ z ≤ 7
        · rw [if_pos (fun q => (gbD s).mp q b), if_pos (show (0 ≤ x ∧ x < 3) ∧ (0 ≤ z ∧ z < 8) ∧ f 2 = 7 by omega)]
        · rw [if_neg (fun q => q ((gbD s).mpr b)), if_neg (show ¬ ((0 ≤ x ∧ x < 3) ∧ (0 ≤ z ∧ z < 8) ∧ f 2 = 7) by omega)]
      · rw [if_pos ((gbD s).mpr a), if_neg (show ¬ ((0 ≤ x ∧ x < 3) ∧ (0 ≤ z ∧ z < 8) ∧ f 2 = 7) by omega)]
    · rw [if_pos ((gbD s).mpr h7), if_neg (show ¬ ((0 ≤ x ∧ x < 3) ∧ (0 ≤ z ∧ z < 8) ∧ f 2 = 7) from fun q => h7 q.2.2)]
  by_cases ok : (0 ≤ x ∧ x < 3) ∧ (0 ≤ z ∧ z < 8) ∧ f 2 = 7
  · obtain ⟨a, b, h7⟩ := id ok
    obtain ⟨g, rfl⟩ : ∃ g : Nat, x = g := ⟨x.toNat, by omega⟩
    obtain ⟨z, rfl⟩ : ∃ z' : Nat, z = z' := ⟨z.toNat, by omega⟩
    have hg : g < 3 := by omega
    obtain ⟨D, u, u1, u2, u3, u4, u5, u6⟩ := CV_ready (w := 16) (by omega) v.1 h7 hg c
    have u1 : gm_19 (71 + 48 * g) 16 s = some u := u1
    have tm := u4.2.2.2.2.2.2.2.1 u5
    have kc : KC s u := KG_KC (ga_of hg) u3
    have ru := RV_KC kc r
    have eu : u.1 216 = f := ru.1
    obtain ⟨p, w, p1, p2, p3, p4, p5, p6⟩ := sp_187f (s := u) (R := R) (C := C) (g := g) (by rw [eu]; exact v.1) (by rw [eu]; exact h7) hg ru.2.2.2.2
    rw [eu] at p6
    obtain ⟨A1, A2, A3⟩ := PA_wy v.1 h7 hg
    obtain ⟨y, y1, y2, y3, y4⟩ := sl_189_39 (g := g) (z := (z : Int)) 100000 0 w (by omega) (by omega) p4
    have y1 : gm_189_39 100000 g z 0 w = _ := y1
    have yK : KRw w y := KRw_of (fun k j q => y3 k j (by omega)) fun k j _ => by rw [y2]
    have Ky := KRw_tr p3 yK
    obtain ⟨d, d1, d2, d3, d4, d5, d6, d7⟩ := KR_159 y 4 8
    have Kd := KRw_tr Ky (KR_w d2)
    have ed : d.1 216 = f := (KRw_216 Kd).trans eu
    have d38 : ∀ x, x < 4 → d.1 238 x = Pwy f R C g x := fun x hx => by
      rw [d6 238 x (by decide) (by decide), y4, if_pos (by omega)]
      unfold Pwy
      rw [if_pos hx]
      exact sg_eq fun q hq => p6 q x hq (by omega)
    obtain ⟨e, e1, e2, e3, e4, e5, e6'⟩ := sl_189_70 (z := (z : Int)) v.1 h7 hg (fun x hx => A1.1 x (by omega)) 100000 0 d (by omega) (by omega) ed d4 d38
    have e1 : gm_189_70 100000 g z 0 d = _ := e1
    have Ke := KRw_tr Kd (KRw_of2 e2 e3)
    have e17 : e.1 215 17 = ((4 : Nat) : Int) := by rw [e2 215 17 (by decide) (by decide)]; exact d3
    have e18 : e.1 215 18 = ((8 : Nat) : Int) := by rw [e2 215 18 (by decide) (by decide)]; exact d4
    obtain ⟨o, o1, o2, o3, o4, o5, o6⟩ := TB_ref (md := f 3) (r := e) (R := 4) (m := 8) v.1.2.2.1 A1 (Ke.2.2 ru.2.2.2.2) e17 e18 (by omega) (by omega) (fun _ => A2) (by rw [KRw_216 Ke, eu]) (fun x hx => (e4 x (by omega) hx).1) (fun x y hx hy => (e4 x (by omega) hx).2 y hy) (fun x y hx hy hn => A3 x y hx hy hn)
    have o17 : o.1 215 17 = ((4 : Nat) : Int) := by
      rw [o3.1 215 17 (by decide) (by decide) (by decide) (by decide) (by decide)]
      exact e17
    have s2 := s2 u eu
    rw [if_pos ok, p1, Option.bind_some, p2, Option.bind_some, y1, d1, Option.bind_some, e1, o1, Option.bind_some, sp_183 (R := 4) o17 (by omega) (show z < 9 by omega), Option.bind_some] at s2
    rw [if_pos ok, if_pos a, Option.bind_some, vg_ g hg, u1, Option.bind_some, sp_76 (ga_of hg).2.2.2.2.2.2.1 (show z < 9 by omega), Option.bind_some] at s1
    have s2 : gm_189 g z u = some (sg (fun x => o.2 224 (9 * x + z)) 4, o) := s2
    have ee : sg (fun x => u.1 (71 + 48 * g + 30 + 8) (9 * x + z)) 8 = sg (fun x => o.2 224 (9 * x + z)) 4 := by
      rw [sg_48 _ fun x h1 h2 => by
        rw [((tm x h2).2.2 z (by omega)).2.2.2]
        exact o6 x z h2 (by omega) (by omega)]
      exact sg_eq fun x hx => by rw [((tm x (by omega)).2.2 z (by omega)).2.2.2, o2 x z hx (by omega)]
    rw [← ee] at s2
    exact ⟨_, u, o, s1, s2, q_inv kc u2 r v (KRw_tr Ke (KR_w (KR_rc o3 o4)))⟩
  · rw [if_neg ok] at s1
    exact ⟨-1, s, s, s1, (s2 s r.1).trans (if_neg ok), h⟩
end
section
/-! NOBODY is lost: the lives, the moved -/
/-- by remainders: where there is no amount, nobody goes -/
theorem TB_Az {P : Nat → Int} {A : Nat → Nat → Int} (h : PA P A) {x y : Nat} (hx : x < 8) (hy : y < 9) (z : A x y = 0) : TB 0 P A x y = 0 := by
  obtain ⟨v, u, v1, u1, u2, u3, u4, u5⟩ := sp_41_0 (t := 74) (by decide +kernel) (cc_tf h)
  obtain ⟨v', w1, w2, w3, w4, w5, w6⟩ := sp_70 (t := 74) (by decide +kernel) (cc_tf h)
  have ev : v' = v := Option.some.inj (w1.symm.trans v1)
  rw [ev] at w4
  have a0 : am (cc P A) 74 x y = 0 := by rw [cc_am P A hy, z]
  have f0 : af (cc P A) 74 x y = 0 := by
    unfold af
    rw [a0, Int.mul_zero]
    split
    · rfl
    · exact Int.zero_ediv _
  have r0 : ar (cc P A) 74 x y = 0 := by
    unfold ar
    rw [a0, Int.mul_zero]
    split
    · rfl
    · exact Int.zero_emod _
  obtain ⟨y1, y2, y3, y4⟩ := (w4 x hx).2.2 y hy
  have e := u3 x y hx hy
  rw [gcn_z hy _ v (by rw [y3, r0]; omega), y4, f0] at e
  unfold TB
  rw [u1]
  exact e
theorem LV_n {f : Nat → Int} {R C g x : Nat} (M : MP f R C) (hg : g < 3) (hx : x < 8) (n : ¬ 0 < NC f R C 0 x) : LV f R C g x = 0 := by
  obtain ⟨p1, p2⟩ := PA_sh M hg
  have n0 := NC_nn f R C 0 x
  have l : L0 f R C g x = 0 := if_neg n
  have a : Ash f R C g 0 x = 0 := by
    unfold Ash
    rw [if_pos ⟨rfl, hx⟩, l]
    split <;> omega
  unfold LV
  rw [l, TB_Az p1 (by omega) (by omega) a]
  rfl
theorem LV_all {f : Nat → Int} {R C g : Nat} (M : MP f R C) (hg : g < 3) : sg (LV f R C g) 8 + ASf f R C g = sg (fun z => f (5 + 9 * g + z)) 9 := by
  obtain ⟨p1, p2⟩ := PA_sh M hg
  obtain ⟨l1, l2⟩ := L0_r M hg
  obtain ⟨t1, t2⟩ := TB_0 (md := 0) (.inl rfl) p1 (fun h => absurd h (by decide))
  have e := sg_add (L0 f R C g) (fun z => TB 0 (Psh f R C g) (Ash f R C g) 0 z) 8
  have a := t2 0 (by omega)
  have d : sg (fun z => TB 0 (Psh f R C g) (Ash f R C g) 0 z) 9 = sg (fun z => TB 0 (Psh f R C g) (Ash f R C g) 0 z) 8 + TB 0 (Psh f R C g) (Ash f R C g) 0 8 := rfl
  have n8 : TB 0 (Psh f R C g) (Ash f R C g) 0 8 = 0 := TB_Az p1 (by omega) (by omega) (p2 0 8 (by omega) (by omega) (by omega))
  have q0 : Psh f R C g 0 = UN f R C g - ASf f R C g := if_pos rfl
  have eL : sg (LV f R C g) 8 = sg (fun z => L0 f R C g z + TB 0 (Psh f R C g) (Ash f R C g) 0 z) 8 := rfl
  rw [q0] at a
  by_cases s : SHr f R C
  · have as0 : ASf f R C g = 0 := if_pos s
    have ex : ∃ z : Nat, z < 8 ∧ 0 < NC f R C 0 z := Classical.byContradiction fun q => by
      have : KD f R C 0 8 = 0 := sg_0 fun z hz => by
        unfold bi
        rw [if_neg (fun t => q ⟨z, hz, t⟩)]
      have := s.2
      omega
    obtain ⟨z, hz, nz⟩ := ex
    have Ann : ∀ y, y < 9 → 0 ≤ Ash f R C g 0 y := fun y hy => (p1.2.1 0 y (by omega) hy).1
    have tot : 0 < sg (fun y => Ash f R C g 0 y) 9 := by
      by_cases w : sg (L0 f R C g) 8 = 0
      · have q := sg_at (f := fun y => Ash f R C g 0 y) (n := 9) Ann z (by omega)
        have e : Ash f R C g 0 z = NC f R C 0 z := by
          unfold Ash
          rw [if_pos ⟨rfl, hz⟩, if_pos w]
        have q : Ash f R C g 0 z ≤ sg (fun y => Ash f R C g 0 y) 9 := q
        omega
      · have e : sg (fun y => Ash f R C g 0 y) 9 = sg (L0 f R C g) 8 := by
          show sg (fun y => Ash f R C g 0 y) 8 + Ash f R C g 0 8 = _
          rw [p2 0 8 (by omega) (by omega) (by omega), Int.add_zero]
          refine sg_eq fun y hy => ?_
          unfold Ash
          rw [if_pos ⟨rfl, hy⟩, if_neg w]
        have := sg_nn (f := L0 f R C g) (n := 8) l1
        omega
    rw [if_neg (by omega)] at a
    omega
  · have as0 : ASf f R C g = UN f R C g := if_neg s
    rw [as0] at a ⊢
    have a : sg (fun z => TB 0 (Psh f R C g) (Ash f R C g) 0 z) 9 = 0 := by
      rw [a]
      split <;> omega
    omega
theorem GV_all {f : Nat → Int} {R C g : Nat} (M : MP f R C) (h7 : f 2 = 7) (hg : g < 3) : sg (fun x => sg (fun y => GV f R C g x y) 9) 8 = sg (fun z => f (5 + 9 * g + z)) 9 - ASf f R C g := by
  obtain ⟨p1, p2⟩ := PA_mv M h7 hg
  obtain ⟨t1, t2⟩ := TB_0 (md := f 3) M.2.2.1 p1 (fun _ => p2)
  have e : sg (fun x => sg (fun y => GV f R C g x y) 9) 8 = sg (LV f R C g) 8 := sg_eq fun x hx => by
    have a : sg (fun y => GV f R C g x y) 9 = if sg (fun y => PMV f R C g x y) 9 ≤ 0 then 0 else LV f R C g x := t2 x hx
    rw [a]
    by_cases z : sg (fun y => PMV f R C g x y) 9 ≤ 0
    · rw [if_pos z]
      have s : sg (fun y => PMV f R C g x y) 9 = SO f R C g x (-1) (decide (SO f R C g x (-1) false = 0)) := SO_row M h7 x _
      have r := SO_r M h7 hg x (-1) (decide (SO f R C g x (-1) false = 0))
      exact (LV_n M hg hx ((tot_0 M h7 hg).mp (by omega))).symm
    · rw [if_neg z]
  have := LV_all M hg
  omega
/-! QUERIES: count -/
theorem sp_63 {s : gx_S} {f : Nat → Int} {R C : Nat} (m : MR s 1 f R C) (M : MP f R C) (l k : Nat) (hl : l < 3) (hk : k ≤ 8) : gm_63 1 l k s = some (KD f R C l k, s) := by
  have e : ∀ (n j : Nat), k < n + j → j ≤ k → gm_63_5 n 1 l k (KD f R C l j) j s = some (KD f R C l k, s) := by
    intro n
    induction n with
    | zero => intro j h; omega
    | succ n ih =>
      intro j h hj
      rw [gm_63_5, if_pos (by omega), if_pos (by omega)]
      by_cases q : j = k
      · rw [if_pos (by omega), q]
      · have ce : ((j : Int) + 1) = ((j + 1 : Nat) : Int) := rfl
        have n1 := NC_nn f R C l j
        have hRC := RC_96 M.1.2.2.1 M.1.2.2.2
        rw [← Int.natCast_mul] at n1
        rw [if_neg (by omega), sp_62g m M l j hl (by omega), Option.bind_some]
        show (if -2147483648 ≤ NC f R C l j ∧ NC f R C l j ≤ 2147483647 then (if NC f R C l j ≤ 0 then gm_63_24 (gm_63_5 n) 1 l k (KD f R C l j) j s else gm_63_24 (gm_63_5 n) 1 l k (KD f R C l j + 1) j s) else none) = _
        rw [if_pos (by omega)]
        unfold gm_63_24
        have st : KD f R C l (j + 1) = KD f R C l j + bi (0 < NC f R C l j) := rfl
        by_cases z : NC f R C l j ≤ 0
        · have b : bi (0 < NC f R C l j) = 0 := if_neg (by omega)
          rw [b, Int.add_zero] at st
          rw [if_pos z, ce, ← st]
          exact ih (j + 1) (by omega) (by omega)
        · have b : bi (0 < NC f R C l j) = 1 := if_pos (by omega)
          rw [b] at st
          rw [if_neg z, ce, ← st]
          exact ih (j + 1) (by omega) (by omega)
  unfold gm_63
  rw [if_pos (by decide +kernel)]
  exact e 100000 0 (by omega) (by omega)
end
section
/-! QUERIES: count, whole -/
/-- those moved, or left aside, in all groups up to n -/
def mva (f : Nat → Int) (R C n : Nat) : Int := sg (fun g => sg (fun z => f (5 + 9 * g + z)) 9 - ASf f R C g) n
def asa (f : Nat → Int) (R C n : Nat) : Int := sg (fun g => ASf f R C g) n
theorem sl_126 {f : Nat → Int} {R C n L : Nat} {pf : Nat → Nat → Int} {tb : Nat → Int} (M : MP f R C) (h7 : f 2 = 7) (b : Bool) : ∀ (m g : Nat) (s : gx_S), 3 < m + g → g ≤ 3 → CV s f R C n pf L tb → ∃ u : gx_S, gm_126_4 m (gb b) (if b = true then mva f R C g else asa f R C g) g s = some ((if b = true then mva f R C 3 else asa f R C 3), u) ∧ CV u f R C n pf L tb ∧ KC s u := by
  intro m
  induction m with
  | zero => intro g s h; omega
  | succ m ih =>
    intro g s h hg c
    rw [gm_126_4, if_pos (by omega)]
    by_cases q : g = 3
    · rw [if_pos (by omega), q]
      exact ⟨s, rfl, c, KC_rfl s⟩
    · have e6 : s.1 1 6 = f 2 := c.1.2.2.1
      have c57 := sp_57 (s := s) (a := 1) (by decide +kernel) (by rw [e6]; exact M.2.1)
      rw [e6] at c57
      have ce : ((g : Int) + 1) = ((g + 1 : Nat) : Int) := rfl
      obtain ⟨D, t, t1, t2, t3, t4, t5⟩ := CV_20 M (show g < 3 by omega) c
      obtain ⟨l1, l2, l3⟩ := t4.2.2.2.1 t5
      have kt : KC s t := KG_KC (ga_of (by omega)) t3
      rw [if_neg (by omega), c57, Option.bind_some, if_neg (fun t => (gbD s).mp t h7), if_pos (by omega), Option.bind_some, vg_ g (by omega)]
      show ∃ u : gx_S, ((gm_20 (71 + 48 * g) s).bind _) = _ ∧ _
      rw [t1, Option.bind_some]
      cases b with
      | false =>
        rw [if_pos (by decide), if_pos (show gb false = 0 from rfl)]
        unfold gm_126_59
        rw [l3, ce]
        have st : (if false = true then mva f R C g else asa f R C g) + ASf f R C g = (if false = true then mva f R C (g + 1) else asa f R C (g + 1)) := rfl
        rw [st]
        obtain ⟨u, u1, u2, u3⟩ := ih (g + 1) t (by omega) (by omega) t2
        exact ⟨u, u1, u2, KC_tr kt u3⟩
      | true =>
        rw [if_pos (by decide), if_neg (show ¬ gb true = 0 by decide), sp_66g t2.1 (show g < 3 by omega), Option.bind_some]
        unfold gm_126_59
        show ∃ u : gx_S, gm_126_4 m (gb true) ((if true = true then mva f R C g else asa f R C g) + (sg (fun z => f (5 + 9 * g + z)) 9 - (t.1 (71 + 48 * g) 7))) ((g : Int) + 1) t = _ ∧ _
        rw [l3, ce]
        have st : (if true = true then mva f R C g else asa f R C g) + (sg (fun z => f (5 + 9 * g + z)) 9 - ASf f R C g) = (if true = true then mva f R C (g + 1) else asa f R C (g + 1)) := rfl
        rw [st]
        obtain ⟨u, u1, u2, u3⟩ := ih (g + 1) t (by omega) (by omega) t2
        exact ⟨u, u1, u2, KC_tr kt u3⟩
theorem sl_224 {f : Nat → Int} {R C : Nat} (M : MP f R C) (h7 : f 2 = 7) : ∀ (m g : Nat) (s : gx_S), 3 < m + g → g ≤ 3 → s.1 216 = f → SC s → ∃ u : gx_S, gm_224_4 m (mva f R C g) g s = some (mva f R C 3, u) ∧ KRw s u := by
  intro m
  induction m with
  | zero => intro g s h; omega
  | succ m ih =>
    intro g s h hg ef S
    rw [gm_224_4, if_pos (by omega)]
    by_cases q : g = 3
    · rw [if_pos (by omega), q]
      exact ⟨s, rfl, KRw_rf s⟩
    · have ce : ((g : Int) + 1) = ((g + 1 : Nat) : Int) := rfl
      have c150 : gm_150 s = some (decide (f 2 = 7), s) := by
        have := sp_150 (s := s) (by rw [ef]; exact M.2.1)
        rw [ef] at this
        exact this
      obtain ⟨a, w, a1, w1, a2, w2, w3, w4, w5⟩ := sp_181f (s := s) (R := R) (C := C) (g := g) (by rw [ef]; exact M) (by rw [ef]; exact h7) (by omega) S
      rw [if_neg (by omega), c150, Option.bind_some, if_neg (fun t => (gbD s).mp t h7)]
      show ∃ u : gx_S, ((gm_181 g s).bind _) = _ ∧ _
      rw [a1, Option.bind_some, w1, Option.bind_some, sp_184 (R := 8) (m := 9) w3 w4 (by omega) (by omega), Option.bind_some]
      have e : sg (fun x => sg (fun y => w.2 224 (9 * x + y)) 9) 8 = sg (fun z => f (5 + 9 * g + z)) 9 - ASf f R C g := by
        rw [← GV_all M h7 (show g < 3 by omega)]
        exact sg_eq fun x hx => sg_eq fun y hy => by
          have := ((w5 x hx).2.2 y hy).2
          rw [ef] at this
          exact this
      show ∃ u : gx_S, gm_224_4 m (mva f R C g + sg (fun x => sg (fun y => w.2 224 (9 * x + y)) 9) 8) ((g : Int) + 1) w = _ ∧ _
      rw [e, ce]
      obtain ⟨u, u1, u2⟩ := ih (g + 1) w (by omega) (by omega) ((KR_216 w2).trans ef) (w2.2.2 S)
      exact ⟨u, u1, KRw_tr (KR_w w2) u2⟩
theorem sl_225 {f : Nat → Int} {R C : Nat} {s : gx_S} (M : MP f R C) (h7 : f 2 = 7) (ef : s.1 216 = f) : ∀ (m g : Nat), 3 < m + g → g ≤ 3 → gm_225_4 m (asa f R C g) g s = some (asa f R C 3, s) := by
  intro m
  induction m with
  | zero => intro g h; omega
  | succ m ih =>
    intro g h hg
    rw [gm_225_4, if_pos (by omega)]
    by_cases q : g = 3
    · rw [if_pos (by omega), q]
      rfl
    · have ce : ((g : Int) + 1) = ((g + 1 : Nat) : Int) := rfl
      have c150 : gm_150 s = some (decide (f 2 = 7), s) := by
        have := sp_150 (s := s) (by rw [ef]; exact M.2.1)
        rw [ef] at this
        exact this
      have c176 := sp_176 (s := s) (R := R) (C := C) (g := g) (by rw [ef]; exact M) (by omega)
      rw [ef] at c176
      rw [if_neg (by omega), c150, Option.bind_some, if_neg (fun t => (gbD s).mp t h7)]
      show ((gm_176 g s).bind _) = _
      rw [c176, Option.bind_some, ce]
      exact ih (g + 1) (by omega) (by omega)
theorem inv_count {s : gx_S} (h : INV s) {x : Int} (hx : i32 x) : two s (gm_111 x) (gm_226 x) := by
  obtain ⟨f, R, C, n, pf, L, tb, c, r, v⟩ := id h
  have hx' := hx
  unfold i32 at hx'
  have ef : s.1 216 = f := r.1
  have m := c.1
  have Ms : MP (s.1 216) R C := by rw [ef]; exact v.1
  have e6 : s.1 1 6 = f 2 := c.1.2.2.1
  have c57 := sp_57 (s := s) (a := 1) (by decide +kernel) (by rw [e6]; exact v.1.2.1)
  rw [e6] at c57
  have c150 : gm_150 s = some (decide (f 2 = 7), s) := by
    have := sp_150 (s := s) (by rw [ef]; exact v.1.2.1)
    rw [ef] at this
    exact this
  unfold two gm_111 gm_226
  rw [if_pos hx']
  by_cases x0 : x = 0
  · rw [if_pos x0, sp_58 (MR_cz m v.1), Option.bind_some]
    refine ⟨_, s, s, rfl, ?_, h⟩
    rw [if_pos hx', if_pos x0]
    unfold gm_151
    rw [Option.bind_some, ef, v.1.1.1, v.1.1.2.1, Int.natCast_mul]
  · rw [if_neg x0]
    by_cases x1 : x = 1
    · rw [if_pos x1]
      refine ⟨_, s, s, rfl, ?_, h⟩
      rw [if_pos hx', if_neg x0, if_pos x1, ef, m.1]
    · rw [if_neg x1]
      by_cases x2 : x = 2
      · have c63 := sp_63 m v.1 0 8 (by omega) (by omega)
        have c154 := sp_154 Ms 0 8 (by omega) (by omega)
        rw [ef] at c154
        have c63 : gm_63 1 0 8 s = _ := c63
        have c154 : gm_154 0 8 s = _ := c154
        rw [if_pos x2, c63, Option.bind_some]
        refine ⟨_, s, s, rfl, ?_, h⟩
        rw [if_pos hx', if_neg x0, if_neg x1, if_pos x2, c154, Option.bind_some]
      · rw [if_neg x2]
        by_cases x3 : x = 3
        · have c63 := sp_63 m v.1 1 8 (by omega) (by omega)
          have c154 := sp_154 Ms 1 8 (by omega) (by omega)
          rw [ef] at c154
          have c63 : gm_63 1 1 8 s = _ := c63
          have c154 : gm_154 1 8 s = _ := c154
          rw [if_pos x3, c63, Option.bind_some]
          refine ⟨_, s, s, rfl, ?_, h⟩
          rw [if_pos hx', if_neg x0, if_neg x1, if_neg x2, if_pos x3, c154, Option.bind_some]
        · rw [if_neg x3]
          by_cases x4 : x = 4
          · have c63 := sp_63 m v.1 2 4 (by omega) (by omega)
            have c154 := sp_154 Ms 2 4 (by omega) (by omega)
            rw [ef] at c154
            have c63 : gm_63 1 2 4 s = _ := c63
            have c154 : gm_154 2 4 s = _ := c154
            rw [if_pos x4, c63, Option.bind_some]
            refine ⟨_, s, s, rfl, ?_, h⟩
            rw [if_pos hx', if_neg x0, if_neg x1, if_neg x2, if_neg x3, if_pos x4, c154, Option.bind_some]
          · rw [if_neg x4]
            by_cases x5 : x = 5
            · rw [if_pos x5]
              refine ⟨_, s, s, rfl, ?_, h⟩
              rw [if_pos hx', if_neg x0, if_neg x1, if_neg x2, if_neg x3, if_neg x4, if_pos x5, ef, m.2.2.2.1]
            · rw [if_neg x5]
              by_cases x6 : x = 6
              · rw [if_pos x6]
                refine ⟨_, s, s, rfl, ?_, h⟩
                rw [if_pos hx', if_neg x0, if_neg x1, if_neg x2, if_neg x3, if_neg x4, if_neg x5, if_pos x6, ef, m.2.2.2.2.1]
              · rw [if_neg x6]
                by_cases x7 : x = 7
                · rw [if_pos x7]
                  refine ⟨_, s, s, rfl, ?_, h⟩
                  rw [if_pos hx', if_neg x0, if_neg x1, if_neg x2, if_neg x3, if_neg x4, if_neg x5, if_neg x6, if_pos x7, ef, e6]
                · rw [if_neg x7]
                  by_cases x8 : x = 8
                  · obtain ⟨_, p, _, _, p2, _⟩ := c.2.2.1
                    rw [if_pos x8]
                    refine ⟨_, s, s, rfl, ?_, h⟩
                    rw [if_pos hx', if_neg x0, if_neg x1, if_neg x2, if_neg x3, if_neg x4, if_neg x5, if_neg x6, if_neg x7, if_pos x8, p2, r.2.1.1]
                  · rw [if_neg x8]
                    by_cases x9 : x = 9
                    · rw [if_pos x9]
                      refine ⟨_, s, s, rfl, ?_, h⟩
                      rw [if_pos hx', if_neg x0, if_neg x1, if_neg x2, if_neg x3, if_neg x4, if_neg x5, if_neg x6, if_neg x7, if_neg x8, if_pos x9, c.2.2.2.1, r.2.2.1]
                    · rw [if_neg x9]
                      by_cases x10 : x = 10
                      · rw [if_pos x10]
                        by_cases h7 : f 2 = 7
                        · obtain ⟨u, u1, u2, u3⟩ := sl_126 v.1 h7 true 100000 0 s (by omega) (by omega) c
                          have u1 : gm_126 1 s = some (mva f R C 3, u) := u1
                          have ru := RV_KC u3 r
                          obtain ⟨w, w1, w2⟩ := sl_224 v.1 h7 100000 0 u (by omega) (by omega) ru.1 ru.2.2.2.2
                          have w1 : gm_224 u = some (mva f R C 3, w) := w1
                          rw [u1, Option.bind_some]
                          refine ⟨_, u, w, rfl, ?_, q_inv u3 u2 r v w2⟩
                          rw [if_pos hx', if_neg x0, if_neg x1, if_neg x2, if_neg x3, if_neg x4, if_neg x5, if_neg x6, if_neg x7, if_neg x8, if_neg x9, if_pos x10, w1, Option.bind_some]
                        · have g1 : gm_126 1 s = some (0, s) := by
                            unfold gm_126
                            rw [show (100000 : Nat) = 99999 + 1 from rfl, gm_126_4, if_pos (by decide), if_neg (by decide), c57, Option.bind_some, if_pos ((gbD s).mpr h7)]
                            rfl
                          have g2 : gm_224 s = some (0, s) := by
                            unfold gm_224
                            rw [show (100000 : Nat) = 99999 + 1 from rfl, gm_224_4, if_pos (by decide), if_neg (by decide), c150, Option.bind_some, if_pos ((gbD s).mpr h7)]
                            rfl
                          rw [g1, Option.bind_some]
                          refine ⟨_, s, s, rfl, ?_, h⟩
                          rw [if_pos hx', if_neg x0, if_neg x1, if_neg x2, if_neg x3, if_neg x4, if_neg x5, if_neg x6, if_neg x7, if_neg x8, if_neg x9, if_pos x10, g2, Option.bind_some]
                      · rw [if_neg x10]
                        by_cases x11 : x = 11
                        · rw [if_pos x11]
                          by_cases h7 : f 2 = 7
                          · obtain ⟨u, u1, u2, u3⟩ := sl_126 v.1 h7 false 100000 0 s (by omega) (by omega) c
                            have u1 : gm_126 0 s = some (asa f R C 3, u) := u1
                            have ru := RV_KC u3 r
                            have w1 := sl_225 v.1 h7 ru.1 100000 0 (by omega) (by omega)
                            have w1 : gm_225 u = some (asa f R C 3, u) := w1
                            rw [u1, Option.bind_some]
                            refine ⟨_, u, u, rfl, ?_, q_inv u3 u2 r v (KRw_rf u)⟩
                            rw [if_pos hx', if_neg x0, if_neg x1, if_neg x2, if_neg x3, if_neg x4, if_neg x5, if_neg x6, if_neg x7, if_neg x8, if_neg x9, if_neg x10, if_pos x11, w1, Option.bind_some]
                          · have g1 : gm_126 0 s = some (0, s) := by
                              unfold gm_126
                              rw [show (100000 : Nat) = 99999 + 1 from rfl, gm_126_4, if_pos (by decide), if_neg (by decide), c57, Option.bind_some, if_pos ((gbD s).mpr h7)]
                              rfl
                            have g2 : gm_225 s = some (0, s) := by
                              unfold gm_225
                              rw [show (100000 : Nat) = 99999 + 1 from rfl, gm_225_4, if_pos (by decide), if_neg (by decide), c150, Option.bind_some, if_pos ((gbD s).mpr h7)]
                              rfl
                            rw [g1, Option.bind_some]
                            refine ⟨_, s, s, rfl, ?_, h⟩
                            rw [if_pos hx', if_neg x0, if_neg x1, if_neg x2, if_neg x3, if_neg x4, if_neg x5, if_neg x6, if_neg x7, if_neg x8, if_neg x9, if_neg x10, if_pos x11, g2, Option.bind_some]
                        · rw [if_neg x11]
                          refine ⟨_, s, s, rfl, ?_, h⟩
                          rw [if_pos hx', if_neg x0, if_neg x1, if_neg x2, if_neg x3, if_neg x4, if_neg x5, if_neg x6, if_neg x7, if_neg x8, if_neg x9, if_neg x10, if_neg x11]
end
section
/-! QUERIES: exact: Euclid's steps, fewer than a hundred -/
def Fb : Nat → Nat → Nat → Bool
  | 0, p, q => p == 1 && q == 1
  | n + 1, p, q => decide (p ≤ q) && Fb n (q - p) p
theorem sl_128f : ∀ (n fu p q a b j : Nat) (s : gx_S), Fb n p q = true → b < a → (b < p ∨ a < q) → j + n < 100 → n < fu → a ≤ 9000000000000000000 → gm_128_9 fu a b j s = some (((Nat.gcd a b : Nat) : Int), s) := by
  intro n
  induction n with
  | zero =>
    intro fu p q a b j s h hb hh hj hf ha
    obtain ⟨fu, rfl⟩ : ∃ m, fu = m + 1 := ⟨fu - 1, by omega⟩
    have h : (p == 1 && q == 1) = true := h
    rw [Bool.and_eq_true, beq_iff_eq, beq_iff_eq] at h
    have b0 : b = 0 := by omega
    subst b0
    rw [gm_128_9, Nat.gcd_zero_right, if_pos (by omega), if_neg (by omega), if_pos (by decide), if_pos (show ((0 : Nat) : Int) = 0 from rfl)]
    rfl
  | succ n ih =>
    intro fu p q a b j s h hb hh hj hf ha
    obtain ⟨fu, rfl⟩ : ∃ m, fu = m + 1 := ⟨fu - 1, by omega⟩
    have h : (decide (p ≤ q) && Fb n (q - p) p) = true := h
    rw [Bool.and_eq_true, decide_eq_true_eq] at h
    rw [gm_128_9, if_pos (by omega), if_neg (by omega), if_pos (by omega)]
    by_cases b0 : b = 0
    · subst b0
      rw [Nat.gcd_zero_right, if_pos (show ((0 : Nat) : Int) = 0 from rfl)]
      rfl
    · have e1 : (a : Int) % (b : Int) = ((a % b : Nat) : Int) := rfl
      have c1 : ((j : Int) + 1) = ((j + 1 : Nat) : Int) := rfl
      have m1 := Nat.mod_lt a (Nat.pos_of_ne_zero b0)
      have g1 : Nat.gcd a b = Nat.gcd b (a % b) := by rw [Nat.gcd_comm a b, Nat.gcd_rec b a, Nat.gcd_comm]
      have ab : b + a % b ≤ a := by
        have d := Nat.div_add_mod a b
        have d1 : 1 ≤ a / b := (Nat.one_le_div_iff (Nat.pos_of_ne_zero b0)).mpr (by omega)
        have d2 := Nat.mul_le_mul_left b d1
        omega
      rw [if_neg (by omega), if_pos (by omega), e1, c1, g1]
      exact ih fu (q - p) p b (a % b) (j + 1) s h.2 m1 (by omega) (by omega) (by omega) (by omega)
theorem sp_128f (s : gx_S) {a b : Nat} (ha : a < b) (hb : b ≤ 20000000000000000) : gm_128 a b s = some (((Nat.gcd a b : Nat) : Int), s) := by
  unfold gm_128
  have e1 : (a : Int) % (b : Int) = (a : Int) := Int.emod_eq_of_lt (by omega) (by omega)
  have i := sl_128f 78 99999 14472334024676221 23416728348467685 b a 1 s (by decide +kernel) ha (.inr (by omega)) (by omega) (by omega) (by omega)
  rw [show (100000 : Nat) = 99999 + 1 from rfl, gm_128_9, if_pos (by decide), if_neg (by decide), if_pos (by omega), if_neg (by omega), if_pos (by omega), e1, Nat.gcd_comm]
  exact i
theorem sp_127f (s : gx_S) {a b : Nat} {w : Int} (ha : a < b) (hb : b ≤ 20000000000000000) (hw : i32 w) : gm_127 a b w s = some ((if ¬ w = 0 then (b : Int) else (a : Int)) / ((Nat.gcd a b : Nat) : Int), s) := by
  unfold i32 at hw
  have b0 : 0 < b := by omega
  have g0 : 0 < Nat.gcd a b := Nat.gcd_pos_of_pos_right a b0
  have g1 : Nat.gcd a b ≤ b := Nat.gcd_le_right a b0
  unfold gm_127
  rw [sp_128f s ha hb, Option.bind_some]
  show (if (-9223372036854775808 ≤ ((Nat.gcd a b : Nat) : Int) ∧ ((Nat.gcd a b : Nat) : Int) ≤ 9223372036854775807) then (if ¬ ((Nat.gcd a b : Nat) : Int) = 0 then (if (-2147483648 ≤ w ∧ w ≤ 2147483647) then (if ¬ w = 0 then gm_127_28 ((Nat.gcd a b : Nat) : Int) b s else gm_127_28 ((Nat.gcd a b : Nat) : Int) a s) else none) else some ((-1), s)) else none) = _
  rw [if_pos (by omega), if_pos (show ¬ ((Nat.gcd a b : Nat) : Int) = 0 by omega), if_pos hw]
  unfold gm_127_28
  by_cases z : ¬ w = 0
  · rw [if_pos z, if_pos z, if_pos (by omega)]
  · rw [if_neg z, if_neg z, if_pos (by omega)]
theorem sp_194f (s : gx_S) {a b : Nat} {w : Int} (ha : a < b) (hb : b ≤ 20000000000000000) (hw : i32 w) : gm_194 a b w s = some ((if ¬ w = 0 then (b : Int) else (a : Int)) / ((Nat.gcd a b : Nat) : Int), s) := by
  unfold i32 at hw
  have b0 : 0 < b := by omega
  have g0 : 0 < Nat.gcd a b := Nat.gcd_pos_of_pos_right a b0
  have g1 : Nat.gcd a b ≤ b := Nat.gcd_le_right a b0
  have c : gm_164 a b s = some (((Nat.gcd a b : Nat) : Int), s) := sl_164 60 100000 a b s (by omega) (by omega) (by omega) (by omega)
  unfold gm_194
  rw [c, Option.bind_some, if_pos hw]
  by_cases z : ¬ w = 0
  · rw [if_pos z, if_pos z, if_pos (by omega)]
  · rw [if_neg z, if_neg z, if_pos (by omega)]
theorem cm_c {v w : Nat → Int} : ∀ {n : Nat}, (∀ k, k < n → v k = w k) → cm v n = cm w n
  | 0, _ => rfl
  | n + 1, h => by
    show (if v n ≤ 0 then cm v n else Nat.lcm (cm v n) (v n).toNat) = (if w n ≤ 0 then cm w n else Nat.lcm (cm w n) (w n).toNat)
    rw [h n (by omega), cm_c (n := n) fun k hk => h k (by omega)]
theorem sl_77 {t c : Nat} {s : gx_S} (hc : c < 9) : ∀ (n j : Nat), 8 < n + j → j ≤ 8 → gm_77_4 n t c (sg (fun r => s.1 (t + 6) (9 * r + c)) j) j s = some (sg (fun r => s.1 (t + 6) (9 * r + c)) 8, s) := by
  intro n
  induction n with
  | zero => intro j h; omega
  | succ n ih =>
    intro j h hj
    rw [gm_77_4, if_pos (by omega)]
    by_cases q : j = 8
    · rw [if_pos (by omega), q]
    · have ce : ((j : Int) + 1) = ((j + 1 : Nat) : Int) := rfl
      rw [if_neg (by omega), if_pos (by omega), show (((j : Int) * 9) + (c : Int)).toNat = 9 * j + c by omega, ce]
      exact ih (j + 1) (by omega) (by omega)
theorem sp_77 {t c : Nat} {s : gx_S} (ht : fx_oc t 7 = true) (hc : c < 9) : gm_77 t c s = some (sg (fun r => s.1 (t + 6) (9 * r + c)) 8, s) := by
  unfold gm_77
  rw [if_pos ht]
  exact sl_77 hc 100000 0 (by omega) (by omega)
end
