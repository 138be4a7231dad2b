/-! CALLS: feed -/
def app (tb : Nat → Int) (L : Nat) (x : Int) (i : Nat) : Int := if i = L then cby x 24 else if i = L + 1 then cby x 16 else if i = L + 2 then cby x 8 else if i = L + 3 then cby x 0 else tb i
def ap1 (tb : Nat → Int) (L : Nat) (v : Int) (i : Nat) : Int := if i = L then v else tb i
theorem app_1 (tb : Nat → Int) (L : Nat) (x : Int) (i : Nat) : ap1 (ap1 (ap1 (ap1 tb L (cby x 24)) (L + 1) (cby x 16)) (L + 2) (cby x 8)) (L + 3) (cby x 0) i = app tb L x i := by
  unfold ap1 app
  by_cases a : i = L
  · rw [if_neg (by omega), if_neg (by omega), if_neg (by omega), if_pos a, if_pos a]
  · rw [if_neg a, if_neg a]
    by_cases b : i = L + 1
    · rw [if_neg (by omega), if_neg (by omega), if_pos b, if_pos b]
    · rw [if_neg b, if_neg b]
      by_cases c : i = L + 2
      · rw [if_neg (by omega), if_pos c, if_pos c]
      · rw [if_neg c, if_neg c]
def TAc (s : gx_S) (L : Nat) (tb : Nat → Int) : Prop := s.1 14 1 = L ∧ ∀ i, i < L → s.1 15 i = tb i
def TAr (s : gx_S) (L : Nat) (tb : Nat → Int) : Prop := s.1 215 4 = L ∧ ∀ i, i < L → (Int32.ofInt (s.1 218 i) &&& Int32.ofInt 255).toInt = tb i
def FC (s u : gx_S) : Prop := u.2 = s.2 ∧ ∀ k j, k ≠ 15 → ¬ (k = 14 ∧ j = 1) → u.1 k j = s.1 k j
def FR_ (s u : gx_S) : Prop := u.2 = s.2 ∧ ∀ k j, k ≠ 218 → ¬ (k = 215 ∧ j = 4) → u.1 k j = s.1 k j
theorem FC_tr {s t u : gx_S} (a : FC s t) (b : FC t u) : FC s u := ⟨b.1.trans a.1, fun k j h1 h2 => (b.2 k j h1 h2).trans (a.2 k j h1 h2)⟩
theorem FR_tr {s t u : gx_S} (a : FR_ s t) (b : FR_ t u) : FR_ s u := ⟨b.1.trans a.1, fun k j h1 h2 => (b.2 k j h1 h2).trans (a.2 k j h1 h2)⟩
theorem st_82 {n : Nat} {x k : Int} {s : gx_S} {L : Nat} {tb : Nat → Int} (hk : 0 ≤ k ∧ k ≤ 24) (hL : L < 200) (T : TAc s L tb) : ∃ u : gx_S, gm_82_3 (n + 1) x k s = gm_82_3 n x (k - 8) u ∧ FC s u ∧ TAc u (L + 1) (ap1 tb L (cby x k)) := by
  obtain ⟨t1, t2⟩ := T
  have cl : ((L : Int) + 1) = ((L + 1 : Nat) : Int) := rfl
  rw [gm_82_3, if_pos (by omega), if_neg (by omega), t1, if_pos (by omega), if_neg (by omega), if_pos (by omega), show ((L : Int)).toNat = L by omega]
  have x1 : (gw1 s 15 L (cby x k)).1 14 1 = L := by rw [gw1_1, if_neg (by omega)]; exact t1
  show ∃ u : gx_S, gm_82_3 n x (k + -8) (gw1 (gw1 s 15 L (cby x k)) 14 1 ((gw1 s 15 L (cby x k)).1 14 1 + 1)) = _ ∧ _
  rw [x1, cl, show k + -8 = k - 8 from rfl]
  refine ⟨_, rfl, ⟨rfl, fun k j h1 h2 => by rw [gw1_1, if_neg h2, gw1_1, if_neg (fun t => h1 t.1)]⟩, by rw [gw1_1, if_pos ⟨rfl, rfl⟩], fun i hi => ?_⟩
  rw [gw1_1, if_neg (by omega), gw1_1]
  unfold ap1
  by_cases z : i = L
  · rw [if_pos ⟨rfl, z⟩, if_pos z]
  · rw [if_neg (fun t => z t.2), if_neg z]
    exact t2 i (by omega)
theorem st_135 {n : Nat} {x k : Int} {s : gx_S} {L : Nat} {tb : Nat → Int} (hk : k = 24 ∨ k = 16 ∨ k = 8 ∨ k = 0) (hL : L < 200) (T : TAr s L tb) : ∃ u : gx_S, gm_135_3 (n + 1) x k s = gm_135_3 n x (k - 8) u ∧ FR_ s u ∧ TAr u (L + 1) (ap1 tb L (cby x k)) := by
  obtain ⟨t1, t2⟩ := T
  have cl : ((L : Int) + 1) = ((L + 1 : Nat) : Int) := rfl
  rw [gm_135_3, if_pos (by omega), if_neg (by omega), t1, if_pos (by omega), show ((L : Int)).toNat = L by omega]
  have x1 : (gw1 s 218 L (rb_ x k)).1 215 4 = L := by rw [gw1_1, if_neg (by omega)]; exact t1
  show ∃ u : gx_S, gm_135_3 n x (k + -8) (gw1 (gw1 s 218 L (rb_ x k)) 215 4 ((gw1 s 218 L (rb_ x k)).1 215 4 + 1)) = _ ∧ _
  rw [x1, cl, show k + -8 = k - 8 from rfl]
  refine ⟨_, rfl, ⟨rfl, fun k j h1 h2 => by rw [gw1_1, if_neg h2, gw1_1, if_neg (fun t => h1 t.1)]⟩, by rw [gw1_1, if_pos ⟨rfl, rfl⟩], fun i hi => ?_⟩
  rw [gw1_1, if_neg (by omega), gw1_1]
  unfold ap1
  by_cases z : i = L
  · rw [if_pos ⟨rfl, z⟩, if_pos z]
    exact cb_rb hk
  · rw [if_neg (fun t => z t.2), if_neg z]
    exact t2 i (by omega)
theorem sp_82 {x : Int} {s : gx_S} {L : Nat} {tb : Nat → Int} (hL : L + 4 ≤ 200) (T : TAc s L tb) : ∃ u : gx_S, gm_82 x s = some u ∧ FC s u ∧ TAc u (L + 4) (app tb L x) := by
  obtain ⟨a, a1, a2, a3⟩ := st_82 (n := 99999) (x := x) (k := 24) (by omega) (by omega) T
  obtain ⟨b, b1, b2, b3⟩ := st_82 (n := 99998) (x := x) (k := 16) (by omega) (by omega) a3
  obtain ⟨c, c1, c2, c3⟩ := st_82 (n := 99997) (x := x) (k := 8) (by omega) (by omega) b3
  obtain ⟨d, d1, d2, d3⟩ := st_82 (n := 99996) (x := x) (k := 0) (by omega) (by omega) c3
  have e : gm_82_3 99996 x (0 - 8) d = some d := by
    rw [show (99996 : Nat) = 99995 + 1 from rfl, gm_82_3, if_pos (by decide), if_pos (by decide)]
  have a1 : gm_82_3 100000 x 24 s = gm_82_3 99999 x 16 a := a1
  have b1 : gm_82_3 99999 x 16 a = gm_82_3 99998 x 8 b := b1
  have c1 : gm_82_3 99998 x 8 b = gm_82_3 99997 x 0 c := c1
  refine ⟨d, ?_, FC_tr a2 (FC_tr b2 (FC_tr c2 d2)), d3.1, fun i hi => by rw [d3.2 i hi, app_1]⟩
  unfold gm_82
  rw [a1, b1, c1, d1, e]
theorem sp_135 {x : Int} {s : gx_S} {L : Nat} {tb : Nat → Int} (hL : L + 4 ≤ 200) (T : TAr s L tb) : ∃ u : gx_S, gm_135 x s = some u ∧ FR_ s u ∧ TAr u (L + 4) (app tb L x) := by
  obtain ⟨a, a1, a2, a3⟩ := st_135 (n := 99999) (x := x) (k := 24) (by omega) (by omega) T
  obtain ⟨b, b1, b2, b3⟩ := st_135 (n := 99998) (x := x) (k := 16) (by omega) (by omega) a3
  obtain ⟨c, c1, c2, c3⟩ := st_135 (n := 99997) (x := x) (k := 8) (by omega) (by omega) b3
  obtain ⟨d, d1, d2, d3⟩ := st_135 (n := 99996) (x := x) (k := 0) (by omega) (by omega) c3
  have e : gm_135_3 99996 x (0 - 8) d = some d := by
    rw [show (99996 : Nat) = 99995 + 1 from rfl, gm_135_3, if_pos (by decide), if_pos (by decide)]
  have a1 : gm_135_3 100000 x 24 s = gm_135_3 99999 x 16 a := a1
  have b1 : gm_135_3 99999 x 16 a = gm_135_3 99998 x 8 b := b1
  have c1 : gm_135_3 99998 x 8 b = gm_135_3 99997 x 0 c := c1
  refine ⟨d, ?_, FR_tr a2 (FR_tr b2 (FR_tr c2 d2)), d3.1, fun i hi => by rw [d3.2 i hi, app_1]⟩
  unfold gm_135
  rw [a1, b1, c1, d1, e]
def ap5 (tb : Nat → Int) (L : Nat) (a b c d e : Int) : Nat → Int := app (app (app (app (app tb L a) (L + 4) b) (L + 8) c) (L + 12) d) (L + 16) e
theorem app_r {tb : Nat → Int} {L : Nat} {x : Int} (h : ∀ i, i < L → 0 ≤ tb i ∧ tb i ≤ 255) (i : Nat) (hi : i < L + 4) : 0 ≤ app tb L x i ∧ app tb L x i ≤ 255 := by
  unfold app
  split
  · exact cby_r x 24
  · split
    · exact cby_r x 16
    · split
      · exact cby_r x 8
      · split
        · exact cby_r x 0
        · exact h i (by omega)
theorem inv_feed {s : gx_S} (h : INV s) (x1 x2 x3 x4 x5 : Int) : two s (gm_85 x1 x2 x3 x4 x5) (gm_134 x1 x2 x3 x4 x5) := by
  obtain ⟨f, R, C, n, pf, L, tb, c, r, v⟩ := id h
  have hL := v.2.1
  have e1 := c.2.2.2.1
  have e2 := r.2.2.1
  unfold two gm_85
  rw [e1, if_pos (by omega)]
  by_cases z : L + 20 ≤ 200
  · obtain ⟨a, a1, a2, a3⟩ := sp_82 (x := x1) (by omega) (T := show TAc s L tb from c.2.2.2)
    obtain ⟨b, b1, b2, b3⟩ := sp_82 (x := x2) (by omega) a3
    obtain ⟨d, d1, d2, d3⟩ := sp_82 (x := x3) (by omega) b3
    obtain ⟨e, e1, e2', e3⟩ := sp_82 (x := x4) (by omega) d3
    obtain ⟨u, u1, u2, u3⟩ := sp_82 (x := x5) (by omega) e3
    have uC : FC s u := FC_tr a2 (FC_tr b2 (FC_tr d2 (FC_tr e2' u2)))
    have rs : TAr u L tb := ⟨by rw [uC.2 _ _ (by omega) (by omega)]; exact r.2.2.1, fun i hi => by rw [uC.2 _ _ (by omega) (by omega)]; exact r.2.2.2.1 i hi⟩
    obtain ⟨A, A1, A2, A3⟩ := sp_135 (x := x1) (by omega) rs
    obtain ⟨B, B1, B2, B3⟩ := sp_135 (x := x2) (by omega) A3
    obtain ⟨D, D1, D2, D3⟩ := sp_135 (x := x3) (by omega) B3
    obtain ⟨E, E1, E2, E3⟩ := sp_135 (x := x4) (by omega) D3
    obtain ⟨w, w1, w2, w3⟩ := sp_135 (x := x5) (by omega) E3
    have wR : FR_ u w := FR_tr A2 (FR_tr B2 (FR_tr D2 (FR_tr E2 w2)))
    have e20 : L + 4 + 4 + 4 + 4 + 4 = L + 20 := by omega
    rw [if_pos (by omega), a1, Option.bind_some, b1, Option.bind_some, d1, Option.bind_some, e1, Option.bind_some, u1, Option.bind_some]
    refine ⟨((L + 4 + 4 + 4 + 4 + 4 : Nat) : Int), u, w, by rw [u3.1], ?_, f, R, C, n, pf, L + 4 + 4 + 4 + 4 + 4, _, ⟨?_, fun g hg => ?_, ?_, ?_, fun i hi => ?_⟩, ⟨?_, ⟨?_, fun k hk i hi => ?_⟩, w3.1, w3.2, ⟨fun j hj => ?_, fun q hq => ?_, fun i hi => ?_⟩⟩, v.1, by omega, ?_⟩
    · unfold gm_134
      rw [rs.1, if_pos (by omega), if_pos (by omega), A1, Option.bind_some, B1, Option.bind_some, D1, Option.bind_some, E1, Option.bind_some, w1, Option.bind_some, w3.1]
    · exact MR_o (fun k j q1 q2 => by rw [wR.2 k j (by omega) (by omega), uC.2 k j (by omega) (by omega)]) c.1
    · obtain ⟨D', z'⟩ := c.2.1 g hg
      exact ⟨D', GGD_o (fun k j q1 q2 => by rw [wR.2 k j (by omega) (by omega), uC.2 k j (by omega) (by omega)]) z'⟩
    · exact HC_o (fun k j q1 q2 => by rw [wR.2 k j (by omega) (by omega), uC.2 k j (by omega) (by omega)]) c.2.2.1
    · rw [wR.2 _ _ (by omega) (by omega)]
      exact u3.1
    · rw [wR.2 _ _ (by omega) (by omega)]
      exact u3.2 i hi
    · funext i
      rw [wR.2 _ _ (by omega) (by omega), uC.2 _ _ (by omega) (by omega), r.1]
    · rw [wR.2 _ _ (by omega) (by omega), uC.2 _ _ (by omega) (by omega)]
      exact r.2.1.1
    · rw [wR.2 _ _ (by omega) (by omega), uC.2 _ _ (by omega) (by omega)]
      exact r.2.1.2 k hk i hi
    · rw [wR.2 _ _ (by omega) (by omega), uC.2 _ _ (by omega) (by omega), wR.2 _ _ (by omega) (by omega), uC.2 _ _ (by omega) (by omega), wR.2 _ _ (by omega) (by omega), uC.2 _ _ (by omega) (by omega), wR.1, uC.1]
      exact r.2.2.2.2.1 j hj
    · rw [wR.2 _ _ (by omega) (by omega), uC.2 _ _ (by omega) (by omega), wR.1, uC.1]
      exact r.2.2.2.2.2.1 q hq
    · rw [wR.1, uC.1]
      exact r.2.2.2.2.2.2 i hi
    · exact fun i hi => app_r (fun i hi => app_r (fun i hi => app_r (fun i hi => app_r (fun i hi => app_r v.2.2 i hi) i hi) i hi) i hi) i hi
  · rw [if_neg (by omega)]
    refine ⟨-1, s, s, rfl, ?_, h⟩
    unfold gm_134
    rw [e2, if_pos (by omega), if_neg (by omega)]
