/-! TEXTS of counts: the class's whole reading -/
/-- the fault of a PART at p (none: -1) -/
def prt (tb : Nat → Int) (L : Nat) (T : Int) (p : Nat) : Int :=
  if sl (sgn tb L p) = -1 then 8 * p + 1 else
  if bq T (sl (sgn tb L p)) = 1 then 8 * p + 3 else
  if ¬ sgn tb L (p + 1) = 61 then 8 * ((p + 1 : Nat) : Int) + 1 else
  if ¬ (48 ≤ sgn tb L (p + 2) ∧ sgn tb L (p + 2) ≤ 57) then 8 * ((p + 2 : Nat) : Int) + 1 else
  if 9999 < (nm tb L 200 0 (p + 2)).1 then 8 * ((p + 2 : Nat) : Int) + 2 else -1
/-- where a PART ends -/
def pe (tb : Nat → Int) (L p : Nat) : Nat := (nm tb L 200 0 (p + 2)).2
def pv (tb : Nat → Int) (L p : Nat) : Int := (nm tb L 200 0 (p + 2)).1
theorem cts_s (tb : Nat → Int) (L k : Nat) (T : Int) (p : Nat) (h : Nat → Int) : cts tb L (k + 1) T p h = if ¬ prt tb L T p = -1 then (prt tb L T p, h) else if sgn tb L (pe tb L p) = 44 then cts tb L k (bset T (sl (sgn tb L p))) (pe tb L p + 1) (uph h (sl (sgn tb L p)) (pv tb L p)) else if sgn tb L (pe tb L p) = -1 then (-1, uph h (sl (sgn tb L p)) (pv tb L p)) else (8 * (pe tb L p : Int) + 1, h) := by
  rw [cts]
  unfold prt
  by_cases a : sl (sgn tb L p) = -1
  · rw [if_pos a, if_pos a, if_pos (by omega)]
  · rw [if_neg a, if_neg a]
    by_cases b : bq T (sl (sgn tb L p)) = 1
    · rw [if_pos b, if_pos b, if_pos (by omega)]
    · rw [if_neg b, if_neg b]
      by_cases c : ¬ sgn tb L (p + 1) = 61
      · rw [if_pos c, if_pos c, if_pos (by omega)]
      · rw [if_neg c, if_neg c]
        by_cases d : ¬ (48 ≤ sgn tb L (p + 2) ∧ sgn tb L (p + 2) ≤ 57)
        · rw [if_pos d, if_pos d, if_pos (by omega)]
        · rw [if_neg d, if_neg d]
          by_cases e : 9999 < (nm tb L 200 0 (p + 2)).1
          · rw [if_pos e, if_pos e, if_pos (by omega)]
          · rw [if_neg e, if_neg e, if_neg (show ¬ ¬ (-1 : Int) = -1 from fun t => t rfl)]
            rfl
theorem prt_r {L p : Nat} {T : Int} {tb : Nat → Int} (hr : ∀ p, -1 ≤ sgn tb L p) (hp : p ≤ L) (hL : L ≤ 200) : (-1 ≤ prt tb L T p ∧ prt tb L T p ≤ 2000) ∧ (prt tb L T p = -1 → p + 2 < pe tb L p ∧ pe tb L p ≤ L ∧ (0 ≤ pv tb L p ∧ pv tb L p ≤ 9999) ∧ 0 ≤ sl (sgn tb L p) ∧ sl (sgn tb L p) ≤ 8) := by
  have r0 := sl_r (sgn tb L p)
  unfold prt
  by_cases a : sl (sgn tb L p) = -1
  · rw [if_pos a]
    exact ⟨by omega, fun h => by omega⟩
  · rw [if_neg a]
    by_cases b : bq T (sl (sgn tb L p)) = 1
    · rw [if_pos b]
      exact ⟨by omega, fun h => by omega⟩
    · rw [if_neg b]
      by_cases c : ¬ sgn tb L (p + 1) = 61
      · rw [if_pos c]
        exact ⟨by omega, fun h => by omega⟩
      · rw [if_neg c]
        by_cases d : ¬ (48 ≤ sgn tb L (p + 2) ∧ sgn tb L (p + 2) ≤ 57)
        · rw [if_pos d]
          exact ⟨by omega, fun h => by omega⟩
        · rw [if_neg d]
          have d' : 48 ≤ sgn tb L (p + 2) ∧ sgn tb L (p + 2) ≤ 57 := Classical.byContradiction d
          have hp2 : p + 2 ≤ L := Nat.le_of_not_lt fun h => by
            have : sgn tb L (p + 2) = -1 := if_neg (by omega)
            omega
          obtain ⟨⟨n1, n2⟩, n3, n4, n5⟩ := nmr hr 200 0 (p + 2) (by omega) (by omega) hp2
          by_cases e : 9999 < (nm tb L 200 0 (p + 2)).1
          · rw [if_pos e]
            exact ⟨by omega, fun h => by omega⟩
          · rw [if_neg e]
            have := n5 d' (by omega)
            exact ⟨by omega, fun _ => ⟨this, n4, ⟨n1, by unfold pv; omega⟩, by omega, by omega⟩⟩
theorem sp_5s {L p : Nat} {tb : Nat → Int} {T : Int} {s : gx_S} (hT : TC s L tb) (hp : p ≤ L) (e2 : s.1 60 2 = p) (e1 : s.1 60 1 = T) : ∃ (r : Int) (u : gx_S), gm_5 s = some (r, u) ∧ CT s u ∧ (0 ≤ r ∧ r ≤ 3) ∧ (¬ prt tb L T p = -1 → ¬ r = 0 ∧ 8 * u.1 60 2 + r = prt tb L T p) ∧ (prt tb L T p = -1 → r = 0 ∧ u.1 60 2 = (pe tb L p : Int) ∧ u.1 60 1 = bset T (sl (sgn tb L p)) ∧ ∀ j, u.1 61 j = uph (s.1 61) (sl (sgn tb L p)) (pv tb L p) j) := by
  rcases sp_5 hT hp e2 e1 with ⟨a, u, u1, u2, u3⟩ | ⟨a, b, u, u1, u2, u3⟩ | ⟨a, b, c, u, u1, u2, u3⟩ | ⟨a, b, c, d, u, u1, u2, u3⟩ | ⟨a, b, c, d, e, u, u1, u2, u3⟩ | ⟨a, b, c, d, e, u, u1, u2, u3, u4, u5⟩
  · refine ⟨_, u, u1, u3, by omega, ?_⟩
    unfold prt
    rw [if_pos a, u2]
    exact ⟨fun _ => ⟨by omega, rfl⟩, fun h => by omega⟩
  · refine ⟨_, u, u1, u3, by omega, ?_⟩
    unfold prt
    rw [if_neg a, if_pos b, u2]
    exact ⟨fun _ => ⟨by omega, rfl⟩, fun h => by omega⟩
  · refine ⟨_, u, u1, u3, by omega, ?_⟩
    unfold prt
    rw [if_neg a, if_neg b, if_pos c, u2]
    exact ⟨fun _ => ⟨by omega, rfl⟩, fun h => by omega⟩
  · refine ⟨_, u, u1, u3, by omega, ?_⟩
    unfold prt
    rw [if_neg a, if_neg b, if_neg (fun t => t c), if_pos d, u2]
    exact ⟨fun _ => ⟨by omega, rfl⟩, fun h => by omega⟩
  · refine ⟨_, u, u1, u3, by omega, ?_⟩
    unfold prt
    rw [if_neg a, if_neg b, if_neg (fun t => t c), if_neg (fun t => t d), if_pos e, u2]
    exact ⟨fun _ => ⟨by omega, rfl⟩, fun h => by omega⟩
  · refine ⟨_, u, u1, u4, by omega, ?_⟩
    unfold prt
    rw [if_neg a, if_neg b, if_neg (fun t => t c), if_neg (fun t => t d), if_neg e]
    exact ⟨fun h => absurd rfl h, fun _ => ⟨rfl, u2, u3, u5⟩⟩
theorem uph_c {h h' : Nat → Int} {j : Nat} (e : h j = h' j) (x v : Int) : uph h x v j = uph h' x v j := by
  unfold uph
  rw [e]
theorem sl_4 {L : Nat} {tb : Nat → Int} : ∀ (k p n x3 : Nat) (T : Int) (h : Nat → Int) (s : gx_S), L < p + 4 * k → p ≤ L → k < n → x3 + k ≤ 200 → TC s L tb → s.1 60 2 = p → s.1 60 1 = T → (∀ j, j < 9 → s.1 61 j = h j) → ∃ u : gx_S, gm_4_33 n 1 x3 s = some ((cts tb L k T p h).1, u) ∧ CT s u ∧ (-1 ≤ (cts tb L k T p h).1 ∧ (cts tb L k T p h).1 ≤ 2000) ∧ ((cts tb L k T p h).1 = -1 → ∀ j, j < 9 → u.1 61 j = (cts tb L k T p h).2 j) := by
  intro k
  induction k with
  | zero => intro p n x3 T h s h1 h2; omega
  | succ k ih =>
    intro p n x3 T h s h1 h2 h3 h4 hT e2 e1 eh
    obtain ⟨n, rfl⟩ : ∃ n', n = n' + 1 := ⟨n - 1, by omega⟩
    have hL := hT.1
    have sr := sgn_r hT
    obtain ⟨pr1, pr2⟩ := prt_r (T := T) (fun q => (sr q).1) h2 hL
    obtain ⟨r, u, u1, uC, r1, u2, u3⟩ := sp_5s hT h2 e2 e1
    rw [gm_4_33, if_pos (by omega), if_neg (by omega), if_pos (show (-2147483648 : Int) ≤ 1 ∧ (1 : Int) ≤ 2147483647 by decide), if_neg (show ¬ (1 : Int) = 0 by decide), u1, Option.bind_some, cts_s]
    show ∃ v : gx_S, (if -2147483648 ≤ r ∧ r ≤ 2147483647 then (if r = 0 then ((gm_83 (u.1 60 2) u).bind _) else some (((8 * (u.1 60 2)) + r), u)) else none) = _ ∧ _
    rw [if_pos (by omega)]
    by_cases z : prt tb L T p = -1
    · obtain ⟨p1, p2, p3, p4⟩ := pr2 z
      obtain ⟨v1, v2, v3, v4⟩ := u3 z
      have uT := CT_TC uC hT
      have sq := sr (pe tb L p)
      rw [if_pos v1, v2, sp_83 uT (by omega), Option.bind_some, if_neg (show ¬ ¬ prt tb L T p = -1 from fun t => t z)]
      show ∃ v : gx_S, (if -2147483648 ≤ sgn tb L (pe tb L p) ∧ sgn tb L (pe tb L p) ≤ 2147483647 then (if sgn tb L (pe tb L p) = 44 then gm_4_100 (gm_4_33 n) x3 (sgn tb L (pe tb L p)) u else if sgn tb L (pe tb L p) = -1 then gm_4_100 (gm_4_33 n) x3 (sgn tb L (pe tb L p)) u else some (((8 * (u.1 60 2)) + 1), u)) else none) = _ ∧ _
      rw [if_pos (by omega)]
      by_cases c : sgn tb L (pe tb L p) = 44
      · have hq : pe tb L p < L := Classical.byContradiction fun h => by
          have : sgn tb L (pe tb L p) = -1 := if_neg h
          omega
        have ce : ((x3 : Int) + 1) = ((x3 + 1 : Nat) : Int) := rfl
        have cp : ((pe tb L p : Int) + 1) = ((pe tb L p + 1 : Nat) : Int) := rfl
        rw [if_pos c, if_pos c]
        unfold gm_4_100 gm_4_112
        rw [c, if_pos (show (-2147483648 : Int) ≤ 44 ∧ (44 : Int) ≤ 2147483647 by decide), if_neg (show ¬ ¬ (44 : Int) = 44 from fun t => t rfl), v2, ce, cp]
        have o : ∀ k j, ¬ (k = 60 ∧ j = 2) → (gw1 u 60 2 ((pe tb L p + 1 : Nat) : Int)).1 k j = u.1 k j := fun k j q => by rw [gw1_1, if_neg q]
        have oC : CT u (gw1 u 60 2 ((pe tb L p + 1 : Nat) : Int)) := ⟨rfl, fun k j q1 q2 => o k j (by omega)⟩
        obtain ⟨w, w1, w2, w3, w4⟩ := ih (pe tb L p + 1) n (x3 + 1) (bset T (sl (sgn tb L p))) (uph h (sl (sgn tb L p)) (pv tb L p)) (gw1 u 60 2 ((pe tb L p + 1 : Nat) : Int)) (by omega) (by omega) (by omega) (by omega) (CT_TC oC uT) (by rw [gw1_1, if_pos ⟨rfl, rfl⟩]) (by rw [o _ _ (by omega), v3]) (fun j hj => by rw [o _ _ (by omega), v4 j]; exact uph_c (eh j hj) _ _)
        exact ⟨w, w1, CT_tr uC (CT_tr oC w2), w3, w4⟩
      · rw [if_neg c, if_neg c]
        by_cases d : sgn tb L (pe tb L p) = -1
        · have ce : ((x3 : Int) + 1) = ((x3 + 1 : Nat) : Int) := rfl
          obtain ⟨n, rfl⟩ : ∃ n', n = n' + 1 := ⟨n - 1, by omega⟩
          have o : ∀ k j, ¬ (k = 60 ∧ j = 2) → (gw1 u 60 2 (u.1 60 2 + 1)).1 k j = u.1 k j := fun k j q => by rw [gw1_1, if_neg q]
          rw [if_pos d, if_pos d]
          unfold gm_4_100 gm_4_112
          rw [d, if_pos (show (-2147483648 : Int) ≤ -1 ∧ (-1 : Int) ≤ 2147483647 by decide), if_pos (show ¬ (-1 : Int) = 44 by decide), ce, gm_4_33, if_pos (by omega)]
          refine ⟨gw1 u 60 2 (u.1 60 2 + 1), ?_, CT_tr uC ⟨rfl, fun k j q1 q2 => o k j (by omega)⟩, by omega, fun _ j hj => by rw [o _ _ (by omega), v4 j]; exact uph_c (eh j hj) _ _⟩
          by_cases y : 200 ≤ ((x3 + 1 : Nat) : Int)
          · rw [if_pos y]
          · rw [if_neg y, if_pos (show (-2147483648 : Int) ≤ 0 ∧ (0 : Int) ≤ 2147483647 by decide), if_pos rfl]
        · rw [if_neg d, if_neg d, v2]
          exact ⟨u, rfl, uC, by omega, fun h => by omega⟩
    · obtain ⟨v1, v2⟩ := u2 z
      rw [if_neg v1, v2, if_pos z]
      exact ⟨u, rfl, uC, pr1, fun h => absurd h z⟩
/-- counts as a whole -/
def ctw (tb : Nat → Int) (L : Nat) : Int × (Nat → Int) := if L = 0 then (-1, fun _ => 0) else cts tb L 51 0 0 fun _ => 0
theorem sp_4 {L : Nat} {tb : Nat → Int} {s : gx_S} (hT : TC s L tb) : ∃ u : gx_S, gm_4 s = some ((ctw tb L).1, u) ∧ CT s u ∧ (-1 ≤ (ctw tb L).1 ∧ (ctw tb L).1 ≤ 2000) ∧ ((ctw tb L).1 = -1 → ∀ j, j < 9 → u.1 61 j = (ctw tb L).2 j) := by
  have hL := hT.1
  obtain ⟨a, a1, a2, a3, a4⟩ := sp_235g (k := 61) (n := 9) 0 s (by decide +kernel) (by omega) (by omega)
  obtain ⟨b, hb⟩ : ∃ b, b = gw1 (gw1 a 60 1 0) 60 2 0 := ⟨_, rfl⟩
  have bo : ∀ k j, ¬ (k = 60 ∧ (j = 1 ∨ j = 2)) → b.1 k j = a.1 k j := fun k j q => by rw [hb, gw1_1, if_neg (by omega), gw1_1, if_neg (by omega)]
  have bC : CT s b := ⟨by rw [hb]; exact a2, fun k j q1 q2 => by rw [bo k j (by omega), a3 k j q2]⟩
  have bT := CT_TC bC hT
  have b61 : ∀ j, j < 9 → b.1 61 j = 0 := fun j hj => by rw [bo _ _ (by omega), a4, if_pos hj]
  have b1 : b.1 60 1 = 0 := by rw [hb, gw1_1, if_neg (by omega), gw1_1, if_pos ⟨rfl, rfl⟩]
  have b2 : b.1 60 2 = ((0 : Nat) : Int) := by rw [hb, gw1_1, if_pos ⟨rfl, rfl⟩]; rfl
  unfold gm_4 ctw
  rw [a1, Option.bind_some, ← hb, bT.2.1, if_pos (by omega)]
  by_cases z : L = 0
  · rw [if_pos (by omega), if_pos z]
    refine ⟨b, ?_, bC, by omega, fun _ j hj => b61 j hj⟩
    unfold gm_4_30
    rw [gm_4_33, if_pos (by decide), if_neg (by decide), if_pos (by decide), if_pos rfl]
  · obtain ⟨u, u1, u2, u3, u4⟩ := sl_4 51 0 100000 0 0 (fun _ => 0) b (by omega) (by omega) (by omega) (by omega) bT b2 b1 b61
    have u1 : gm_4_30 1 b = _ := u1
    rw [if_neg (by omega), if_neg z, u1]
    exact ⟨u, rfl, CT_tr bC u2, u3, u4⟩
theorem cts_r {L : Nat} {tb : Nat → Int} (hr : ∀ p, -1 ≤ sgn tb L p) (hL : L ≤ 200) : ∀ (k p : Nat) (T : Int) (h : Nat → Int), p ≤ L → (∀ j, 0 ≤ h j ∧ h j ≤ 9999) → ∀ j, 0 ≤ (cts tb L k T p h).2 j ∧ (cts tb L k T p h).2 j ≤ 9999 := by
  intro k
  induction k with
  | zero => intro p T h hp hh; exact hh
  | succ k ih =>
    intro p T h hp hh
    obtain ⟨p1, p2⟩ := prt_r (T := T) hr hp hL
    rw [cts_s]
    by_cases z : prt tb L T p = -1
    · obtain ⟨q1, q2, q3, q4⟩ := p2 z
      have hu : ∀ j, 0 ≤ uph h (sl (sgn tb L p)) (pv tb L p) j ∧ uph h (sl (sgn tb L p)) (pv tb L p) j ≤ 9999 := fun j => by
        unfold uph
        split
        · exact q3
        · exact hh j
      rw [if_neg (show ¬ ¬ prt tb L T p = -1 from fun t => t z)]
      by_cases c : sgn tb L (pe tb L p) = 44
      · have hq : pe tb L p < L := Classical.byContradiction fun h => by
          have : sgn tb L (pe tb L p) = -1 := if_neg h
          omega
        rw [if_pos c]
        exact ih _ _ _ (by omega) hu
      · rw [if_neg c]
        by_cases d : sgn tb L (pe tb L p) = -1
        · rw [if_pos d]
          exact hu
        · rw [if_neg d]
          exact hh
    · rw [if_pos z]
      exact hh
theorem ctw_r {L : Nat} {tb : Nat → Int} (hr : ∀ p, -1 ≤ sgn tb L p) (hL : L ≤ 200) (j : Nat) : 0 ≤ (ctw tb L).2 j ∧ (ctw tb L).2 j ≤ 9999 := by
  unfold ctw
  by_cases z : L = 0
  · rw [if_pos z]
    exact (show (0 : Int) ≤ 0 ∧ (0 : Int) ≤ 9999 by decide)
  · rw [if_neg z]
    exact cts_r hr hL 51 0 0 _ (by omega) (fun _ => ⟨by decide, by decide⟩) j
