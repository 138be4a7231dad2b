section
/-! TEXTS of counts: the class's reading -/
theorem i32r (x : Int32) : -2147483648 ≤ x.toInt ∧ x.toInt ≤ 2147483647 := by
  have a := Int32.le_toInt x
  have b := Int32.toInt_lt x
  omega
def sl (x : Int) : Int := if x = 63 then 8 else if 97 ≤ x ∧ x ≤ 104 then x - 97 else -1
theorem sl_r (x : Int) : -1 ≤ sl x ∧ sl x ≤ 8 := by
  unfold sl
  split
  · omega
  · split <;> omega
def bq (T x : Int) : Int := ((Int32.ofInt (((Int32.ofInt T >>> (Int32.ofInt x &&& 31))).toInt) &&& Int32.ofInt 1)).toInt
def bset (T x : Int) : Int := ((Int32.ofInt T ||| Int32.ofInt (((Int32.ofInt 1 <<< (Int32.ofInt x &&& 31))).toInt))).toInt
def uph (h : Nat → Int) (x v : Int) (j : Nat) : Int := if j = x.toNat then v else h j
/-- counts, from place p on: the fault (none: -1) and who is told -/
def cts (tb : Nat → Int) (L : Nat) : Nat → Int → Nat → (Nat → Int) → Int × (Nat → Int)
  | 0, _, _, h => (-1, h)
  | k + 1, T, p, h =>
    if sl (sgn tb L p) = -1 then (8 * p + 1, h) else
    if bq T (sl (sgn tb L p)) = 1 then (8 * p + 3, h) else
    if ¬ sgn tb L (p + 1) = 61 then (8 * ((p + 1 : Nat) : Int) + 1, h) else
    if ¬ (48 ≤ sgn tb L (p + 2) ∧ sgn tb L (p + 2) ≤ 57) then (8 * ((p + 2 : Nat) : Int) + 1, h) else
    if 9999 < (nm tb L 200 0 (p + 2)).1 then (8 * ((p + 2 : Nat) : Int) + 2, h) else
    if sgn tb L (nm tb L 200 0 (p + 2)).2 = 44 then cts tb L k (bset T (sl (sgn tb L p))) ((nm tb L 200 0 (p + 2)).2 + 1) (uph h (sl (sgn tb L p)) (nm tb L 200 0 (p + 2)).1) else
    if sgn tb L (nm tb L 200 0 (p + 2)).2 = -1 then (-1, uph h (sl (sgn tb L p)) (nm tb L 200 0 (p + 2)).1) else
    (8 * ((nm tb L 200 0 (p + 2)).2 : Int) + 1, h)
theorem sp_7 (s : gx_S) {x : Int} (h : i32 x) : gm_7 x s = some (sl x, s) := by
  unfold i32 at h
  unfold gm_7 sl
  rw [if_pos h]
  by_cases a : x = 63
  · rw [if_neg (fun t => t a), if_pos a]
  · rw [if_pos a, if_neg a]
    by_cases b : x < 97
    · rw [if_pos b, if_neg (by omega)]
    · rw [if_neg b]
      by_cases c : 104 < x
      · rw [if_pos c, if_neg (by omega)]
      · rw [if_neg c, if_pos (by omega)]
/-- the class's reader's cells alone change -/
def CT (s u : gx_S) : Prop := u.2 = s.2 ∧ ∀ k j, k ≠ 60 → k ≠ 61 → u.1 k j = s.1 k j
theorem CT_tr {s t u : gx_S} (a : CT s t) (b : CT t u) : CT s u := ⟨b.1.trans a.1, fun k j h1 h2 => (b.2 k j h1 h2).trans (a.2 k j h1 h2)⟩
theorem CT_TC {s u : gx_S} {L : Nat} {tb : Nat → Int} (a : CT s u) (T : TC s L tb) : TC u L tb := TC_o (a.2 _ _ (by omega) (by omega)) (fun i => a.2 _ _ (by omega) (by omega)) T
theorem sp_5 {L p : Nat} {tb : Nat → Int} {T : Int} {s : gx_S} (hT : TC s L tb) (hp : p ≤ L) (e2 : s.1 60 2 = p) (e1 : s.1 60 1 = T) : (sl (sgn tb L p) = -1 ∧ ∃ u, gm_5 s = some (1, u) ∧ u.1 60 2 = p ∧ CT s u) ∨ (¬ sl (sgn tb L p) = -1 ∧ bq T (sl (sgn tb L p)) = 1 ∧ ∃ u, gm_5 s = some (3, u) ∧ u.1 60 2 = p ∧ CT s u) ∨ (¬ sl (sgn tb L p) = -1 ∧ ¬ bq T (sl (sgn tb L p)) = 1 ∧ ¬ sgn tb L (p + 1) = 61 ∧ ∃ u, gm_5 s = some (1, u) ∧ u.1 60 2 = ((p + 1 : Nat) : Int) ∧ CT s u) ∨ (¬ sl (sgn tb L p) = -1 ∧ ¬ bq T (sl (sgn tb L p)) = 1 ∧ sgn tb L (p + 1) = 61 ∧ ¬ (48 ≤ sgn tb L (p + 2) ∧ sgn tb L (p + 2) ≤ 57) ∧ ∃ u, gm_5 s = some (1, u) ∧ u.1 60 2 = ((p + 2 : Nat) : Int) ∧ CT s u) ∨ (¬ sl (sgn tb L p) = -1 ∧ ¬ bq T (sl (sgn tb L p)) = 1 ∧ sgn tb L (p + 1) = 61 ∧ (48 ≤ sgn tb L (p + 2) ∧ sgn tb L (p + 2) ≤ 57) ∧ 9999 < (nm tb L 200 0 (p + 2)).1 ∧ ∃ u, gm_5 s = some (2, u) ∧ u.1 60 2 = ((p + 2 : Nat) : Int) ∧ CT s u) ∨ (¬ sl (sgn tb L p) = -1 ∧ ¬ bq T (sl (sgn tb L p)) = 1 ∧ sgn tb L (p + 1) = 61 ∧ (48 ≤ sgn tb L (p + 2) ∧ sgn tb L (p + 2) ≤ 57) ∧ ¬ 9999 < (nm tb L 200 0 (p + 2)).1 ∧ ∃ u, gm_5 s = some (0, u) ∧ u.1 60 2 = ((nm tb L 200 0 (p + 2)).2 : Int) ∧ u.1 60 1 = bset T (sl (sgn tb L p)) ∧ CT s u ∧ ∀ j, u.1 61 j = uph (s.1 61) (sl (sgn tb L p)) (nm tb L 200 0 (p + 2)).1 j) := by
  have hL := hT.1
  have sr := sgn_r hT
  have s0 := sr p
  have r0 := sl_r (sgn tb L p)
  have g0 : gm_83 (s.1 60 2) s = some (sgn tb L p, s) := by rw [e2]; exact sp_83 hT (by omega)
  have g7 := sp_7 s (x := sgn tb L p) (by unfold i32; omega)
  have br := i32r ((Int32.ofInt (((Int32.ofInt T >>> (Int32.ofInt (sl (sgn tb L p)) &&& 31))).toInt) &&& Int32.ofInt 1))
  have br : -2147483648 ≤ bq T (sl (sgn tb L p)) ∧ bq T (sl (sgn tb L p)) ≤ 2147483647 := br
  by_cases a : sl (sgn tb L p) = -1
  · refine .inl ⟨a, s, ?_, e2, rfl, fun _ _ _ _ => rfl⟩
    unfold gm_5
    rw [g0, Option.bind_some]
    show ((gm_7 (sgn tb L p) s).bind _) = _
    rw [g7, Option.bind_some, if_pos (by omega), if_neg (fun t => t a)]
  · by_cases b : bq T (sl (sgn tb L p)) = 1
    · refine .inr (.inl ⟨a, b, s, ?_, e2, rfl, fun _ _ _ _ => rfl⟩)
      unfold gm_5
      rw [g0, Option.bind_some]
      show ((gm_7 (sgn tb L p) s).bind _) = _
      rw [g7, Option.bind_some, if_pos (by omega), if_pos a]
      show (if (-2147483648 ≤ ((Int32.ofInt (((Int32.ofInt (s.1 60 1) >>> (Int32.ofInt (sl (sgn tb L p)) &&& 31))).toInt) &&& Int32.ofInt 1)).toInt ∧ ((Int32.ofInt (((Int32.ofInt (s.1 60 1) >>> (Int32.ofInt (sl (sgn tb L p)) &&& 31))).toInt) &&& Int32.ofInt 1)).toInt ≤ 2147483647) then (if ¬ ((Int32.ofInt (((Int32.ofInt (s.1 60 1) >>> (Int32.ofInt (sl (sgn tb L p)) &&& 31))).toInt) &&& Int32.ofInt 1)).toInt = 1 then _ else some (3, s)) else _) = _
      rw [e1]
      show (if (-2147483648 ≤ bq T (sl (sgn tb L p)) ∧ bq T (sl (sgn tb L p)) ≤ 2147483647) then (if ¬ bq T (sl (sgn tb L p)) = 1 then _ else some (3, s)) else _) = _
      rw [if_pos br, if_neg (fun t => t b)]
    · -- the slot is told, the place goes on
      obtain ⟨t, ht⟩ : ∃ t, t = gw1 (gw1 s 60 1 (bset T (sl (sgn tb L p)))) 60 2 ((p + 1 : Nat) : Int) := ⟨_, rfl⟩
      have to : ∀ k j, ¬ (k = 60 ∧ (j = 1 ∨ j = 2)) → t.1 k j = s.1 k j := fun k j q => by rw [ht, gw1_1, if_neg (by omega), gw1_1, if_neg (by omega)]
      have t1 : t.1 60 1 = bset T (sl (sgn tb L p)) := by rw [ht, gw1_1, if_neg (by omega), gw1_1, if_pos ⟨rfl, rfl⟩]
      have t2 : t.1 60 2 = ((p + 1 : Nat) : Int) := by rw [ht, gw1_1, if_pos ⟨rfl, rfl⟩]
      have tC : CT s t := ⟨by rw [ht]; rfl, fun k j h1 h2 => to k j (by omega)⟩
      have tT := CT_TC tC hT
      obtain ⟨w, hw⟩ : ∃ w, w = gw1 t 60 2 ((p + 2 : Nat) : Int) := ⟨_, rfl⟩
      have wo : ∀ k j, ¬ (k = 60 ∧ j = 2) → w.1 k j = t.1 k j := fun k j q => by rw [hw, gw1_1, if_neg q]
      have w2 : w.1 60 2 = ((p + 2 : Nat) : Int) := by rw [hw, gw1_1, if_pos ⟨rfl, rfl⟩]
      have wC : CT s w := CT_tr tC ⟨by rw [hw]; rfl, fun k j h1 h2 => wo k j (by omega)⟩
      have wT := CT_TC wC hT
      have s1 := sr (p + 1)
      have s2 := sr (p + 2)
      have sl0 : 0 ≤ sl (sgn tb L p) ∧ sl (sgn tb L p) < 9 := by omega
      have main : gm_5 s = (if sgn tb L (p + 1) = 61 then (if 48 ≤ sgn tb L (p + 2) ∧ sgn tb L (p + 2) ≤ 57 then ((gm_6 w).bind fun q45 => if (-2147483648 ≤ ((gw1 q45.2 61 (sl (sgn tb L p)).toNat q45.1).1 61 (sl (sgn tb L p)).toNat) ∧ ((gw1 q45.2 61 (sl (sgn tb L p)).toNat q45.1).1 61 (sl (sgn tb L p)).toNat) ≤ 2147483647) then (if ((gw1 q45.2 61 (sl (sgn tb L p)).toNat q45.1).1 61 (sl (sgn tb L p)).toNat) ≤ 9999 then some (0, gw1 q45.2 61 (sl (sgn tb L p)).toNat q45.1) else some (2, gw1 (gw1 q45.2 61 (sl (sgn tb L p)).toNat q45.1) 60 2 (w.1 60 2))) else none) else some (1, w)) else some (1, t)) := by
        unfold gm_5
        rw [g0, Option.bind_some]
        show ((gm_7 (sgn tb L p) s).bind _) = _
        rw [g7, Option.bind_some, if_pos (by omega), if_pos a]
        have ee : ((Int32.ofInt (((Int32.ofInt (s.1 60 1) >>> (Int32.ofInt (sl (sgn tb L p), s).1 &&& 31))).toInt) &&& Int32.ofInt 1)).toInt = bq T (sl (sgn tb L p)) := by rw [e1]; rfl
        have et : gw1 (gw1 (sl (sgn tb L p), s).2 60 1 (((Int32.ofInt ((sl (sgn tb L p), s).2.1 60 1) ||| Int32.ofInt (((Int32.ofInt 1 <<< (Int32.ofInt (sl (sgn tb L p), s).1 &&& 31))).toInt))).toInt)) 60 2 (((gw1 (sl (sgn tb L p), s).2 60 1 (((Int32.ofInt ((sl (sgn tb L p), s).2.1 60 1) ||| Int32.ofInt (((Int32.ofInt 1 <<< (Int32.ofInt (sl (sgn tb L p), s).1 &&& 31))).toInt))).toInt)).1 60 2) + 1) = t := by
          show gw1 (gw1 s 60 1 (((Int32.ofInt (s.1 60 1) ||| Int32.ofInt (((Int32.ofInt 1 <<< (Int32.ofInt (sl (sgn tb L p)) &&& 31))).toInt))).toInt)) 60 2 (((gw1 s 60 1 (((Int32.ofInt (s.1 60 1) ||| Int32.ofInt (((Int32.ofInt 1 <<< (Int32.ofInt (sl (sgn tb L p)) &&& 31))).toInt))).toInt)).1 60 2) + 1) = t
          rw [gw1_1, if_neg (by omega), e2, e1, ht]
          rfl
        rw [ee, if_pos br, if_pos b, et, t2, sp_83 tT (by omega), Option.bind_some]
        show (if (-2147483648 ≤ sgn tb L (p + 1) ∧ sgn tb L (p + 1) ≤ 2147483647) then (if sgn tb L (p + 1) = 61 then ((gm_83 ((gw1 t 60 2 ((t.1 60 2) + 1)).1 60 2) (gw1 t 60 2 ((t.1 60 2) + 1))).bind _) else some (1, t)) else none) = _
        rw [if_pos (by omega)]
        by_cases c : sgn tb L (p + 1) = 61
        · have ew : gw1 t 60 2 ((t.1 60 2) + 1) = w := by
            rw [t2, hw]
            rfl
          rw [if_pos c, if_pos c, ew, w2, sp_83 wT (by omega), Option.bind_some]
          show ((gm_8 (sgn tb L (p + 2)) w).bind _) = _
          rw [sp_8 w (by unfold i32; omega), Option.bind_some]
          by_cases d : 48 ≤ sgn tb L (p + 2) ∧ sgn tb L (p + 2) ≤ 57
          · rw [if_pos (fun q => (gbD w).mp q d), if_pos d]
            congr 1
            funext q45
            rw [if_pos (show 0 ≤ (sl (sgn tb L p), s).1 ∧ (sl (sgn tb L p), s).1 < 9 from sl0)]
            simp only [w2]
          · rw [if_neg (fun q => q ((gbD w).mpr d)), if_neg d]
        · rw [if_neg c, if_neg c]
      by_cases c : sgn tb L (p + 1) = 61
      · by_cases d : 48 ≤ sgn tb L (p + 2) ∧ sgn tb L (p + 2) ≤ 57
        · have hp2 : p + 2 ≤ L := Nat.le_of_not_lt fun h => by
            have : sgn tb L (p + 2) = -1 := if_neg (by omega)
            omega
          obtain ⟨⟨n1, n2⟩, n3, n4, n5⟩ := nmr (fun q => (sr q).1) 200 0 (p + 2) (by omega) (by omega) hp2
          obtain ⟨u, u1, u2, u3, u4⟩ := sl_6 (tb := tb) 200 (p + 2) 100000 0 w (by omega) hp2 (by omega) (by omega) (by omega) wT w2
          have u1 : gm_6 w = some ((nm tb L 200 0 (p + 2)).1, u) := u1
          have x1 : (gw1 u 61 (sl (sgn tb L p)).toNat (nm tb L 200 0 (p + 2)).1).1 61 (sl (sgn tb L p)).toNat = (nm tb L 200 0 (p + 2)).1 := by rw [gw1_1, if_pos ⟨rfl, rfl⟩]
          have uC : CT s u := CT_tr wC ⟨u3, fun k j h1 h2 => u4 k j (by omega)⟩
          have main2 : gm_5 s = if (nm tb L 200 0 (p + 2)).1 ≤ 9999 then some (0, gw1 u 61 (sl (sgn tb L p)).toNat (nm tb L 200 0 (p + 2)).1) else some (2, gw1 (gw1 u 61 (sl (sgn tb L p)).toNat (nm tb L 200 0 (p + 2)).1) 60 2 (w.1 60 2)) := by
            rw [main, if_pos c, if_pos d, u1, Option.bind_some]
            show (if (-2147483648 ≤ ((gw1 u 61 (sl (sgn tb L p)).toNat (nm tb L 200 0 (p + 2)).1).1 61 (sl (sgn tb L p)).toNat) ∧ ((gw1 u 61 (sl (sgn tb L p)).toNat (nm tb L 200 0 (p + 2)).1).1 61 (sl (sgn tb L p)).toNat) ≤ 2147483647) then (if ((gw1 u 61 (sl (sgn tb L p)).toNat (nm tb L 200 0 (p + 2)).1).1 61 (sl (sgn tb L p)).toNat) ≤ 9999 then _ else _) else none) = _
            rw [x1, if_pos (by omega)]
          by_cases e : 9999 < (nm tb L 200 0 (p + 2)).1
          · refine .inr (.inr (.inr (.inr (.inl ⟨a, b, c, d, e, _, main2.trans (if_neg (by omega)), ?_, ?_, fun k j h1 h2 => ?_⟩))))
            · rw [gw1_1, if_pos ⟨rfl, rfl⟩, w2]
            · exact uC.1
            · rw [gw1_1, if_neg (by omega), gw1_1, if_neg (by omega)]
              exact uC.2 k j h1 h2
          · refine .inr (.inr (.inr (.inr (.inr ⟨a, b, c, d, e, _, main2.trans (if_pos (by omega)), ?_, ?_, ⟨uC.1, fun k j h1 h2 => ?_⟩, fun j => ?_⟩))))
            · rw [gw1_1, if_neg (by omega)]
              exact u2
            · rw [gw1_1, if_neg (by omega), u4 _ _ (by omega), wo _ _ (by omega), t1]
            · rw [gw1_1, if_neg (by omega)]
              exact uC.2 k j h1 h2
            · unfold uph
              rw [gw1_1]
              by_cases z : j = (sl (sgn tb L p)).toNat
              · rw [if_pos ⟨rfl, z⟩, if_pos z]
              · rw [if_neg (fun q => z q.2), if_neg z, u4 _ _ (by omega), wo _ _ (by omega), to _ _ (by omega)]
        · exact .inr (.inr (.inr (.inl ⟨a, b, c, d, w, by rw [main, if_pos c, if_neg d], w2, wC⟩)))
      · exact .inr (.inr (.inl ⟨a, b, c, t, by rw [main, if_neg c], t2, tC⟩))
end
section
/-! TEXTS of counts: the class's whole reading -/
/-- the fault of a PART at p (none: -1) -/
def prt (tb : Nat → Int) (L : Nat) (T : Int) (p : Nat) : Int :=
  if sl (sgn tb L p) = -1 then 8 * p + 1 else
  if bq T (sl (sgn tb L p)) = 1 then 8 * p + 3 else
  if ¬ sgn tb L (p + 1) = 61 then 8 * ((p + 1 : Nat) : Int) + 1 else
  if ¬ (48 ≤ sgn tb L (p + 2) ∧ sgn tb L (p + 2) ≤ 57) then 8 * ((p + 2 : Nat) : Int) + 1 else
  if 9999 < (nm tb L 200 0 (p + 2)).1 then 8 * ((p + 2 : Nat) : Int) + 2 else -1
/-- where a PART ends -/
def pe (tb : Nat → Int) (L p : Nat) : Nat := (nm tb L 200 0 (p + 2)).2
def pv (tb : Nat → Int) (L p : Nat) : Int := (nm tb L 200 0 (p + 2)).1
theorem cts_s (tb : Nat → Int) (L k : Nat) (T : Int) (p : Nat) (h : Nat → Int) : cts tb L (k + 1) T p h = if ¬ prt tb L T p = -1 then (prt tb L T p, h) else if sgn tb L (pe tb L p) = 44 then cts tb L k (bset T (sl (sgn tb L p))) (pe tb L p + 1) (uph h (sl (sgn tb L p)) (pv tb L p)) else if sgn tb L (pe tb L p) = -1 then (-1, uph h (sl (sgn tb L p)) (pv tb L p)) else (8 * (pe tb L p : Int) + 1, h) := by
  rw [cts]
  unfold prt
  by_cases a : sl (sgn tb L p) = -1
  · rw [if_pos a, if_pos a, if_pos (by omega)]
  · rw [if_neg a, if_neg a]
    by_cases b : bq T (sl (sgn tb L p)) = 1
    · rw [if_pos b, if_pos b, if_pos (by omega)]
    · rw [if_neg b, if_neg b]
      by_cases c : ¬ sgn tb L (p + 1) = 61
      · rw [if_pos c, if_pos c, if_pos (by omega)]
      · rw [if_neg c, if_neg c]
        by_cases d : ¬ (48 ≤ sgn tb L (p + 2) ∧ sgn tb L (p + 2) ≤ 57)
        · rw [if_pos d, if_pos d, if_pos (by omega)]
        · rw [if_neg d, if_neg d]
          by_cases e : 9999 < (nm tb L 200 0 (p + 2)).1
          · rw [if_pos e, if_pos e, if_pos (by omega)]
          · rw [if_neg e, if_neg e, if_neg (show ¬ ¬ (-1 : Int) = -1 from fun t => t rfl)]
            rfl
theorem prt_r {L p : Nat} {T : Int} {tb : Nat → Int} (hr : ∀ p, -1 ≤ sgn tb L p) (hp : p ≤ L) (hL : L ≤ 200) : (-1 ≤ prt tb L T p ∧ prt tb L T p ≤ 2000) ∧ (prt tb L T p = -1 → p + 2 < pe tb L p ∧ pe tb L p ≤ L ∧ (0 ≤ pv tb L p ∧ pv tb L p ≤ 9999) ∧ 0 ≤ sl (sgn tb L p) ∧ sl (sgn tb L p) ≤ 8) := by
  have r0 := sl_r (sgn tb L p)
  unfold prt
  by_cases a : sl (sgn tb L p) = -1
  · rw [if_pos a]
    exact ⟨by omega, fun h => by omega⟩
  · rw [if_neg a]
    by_cases b : bq T (sl (sgn tb L p)) = 1
    · rw [if_pos b]
      exact ⟨by omega, fun h => by omega⟩
    · rw [if_neg b]
      by_cases c : ¬ sgn tb L (p + 1) = 61
      · rw [if_pos c]
        exact ⟨by omega, fun h => by omega⟩
      · rw [if_neg c]
        by_cases d : ¬ (48 ≤ sgn tb L (p + 2) ∧ sgn tb L (p + 2) ≤ 57)
        · rw [if_pos d]
          exact ⟨by omega, fun h => by omega⟩
        · rw [if_neg d]
          have d' : 48 ≤ sgn tb L (p + 2) ∧ sgn tb L (p + 2) ≤ 57 := Classical.byContradiction d
          have hp2 : p + 2 ≤ L := Nat.le_of_not_lt fun h => by
            have : sgn tb L (p + 2) = -1 := if_neg (by omega)
            omega
          obtain ⟨⟨n1, n2⟩, n3, n4, n5⟩ := nmr hr 200 0 (p + 2) (by omega) (by omega) hp2
          by_cases e : 9999 < (nm tb L 200 0 (p + 2)).1
          · rw [if_pos e]
            exact ⟨by omega, fun h => by omega⟩
          · rw [if_neg e]
            have := n5 d' (by omega)
            exact ⟨by omega, fun _ => ⟨this, n4, ⟨n1, by unfold pv; omega⟩, by omega, by omega⟩⟩
theorem sp_5s {L p : Nat} {tb : Nat → Int} {T : Int} {s : gx_S} (hT : TC s L tb) (hp : p ≤ L) (e2 : s.1 60 2 = p) (e1 : s.1 60 1 = T) : ∃ (r : Int) (u : gx_S), gm_5 s = some (r, u) ∧ CT s u ∧ (0 ≤ r ∧ r ≤ 3) ∧ (¬ prt tb L T p = -1 → ¬ r = 0 ∧ 8 * u.1 60 2 + r = prt tb L T p) ∧ (prt tb L T p = -1 → r = 0 ∧ u.1 60 2 = (pe tb L p : Int) ∧ u.1 60 1 = bset T (sl (sgn tb L p)) ∧ ∀ j, u.1 61 j = uph (s.1 61) (sl (sgn tb L p)) (pv tb L p) j) := by
  rcases sp_5 hT hp e2 e1 with ⟨a, u, u1, u2, u3⟩ | ⟨a, b, u, u1, u2, u3⟩ | ⟨a, b, c, u, u1, u2, u3⟩ | ⟨a, b, c, d, u, u1, u2, u3⟩ | ⟨a, b, c, d, e, u, u1, u2, u3⟩ | ⟨a, b, c, d, e, u, u1, u2, u3, u4, u5⟩
  · refine ⟨_, u, u1, u3, by omega, ?_⟩
    unfold prt
    rw [if_pos a, u2]
    exact ⟨fun _ => ⟨by omega, rfl⟩, fun h => by omega⟩
  · refine ⟨_, u, u1, u3, by omega, ?_⟩
    unfold prt
    rw [if_neg a, if_pos b, u2]
    exact ⟨fun _ => ⟨by omega, rfl⟩, fun h => by omega⟩
  · refine ⟨_, u, u1, u3, by omega, ?_⟩
    unfold prt
    rw [if_neg a, if_neg b, if_pos c, u2]
    exact ⟨fun _ => ⟨by omega, rfl⟩, fun h => by omega⟩
  · refine ⟨_, u, u1, u3, by omega, ?_⟩
    unfold prt
    rw [if_neg a, if_neg b, if_neg (fun t => t c), if_pos d, u2]
    exact ⟨fun _ => ⟨by omega, rfl⟩, fun h => by omega⟩
  · refine ⟨_, u, u1, u3, by omega, ?_⟩
    unfold prt
    rw [if_neg a, if_neg b, if_neg (fun t => t c), if_neg (fun t => t d), if_pos e, u2]
    exact ⟨fun _ => ⟨by omega, rfl⟩, fun h => by omega⟩
  · refine ⟨_, u, u1, u4, by omega, ?_⟩
    unfold prt
    rw [if_neg a, if_neg b, if_neg (fun t => t c), if_neg (fun t => t d), if_neg e]
    exact ⟨fun h => absurd rfl h, fun _ => ⟨rfl, u2, u3, u5⟩⟩
theorem uph_c {h h' : Nat → Int} {j : Nat} (e : h j = h' j) (x v : Int) : uph h x v j = uph h' x v j := by
  unfold uph
  rw [e]
theorem sl_4 {L : Nat} {tb : Nat → Int} : ∀ (k p n x3 : Nat) (T : Int) (h : Nat → Int) (s : gx_S), L < p + 4 * k → p ≤ L → k < n → x3 + k ≤ 200 → TC s L tb → s.1 60 2 = p → s.1 60 1 = T → (∀ j, j < 9 → s.1 61 j = h j) → ∃ u : gx_S, gm_4_33 n 1 x3 s = some ((cts tb L k T p h).1, u) ∧ CT s u ∧ (-1 ≤ (cts tb L k T p h).1 ∧ (cts tb L k T p h).1 ≤ 2000) ∧ ((cts tb L k T p h).1 = -1 → ∀ j, j < 9 → u.1 61 j = (cts tb L k T p h).2 j) := by
  intro k
  induction k with
  | zero => intro p n x3 T h s h1 h2; omega
  | succ k ih =>
    intro p n x3 T h s h1 h2 h3 h4 hT e2 e1 eh
    obtain ⟨n, rfl⟩ : ∃ n', n = n' + 1 := ⟨n - 1, by omega⟩
    have hL := hT.1
    have sr := sgn_r hT
    obtain ⟨pr1, pr2⟩ := prt_r (T := T) (fun q => (sr q).1) h2 hL
    obtain ⟨r, u, u1, uC, r1, u2, u3⟩ := sp_5s hT h2 e2 e1
    rw [gm_4_33, if_pos (by omega), if_neg (by omega), if_pos (show (-2147483648 : Int) ≤ 1 ∧ (1 : Int) ≤ 2147483647 by decide), if_neg (show ¬ (1 : Int) = 0 by decide), u1, Option.bind_some, cts_s]
    show ∃ v : gx_S, (if -2147483648 ≤ r ∧ r ≤ 2147483647 then (if r = 0 then ((gm_83 (u.1 60 2) u).bind _) else some (((8 * (u.1 60 2)) + r), u)) else none) = _ ∧ _
    rw [if_pos (by omega)]
    by_cases z : prt tb L T p = -1
    · obtain ⟨p1, p2, p3, p4⟩ := pr2 z
      obtain ⟨v1, v2, v3, v4⟩ := u3 z
      have uT := CT_TC uC hT
      have sq := sr (pe tb L p)
      rw [if_pos v1, v2, sp_83 uT (by omega), Option.bind_some, if_neg (show ¬ ¬ prt tb L T p = -1 from fun t => t z)]
      show ∃ v : gx_S, (if -2147483648 ≤ sgn tb L (pe tb L p) ∧ sgn tb L (pe tb L p) ≤ 2147483647 then (if sgn tb L (pe tb L p) = 44 then gm_4_100 (gm_4_33 n) x3 (sgn tb L (pe tb L p)) u else if sgn tb L (pe tb L p) = -1 then gm_4_100 (gm_4_33 n) x3 (sgn tb L (pe tb L p)) u else some (((8 * (u.1 60 2)) + 1), u)) else none) = _ ∧ _
      rw [if_pos (by omega)]
      by_cases c : sgn tb L (pe tb L p) = 44
      · have hq : pe tb L p < L := Classical.byContradiction fun h => by
          have : sgn tb L (pe tb L p) = -1 := if_neg h
          omega
        have ce : ((x3 : Int) + 1) = ((x3 + 1 : Nat) : Int) := rfl
        have cp : ((pe tb L p : Int) + 1) = ((pe tb L p + 1 : Nat) : Int) := rfl
        rw [if_pos c, if_pos c]
        unfold gm_4_100 gm_4_112
        rw [c, if_pos (show (-2147483648 : Int) ≤ 44 ∧ (44 : Int) ≤ 2147483647 by decide), if_neg (show ¬ ¬ (44 : Int) = 44 from fun t => t rfl), v2, ce, cp]
        have o : ∀ k j, ¬ (k = 60 ∧ j = 2) → (gw1 u 60 2 ((pe tb L p + 1 : Nat) : Int)).1 k j = u.1 k j := fun k j q => by rw [gw1_1, if_neg q]
        have oC : CT u (gw1 u 60 2 ((pe tb L p + 1 : Nat) : Int)) := ⟨rfl, fun k j q1 q2 => o k j (by omega)⟩
        obtain ⟨w, w1, w2, w3, w4⟩ := ih (pe tb L p + 1) n (x3 + 1) (bset T (sl (sgn tb L p))) (uph h (sl (sgn tb L p)) (pv tb L p)) (gw1 u 60 2 ((pe tb L p + 1 : Nat) : Int)) (by omega) (by omega) (by omega) (by omega) (CT_TC oC uT) (by rw [gw1_1, if_pos ⟨rfl, rfl⟩]) (by rw [o _ _ (by omega), v3]) (fun j hj => by rw [o _ _ (by omega), v4 j]; exact uph_c (eh j hj) _ _)
        exact ⟨w, w1, CT_tr uC (CT_tr oC w2), w3, w4⟩
      · rw [if_neg c, if_neg c]
        by_cases d : sgn tb L (pe tb L p) = -1
        · have ce : ((x3 : Int) + 1) = ((x3 + 1 : Nat) : Int) := rfl
          obtain ⟨n, rfl⟩ : ∃ n', n = n' + 1 := ⟨n - 1, by omega⟩
          have o : ∀ k j, ¬ (k = 60 ∧ j = 2) → (gw1 u 60 2 (u.1 60 2 + 1)).1 k j = u.1 k j := fun k j q => by rw [gw1_1, if_neg q]
          rw [if_pos d, if_pos d]
          unfold gm_4_100 gm_4_112
          rw [d, if_pos (show (-2147483648 : Int) ≤ -1 ∧ (-1 : Int) ≤ 2147483647 by decide), if_pos (show ¬ (-1 : Int) = 44 by decide), ce, gm_4_33, if_pos (by omega)]
          refine ⟨gw1 u 60 2 (u.1 60 2 + 1), ?_, CT_tr uC ⟨rfl, fun k j q1 q2 => o k j (by omega)⟩, by omega, fun _ j hj => by rw [o _ _ (by omega), v4 j]; exact uph_c (eh j hj) _ _⟩
          by_cases y : 200 ≤ ((x3 + 1 : Nat) : Int)
          · rw [if_pos y]
          · rw [if_neg y, if_pos (show (-2147483648 : Int) ≤ 0 ∧ (0 : Int) ≤ 2147483647 by decide), if_pos rfl]
        · rw [if_neg d, if_neg d, v2]
          exact ⟨u, rfl, uC, by omega, fun h => by omega⟩
    · obtain ⟨v1, v2⟩ := u2 z
      rw [if_neg v1, v2, if_pos z]
      exact ⟨u, rfl, uC, pr1, fun h => absurd h z⟩
/-- counts as a whole -/
def ctw (tb : Nat → Int) (L : Nat) : Int × (Nat → Int) := if L = 0 then (-1, fun _ => 0) else cts tb L 51 0 0 fun _ => 0
theorem sp_4 {L : Nat} {tb : Nat → Int} {s : gx_S} (hT : TC s L tb) : ∃ u : gx_S, gm_4 s = some ((ctw tb L).1, u) ∧ CT s u ∧ (-1 ≤ (ctw tb L).1 ∧ (ctw tb L).1 ≤ 2000) ∧ ((ctw tb L).1 = -1 → ∀ j, j < 9 → u.1 61 j = (ctw tb L).2 j) := by
  have hL := hT.1
  obtain ⟨a, a1, a2, a3, a4⟩ := sp_235g (k := 61) (n := 9) 0 s (by decide +kernel) (by omega) (by omega)
  obtain ⟨b, hb⟩ : ∃ b, b = gw1 (gw1 a 60 1 0) 60 2 0 := ⟨_, rfl⟩
  have bo : ∀ k j, ¬ (k = 60 ∧ (j = 1 ∨ j = 2)) → b.1 k j = a.1 k j := fun k j q => by rw [hb, gw1_1, if_neg (by omega), gw1_1, if_neg (by omega)]
  have bC : CT s b := ⟨by rw [hb]; exact a2, fun k j q1 q2 => by rw [bo k j (by omega), a3 k j q2]⟩
  have bT := CT_TC bC hT
  have b61 : ∀ j, j < 9 → b.1 61 j = 0 := fun j hj => by rw [bo _ _ (by omega), a4, if_pos hj]
  have b1 : b.1 60 1 = 0 := by rw [hb, gw1_1, if_neg (by omega), gw1_1, if_pos ⟨rfl, rfl⟩]
  have b2 : b.1 60 2 = ((0 : Nat) : Int) := by rw [hb, gw1_1, if_pos ⟨rfl, rfl⟩]; rfl
  unfold gm_4 ctw
  rw [a1, Option.bind_some, ← hb, bT.2.1, if_pos (by omega)]
  by_cases z : L = 0
  · rw [if_pos (by omega), if_pos z]
    refine ⟨b, ?_, bC, by omega, fun _ j hj => b61 j hj⟩
    unfold gm_4_30
    rw [gm_4_33, if_pos (by decide), if_neg (by decide), if_pos (by decide), if_pos rfl]
  · obtain ⟨u, u1, u2, u3, u4⟩ := sl_4 51 0 100000 0 0 (fun _ => 0) b (by omega) (by omega) (by omega) (by omega) bT b2 b1 b61
    have u1 : gm_4_30 1 b = _ := u1
    rw [if_neg (by omega), if_neg z, u1]
    exact ⟨u, rfl, CT_tr bC u2, u3, u4⟩
theorem cts_r {L : Nat} {tb : Nat → Int} (hr : ∀ p, -1 ≤ sgn tb L p) (hL : L ≤ 200) : ∀ (k p : Nat) (T : Int) (h : Nat → Int), p ≤ L → (∀ j, 0 ≤ h j ∧ h j ≤ 9999) → ∀ j, 0 ≤ (cts tb L k T p h).2 j ∧ (cts tb L k T p h).2 j ≤ 9999 := by
  intro k
  induction k with
  | zero => intro p T h hp hh; exact hh
  | succ k ih =>
    intro p T h hp hh
    obtain ⟨p1, p2⟩ := prt_r (T := T) hr hp hL
    rw [cts_s]
    by_cases z : prt tb L T p = -1
    · obtain ⟨q1, q2, q3, q4⟩ := p2 z
      have hu : ∀ j, 0 ≤ uph h (sl (sgn tb L p)) (pv tb L p) j ∧ uph h (sl (sgn tb L p)) (pv tb L p) j ≤ 9999 := fun j => by
        unfold uph
        split
        · exact q3
        · exact hh j
      rw [if_neg (show ¬ ¬ prt tb L T p = -1 from fun t => t z)]
      by_cases c : sgn tb L (pe tb L p) = 44
      · have hq : pe tb L p < L := Classical.byContradiction fun h => by
          have : sgn tb L (pe tb L p) = -1 := if_neg h
          omega
        rw [if_pos c]
        exact ih _ _ _ (by omega) hu
      · rw [if_neg c]
        by_cases d : sgn tb L (pe tb L p) = -1
        · rw [if_pos d]
          exact hu
        · rw [if_neg d]
          exact hh
    · rw [if_pos z]
      exact hh
theorem ctw_r {L : Nat} {tb : Nat → Int} (hr : ∀ p, -1 ≤ sgn tb L p) (hL : L ≤ 200) (j : Nat) : 0 ≤ (ctw tb L).2 j ∧ (ctw tb L).2 j ≤ 9999 := by
  unfold ctw
  by_cases z : L = 0
  · rw [if_pos z]
    exact (show (0 : Int) ≤ 0 ∧ (0 : Int) ≤ 9999 by decide)
  · rw [if_neg z]
    exact cts_r hr hL 51 0 0 _ (by omega) (fun _ => ⟨by decide, by decide⟩) j
end
section
/-! TEXTS of counts: the reference's whole reading -/
def CR (s u : gx_S) : Prop := u.2 = s.2 ∧ ∀ k j, k ≠ 220 → ¬ (k = 215 ∧ (j = 5 ∨ j = 6 ∨ j = 11)) → u.1 k j = s.1 k j
theorem CR_tr {s t u : gx_S} (a : CR s t) (b : CR t u) : CR s u := ⟨b.1.trans a.1, fun k j h1 h2 => (b.2 k j h1 h2).trans (a.2 k j h1 h2)⟩
theorem CR_TF {s u : gx_S} {L : Nat} {tb : Nat → Int} (a : CR s u) (T : TF s L tb) : TF u L tb := TF_o (a.2 _ _ (by omega) (by omega)) (fun i => a.2 _ _ (by omega) (by omega)) T
theorem CR_1 (s : gx_S) {j : Nat} (x : Int) (h : j = 5 ∨ j = 6 ∨ j = 11) : CR s (gw1 s 215 j x) := ⟨rfl, fun k i q1 q2 => by rw [gw1_1, if_neg (by omega)]⟩
theorem fp_236 (s : gx_S) {x v : Int} (h : 0 ≤ x ∧ x < 9) : ∃ u : gx_S, gm_146_236 x v s = some u ∧ CR s u ∧ u.1 215 6 = s.1 215 6 ∧ u.1 215 5 = s.1 215 5 ∧ u.1 215 11 = bset (s.1 215 11) x ∧ ∀ j, u.1 220 j = uph (s.1 220) x v j := by
  refine ⟨gw1 (gw1 s 220 x.toNat v) 215 11 (bset (s.1 215 11) x), ?_, ⟨rfl, fun k i q1 q2 => by rw [gw1_1, if_neg (by omega), gw1_1, if_neg (by omega)]⟩, by rw [gw1_1, if_neg (by omega), gw1_1, if_neg (by omega)], by rw [gw1_1, if_neg (by omega), gw1_1, if_neg (by omega)], by rw [gw1_1, if_pos ⟨rfl, rfl⟩], fun j => ?_⟩
  · unfold gm_146_236 bset
    rw [if_pos h]
    have e : (gw1 s 220 x.toNat v).1 215 11 = s.1 215 11 := by rw [gw1_1, if_neg (by omega)]
    rw [e]
  · unfold uph
    rw [gw1_1, if_neg (by omega), gw1_1]
    by_cases z : j = x.toNat
    · rw [if_pos ⟨rfl, z⟩, if_pos z]
    · rw [if_neg (fun t => z t.2), if_neg z]
theorem fp_222 (s : gx_S) {x b v : Int} (h : 0 ≤ x ∧ x < 9) (hv : i32 v) (h6 : i32 (s.1 215 6)) (h7 : ¬ s.1 215 6 = -1) : ∃ u : gx_S, gm_146_222 x b v s = some u ∧ CR s u ∧ u.1 215 6 = s.1 215 6 := by
  have hv' := hv
  unfold i32 at hv'
  unfold gm_146_222
  obtain ⟨u, u1, u2, u3, _⟩ := fp_236 s (v := v) h
  rw [if_pos hv', sp_139 h6, if_neg h7, Option.bind_some, u1]
  exact ⟨u, by split <;> rfl, u2, u3⟩
theorem fp_161 (s : gx_S) {x b : Int} (h : 0 ≤ x ∧ x < 9) (h6 : i32 (s.1 215 6)) (h7 : ¬ s.1 215 6 = -1) : ∃ u : gx_S, gm_146_161 x b s = some u ∧ CR s u ∧ u.1 215 6 = s.1 215 6 := by
  have e : gm_146_161 x b s = gm_146_222 x b 0 s := by
    unfold gm_146_161
    rw [gm_146_164, sp_138 h6, Option.bind_some, if_pos ((gbD s).mpr h7)]
  rw [e]
  exact fp_222 s h (by unfold i32; omega) h6 h7
theorem fp_113 (s : gx_S) {x : Int} (h : 0 ≤ x ∧ x < 9) (h6 : i32 (s.1 215 6)) (h7 : ¬ s.1 215 6 = -1) : ∃ u : gx_S, gm_146_113 x s = some u ∧ CR s u ∧ u.1 215 6 = s.1 215 6 := by
  obtain ⟨t, ht⟩ : ∃ t, t = gw1 s 215 5 ((s.1 215 5) + 1) := ⟨_, rfl⟩
  have t6 : t.1 215 6 = s.1 215 6 := by rw [ht, gw1_1, if_neg (by omega)]
  obtain ⟨u, u1, u2, u3⟩ := fp_161 t (b := t.1 215 5) h (by rw [t6]; exact h6) (by rw [t6]; exact h7)
  unfold gm_146_113
  rw [← ht, sp_138 (by rw [t6]; exact h6), Option.bind_some, if_pos ((gbD s).mpr (by rw [t6]; exact h7))]
  exact ⟨u, u1, CR_tr (by rw [ht]; exact CR_1 s _ (by omega)) u2, u3.trans t6⟩
theorem fp_78 (s : gx_S) {x : Int} (h : 0 ≤ x ∧ x < 9) (h6 : i32 (s.1 215 6)) (h7 : ¬ s.1 215 6 = -1) : ∃ u : gx_S, gm_146_78 x s = some u ∧ CR s u ∧ u.1 215 6 = s.1 215 6 := by
  obtain ⟨t, ht⟩ : ∃ t, t = gw1 s 215 5 ((s.1 215 5) + 1) := ⟨_, rfl⟩
  have t6 : t.1 215 6 = s.1 215 6 := by rw [ht, gw1_1, if_neg (by omega)]
  obtain ⟨u, u1, u2, u3⟩ := fp_113 t h (by rw [t6]; exact h6) (by rw [t6]; exact h7)
  unfold gm_146_78
  rw [← ht, sp_138 (by rw [t6]; exact h6), Option.bind_some, if_pos ((gbD s).mpr (by rw [t6]; exact h7))]
  exact ⟨u, u1, CR_tr (by rw [ht]; exact CR_1 s _ (by omega)) u2, u3.trans t6⟩
theorem sp_146 {L p : Nat} {tb : Nat → Int} {T : Int} {s : gx_S} (hT : TF s L tb) (hp : p ≤ L) (e5 : s.1 215 5 = p) (e6 : s.1 215 6 = -1) (e11 : s.1 215 11 = T) : ∃ u : gx_S, gm_146 s = some u ∧ CR s u ∧ u.1 215 6 = prt tb L T p ∧ (prt tb L T p = -1 → u.1 215 5 = (pe tb L p : Int) ∧ u.1 215 11 = bset T (sl (sgn tb L p)) ∧ ∀ j, u.1 220 j = uph (s.1 220) (sl (sgn tb L p)) (pv tb L p) j) := by
  have hL := hT.1
  have sr := sgn_rf hT
  have s0 := sr p
  have r0 := sl_r (sgn tb L p)
  have br := i32r ((Int32.ofInt (((Int32.ofInt T >>> (Int32.ofInt (sl (sgn tb L p)) &&& 31))).toInt) &&& Int32.ofInt 1))
  have br : -2147483648 ≤ bq T (sl (sgn tb L p)) ∧ bq T (sl (sgn tb L p)) ≤ 2147483647 := br
  have g1 : gm_146 s = gm_146_47 p (sl (sgn tb L p)) s := by
    unfold gm_146
    rw [sp_137 hT (by omega) e5, Option.bind_some]
    show (if -2147483648 ≤ sgn tb L p ∧ sgn tb L p ≤ 2147483647 then (if ¬ sgn tb L p = 63 then ((gm_137 s).bind _) else gm_146_47 (s.1 215 5) 8 s) else none) = _
    rw [if_pos (by omega), sp_137 hT (by omega) e5, Option.bind_some]
    show (if ¬ sgn tb L p = 63 then (if -2147483648 ≤ sgn tb L p ∧ sgn tb L p ≤ 2147483647 then ((gm_130 (sgn tb L p) 97 104 s).bind fun q68 => if (gb q68.1) = 0 then gm_146_47 (s.1 215 5) (-1) q68.2 else ((gm_137 q68.2).bind fun q71 => gm_146_47 (s.1 215 5) (q71.1 - 97) q71.2)) else none) else gm_146_47 (s.1 215 5) 8 s) = _
    rw [if_pos (show -2147483648 ≤ sgn tb L p ∧ sgn tb L p ≤ 2147483647 by omega), in_ s (by unfold i32; omega) (by omega) (by omega), Option.bind_some, e5]
    show (if ¬ sgn tb L p = 63 then (if (gb (decide (97 ≤ sgn tb L p ∧ sgn tb L p ≤ 104))) = 0 then gm_146_47 p (-1) s else ((gm_137 s).bind fun q71 => gm_146_47 p (q71.1 - 97) q71.2)) else gm_146_47 p 8 s) = _
    rw [sp_137 hT (by omega) e5, Option.bind_some]
    unfold sl
    by_cases a : sgn tb L p = 63
    · rw [if_neg (fun t => t a), if_pos a]
    · rw [if_pos a, if_neg a]
      by_cases b : 97 ≤ sgn tb L p ∧ sgn tb L p ≤ 104
      · rw [if_neg (fun t => (gbD s).mp t b), if_pos b]
      · rw [if_pos ((gbD s).mpr b), if_neg b]
  rw [g1]
  unfold gm_146_47 prt
  rw [if_pos (by omega)]
  by_cases a : sl (sgn tb L p) = -1
  · rw [if_neg (fun t => t a), sp_139 (by rw [e6]; unfold i32; omega), if_pos e6, Option.bind_some, if_pos a]
    exact ⟨_, rfl, CR_1 s _ (by omega), by rw [gw1_1, if_pos ⟨rfl, rfl⟩], fun h => by omega⟩
  · rw [if_pos a, if_neg a, e11]
    show ∃ u : gx_S, (if (-2147483648 ≤ bq T (sl (sgn tb L p)) ∧ bq T (sl (sgn tb L p)) ≤ 2147483647) then (if ¬ bq T (sl (sgn tb L p)) = 1 then (gm_146_78 (sl (sgn tb L p)) s) else ((gm_139 3 p s).bind fun q6 => gm_146_78 (sl (sgn tb L p)) q6)) else none) = _ ∧ _
    rw [if_pos br]
    by_cases b : bq T (sl (sgn tb L p)) = 1
    · rw [if_neg (fun t => t b), sp_139 (by rw [e6]; unfold i32; omega), if_pos e6, Option.bind_some, if_pos b]
      have t6 : (gw1 s 215 6 (8 * (p : Int) + 3)).1 215 6 = 8 * (p : Int) + 3 := by rw [gw1_1, if_pos ⟨rfl, rfl⟩]
      obtain ⟨u, u1, u2, u3⟩ := fp_78 (gw1 s 215 6 (8 * (p : Int) + 3)) (x := sl (sgn tb L p)) (by omega) (by rw [t6]; unfold i32; omega) (by rw [t6]; omega)
      exact ⟨u, u1, CR_tr (CR_1 s _ (by omega)) u2, u3.trans t6, fun h => by omega⟩
    · rw [if_pos b, if_neg b]
      obtain ⟨t, ht⟩ : ∃ t, t = gw1 s 215 5 ((p + 1 : Nat) : Int) := ⟨_, rfl⟩
      have tC : CR s t := by rw [ht]; exact CR_1 s _ (by omega)
      have tT := CR_TF tC hT
      have t5 : t.1 215 5 = ((p + 1 : Nat) : Int) := by rw [ht, gw1_1, if_pos ⟨rfl, rfl⟩]
      have t6 : t.1 215 6 = -1 := by rw [ht, gw1_1, if_neg (by omega)]; exact e6
      have s1 := sr (p + 1)
      have g2 : gm_146_78 (sl (sgn tb L p)) s = if sgn tb L (p + 1) = 61 then gm_146_113 (sl (sgn tb L p)) t else gm_146_113 (sl (sgn tb L p)) (gw1 t 215 6 (8 * ((p + 1 : Nat) : Int) + 1)) := by
        have et : gw1 s 215 5 ((s.1 215 5) + 1) = t := by rw [e5, ht]; rfl
        unfold gm_146_78
        rw [et, sp_138 (by rw [t6]; unfold i32; omega), Option.bind_some, if_neg (fun q => (gbD s).mp q t6)]
        show ((gm_137 t).bind _) = _
        rw [sp_137 tT (by omega) t5, Option.bind_some]
        show (if -2147483648 ≤ sgn tb L (p + 1) ∧ sgn tb L (p + 1) ≤ 2147483647 then (if sgn tb L (p + 1) = 61 then gm_146_113 (sl (sgn tb L p)) t else ((gm_139 1 (t.1 215 5) t).bind fun q9 => gm_146_113 (sl (sgn tb L p)) q9)) else none) = _
        rw [if_pos (by omega), sp_139 (by rw [t6]; unfold i32; omega), if_pos t6, Option.bind_some, t5]
      rw [g2]
      by_cases c : sgn tb L (p + 1) = 61
      · rw [if_pos c, if_neg (show ¬ ¬ sgn tb L (p + 1) = 61 from fun q => q c)]
        obtain ⟨w, hw⟩ : ∃ w, w = gw1 t 215 5 ((p + 2 : Nat) : Int) := ⟨_, rfl⟩
        have wC : CR t w := by rw [hw]; exact CR_1 t _ (by omega)
        have wT := CR_TF wC tT
        have w5 : w.1 215 5 = ((p + 2 : Nat) : Int) := by rw [hw, gw1_1, if_pos ⟨rfl, rfl⟩]
        have wo : ∀ k j, ¬ (k = 215 ∧ j = 5) → w.1 k j = s.1 k j := fun k j q => by rw [hw, gw1_1, if_neg q, ht, gw1_1, if_neg q]
        have w6 : w.1 215 6 = -1 := by rw [wo _ _ (by omega)]; exact e6
        have s2 := sr (p + 2)
        have g3 : gm_146_113 (sl (sgn tb L p)) t = if 48 ≤ sgn tb L (p + 2) ∧ sgn tb L (p + 2) ≤ 57 then gm_146_161 (sl (sgn tb L p)) ((p + 2 : Nat) : Int) w else gm_146_161 (sl (sgn tb L p)) ((p + 2 : Nat) : Int) (gw1 w 215 6 (8 * ((p + 2 : Nat) : Int) + 1)) := by
          have et : gw1 t 215 5 ((t.1 215 5) + 1) = w := by rw [t5, hw]; rfl
          unfold gm_146_113
          rw [et, sp_138 (by rw [w6]; unfold i32; omega), Option.bind_some, if_neg (fun q => (gbD s).mp q w6)]
          show ((gm_137 w).bind _) = _
          rw [sp_137 wT (by omega) w5, Option.bind_some]
          show (if -2147483648 ≤ sgn tb L (p + 2) ∧ sgn tb L (p + 2) ≤ 2147483647 then ((gm_130 (sgn tb L (p + 2)) 48 57 w).bind fun q8 => if ¬ (gb q8.1) = 0 then gm_146_161 (sl (sgn tb L p)) (w.1 215 5) q8.2 else ((gm_139 1 (q8.2.1 215 5) q8.2).bind fun q11 => gm_146_161 (sl (sgn tb L p)) (w.1 215 5) q11)) else none) = _
          rw [if_pos (by omega), in_ w (by unfold i32; omega) (by omega) (by omega), Option.bind_some]
          show (if ¬ (gb (decide (48 ≤ sgn tb L (p + 2) ∧ sgn tb L (p + 2) ≤ 57))) = 0 then gm_146_161 (sl (sgn tb L p)) (w.1 215 5) w else ((gm_139 1 (w.1 215 5) w).bind fun q11 => gm_146_161 (sl (sgn tb L p)) (w.1 215 5) q11)) = _
          rw [sp_139 (by rw [w6]; unfold i32; omega), if_pos w6, Option.bind_some, w5]
          by_cases d : 48 ≤ sgn tb L (p + 2) ∧ sgn tb L (p + 2) ≤ 57
          · rw [if_pos (fun q => (gbD w).mp q d), if_pos d]
          · rw [if_neg (fun q => q ((gbD w).mpr d)), if_neg d]
        rw [g3]
        by_cases d : 48 ≤ sgn tb L (p + 2) ∧ sgn tb L (p + 2) ≤ 57
        · rw [if_pos d, if_neg (show ¬ ¬ (48 ≤ sgn tb L (p + 2) ∧ sgn tb L (p + 2) ≤ 57) from fun q => q d)]
          have hp2 : p + 2 ≤ L := Nat.le_of_not_lt fun h => by
            have : sgn tb L (p + 2) = -1 := if_neg (by omega)
            omega
          obtain ⟨⟨n1, n2⟩, n3, n4, n5⟩ := nmr (fun q => (sr q).1) 200 0 (p + 2) (by omega) (by omega) hp2
          obtain ⟨u, u1, u2, u3, u4⟩ := sl_146 (sl := sl (sgn tb L p)) (b := ((p + 2 : Nat) : Int)) 200 (p + 2) 100000 0 w (by omega) hp2 (by omega) (by omega) (by omega) wT w5 w6
          have u1 : gm_146_161 (sl (sgn tb L p)) ((p + 2 : Nat) : Int) w = _ := u1
          have u6 : u.1 215 6 = -1 := by rw [u4 _ _ (by omega)]; exact w6
          have uC : CR s u := CR_tr tC (CR_tr wC ⟨u3, fun k j q1 q2 => u4 k j (by omega)⟩)
          rw [u1]
          unfold gm_146_222
          rw [if_pos (by omega), sp_139 (by rw [u6]; unfold i32; omega), if_pos u6, Option.bind_some]
          by_cases e : 9999 < (nm tb L 200 0 (p + 2)).1
          · obtain ⟨v, v1, v2, v3, _⟩ := fp_236 (gw1 u 215 6 (8 * ((p + 2 : Nat) : Int) + 2)) (x := sl (sgn tb L p)) (v := (nm tb L 200 0 (p + 2)).1) (by omega)
            rw [if_neg (show ¬ (nm tb L 200 0 (p + 2)).1 ≤ 9999 by omega), v1, if_pos e]
            exact ⟨v, rfl, CR_tr uC (CR_tr (CR_1 u _ (by omega)) v2), by rw [v3, gw1_1, if_pos ⟨rfl, rfl⟩], fun h => by omega⟩
          · obtain ⟨v, v1, v2, v3, v4, v5, v6⟩ := fp_236 u (x := sl (sgn tb L p)) (v := (nm tb L 200 0 (p + 2)).1) (by omega)
            rw [if_pos (show (nm tb L 200 0 (p + 2)).1 ≤ 9999 by omega), v1, if_neg e]
            refine ⟨v, rfl, CR_tr uC v2, v3.trans u6, fun _ => ⟨v4.trans u2, ?_, fun j => ?_⟩⟩
            · rw [v5, u4 _ _ (by omega), wo _ _ (by omega), e11]
            · rw [v6]
              refine uph_c ?_ _ _
              rw [u4 _ _ (by omega), wo _ _ (by omega)]
        · rw [if_neg d, if_pos (show ¬ (48 ≤ sgn tb L (p + 2) ∧ sgn tb L (p + 2) ≤ 57) from d)]
          have x6 : (gw1 w 215 6 (8 * ((p + 2 : Nat) : Int) + 1)).1 215 6 = 8 * ((p + 2 : Nat) : Int) + 1 := by rw [gw1_1, if_pos ⟨rfl, rfl⟩]
          obtain ⟨u, u1, u2, u3⟩ := fp_161 (gw1 w 215 6 (8 * ((p + 2 : Nat) : Int) + 1)) (x := sl (sgn tb L p)) (b := ((p + 2 : Nat) : Int)) (by omega) (by rw [x6]; unfold i32; omega) (by rw [x6]; omega)
          exact ⟨u, u1, CR_tr tC (CR_tr wC (CR_tr (CR_1 w _ (by omega)) u2)), u3.trans x6, fun h => by omega⟩
      · rw [if_neg c, if_pos (show ¬ sgn tb L (p + 1) = 61 from c)]
        have x6 : (gw1 t 215 6 (8 * ((p + 1 : Nat) : Int) + 1)).1 215 6 = 8 * ((p + 1 : Nat) : Int) + 1 := by rw [gw1_1, if_pos ⟨rfl, rfl⟩]
        obtain ⟨u, u1, u2, u3⟩ := fp_113 (gw1 t 215 6 (8 * ((p + 1 : Nat) : Int) + 1)) (x := sl (sgn tb L p)) (by omega) (by rw [x6]; unfold i32; omega) (by rw [x6]; omega)
        exact ⟨u, u1, CR_tr tC (CR_tr (CR_1 t _ (by omega)) u2), u3.trans x6, fun h => by omega⟩
end
section
/-! CALLS: counts -/
theorem sl_147_49 {L : Nat} {tb : Nat → Int} : ∀ (k p n : Nat) (T : Int) (h : Nat → Int) (s : gx_S), L < p + 4 * k → p ≤ L → k < n → TF s L tb → s.1 215 5 = p → s.1 215 6 = -1 → s.1 215 11 = T → (∀ j, j < 9 → s.1 220 j = h j) → ∃ u : gx_S, gm_147_49 n 1 s = some u ∧ CR s u ∧ u.1 215 6 = (cts tb L k T p h).1 ∧ ((cts tb L k T p h).1 = -1 → ∀ j, j < 9 → u.1 220 j = (cts tb L k T p h).2 j) := by
  intro k
  induction k with
  | zero => intro p n T h s h1 h2; omega
  | succ k ih =>
    intro p n T h s h1 h2 h3 hT e5 e6 e11 eh
    obtain ⟨n, rfl⟩ : ∃ n', n = n' + 1 := ⟨n - 1, by omega⟩
    have hL := hT.1
    have sr := sgn_rf hT
    obtain ⟨pr1, pr2⟩ := prt_r (T := T) (fun q => (sr q).1) h2 hL
    obtain ⟨u, u1, uC, u2, u3⟩ := sp_146 hT h2 e5 e6 e11
    have ui : i32 (u.1 215 6) := by rw [u2]; unfold i32; omega
    have uT := CR_TF uC hT
    rw [gm_147_49, if_pos (show (-2147483648 : Int) ≤ 1 ∧ (1 : Int) ≤ 2147483647 by decide), if_neg (show ¬ (1 : Int) = 0 by decide), u1, Option.bind_some, sp_138 ui, Option.bind_some, cts_s]
    have st : ∀ y, u.1 215 5 = y → gm_147_78 (gm_147_49 n) 0 u = gm_147_49 n 0 (gw1 u 215 5 y) := fun y hy => by
      unfold gm_147_78
      rw [sp_131 (.inl rfl) u, Option.bind_some]
      show gm_147_49 n 0 (gw1 u 215 5 (u.1 215 5 + 0)) = _
      rw [hy, show y + 0 = y by omega]
    by_cases z : prt tb L T p = -1
    · obtain ⟨p1, p2, p3, p4⟩ := pr2 z
      obtain ⟨v1, v2, v3⟩ := u3 z
      have sq := sr (pe tb L p)
      rw [if_neg (fun t => (gbD u).mp t (u2.trans z)), if_neg (show ¬ ¬ prt tb L T p = -1 from fun t => t z)]
      show ∃ v : gx_S, ((gm_137 u).bind _) = _ ∧ _
      rw [sp_137 uT (by omega) v1, Option.bind_some]
      show ∃ v : gx_S, (if -2147483648 ≤ sgn tb L (pe tb L p) ∧ sgn tb L (pe tb L p) ≤ 2147483647 then (if ¬ sgn tb L (pe tb L p) = 44 then gm_147_78 (gm_147_49 n) 0 u else gm_147_78 (gm_147_49 n) 1 u) else none) = _ ∧ _
      rw [if_pos (by omega)]
      by_cases c : sgn tb L (pe tb L p) = 44
      · have hq : pe tb L p < L := Classical.byContradiction fun h => by
          have : sgn tb L (pe tb L p) = -1 := if_neg h
          omega
        have cp : ((pe tb L p : Int) + 1) = ((pe tb L p + 1 : Nat) : Int) := rfl
        rw [if_neg (fun t => t c), if_pos c]
        unfold gm_147_78
        rw [sp_131 (.inr rfl) u, Option.bind_some]
        show ∃ v : gx_S, (gm_147_49 n 1 (gw1 u 215 5 (u.1 215 5 + 1))) = _ ∧ _
        rw [v1, cp]
        have o : ∀ k j, ¬ (k = 215 ∧ j = 5) → (gw1 u 215 5 ((pe tb L p + 1 : Nat) : Int)).1 k j = u.1 k j := fun k j q => by rw [gw1_1, if_neg q]
        have oC : CR u (gw1 u 215 5 ((pe tb L p + 1 : Nat) : Int)) := CR_1 u _ (by omega)
        obtain ⟨w, w1, w2, w3, w4⟩ := ih (pe tb L p + 1) n (bset T (sl (sgn tb L p))) (uph h (sl (sgn tb L p)) (pv tb L p)) (gw1 u 215 5 ((pe tb L p + 1 : Nat) : Int)) (by omega) (by omega) (by omega) (CR_TF oC uT) (by rw [gw1_1, if_pos ⟨rfl, rfl⟩]) (by rw [o _ _ (by omega), u2, z]) (by rw [o _ _ (by omega), v2]) (fun j hj => by rw [o _ _ (by omega), v3 j]; exact uph_c (eh j hj) _ _)
        exact ⟨w, w1, CR_tr uC (CR_tr oC w2), w3, w4⟩
      · obtain ⟨n, rfl⟩ : ∃ n', n = n' + 1 := ⟨n - 1, by omega⟩
        obtain ⟨t, ht⟩ : ∃ t, t = gw1 u 215 5 (pe tb L p : Int) := ⟨_, rfl⟩
        have to : ∀ k j, ¬ (k = 215 ∧ j = 5) → t.1 k j = u.1 k j := fun k j q => by rw [ht, gw1_1, if_neg q]
        have tC : CR u t := by rw [ht]; exact CR_1 u _ (by omega)
        have t6 : t.1 215 6 = -1 := by rw [to _ _ (by omega), u2, z]
        have t5 : t.1 215 5 = (pe tb L p : Int) := by rw [ht, gw1_1, if_pos ⟨rfl, rfl⟩]
        rw [if_pos c, st _ v1, if_neg c, ← ht, gm_147_49, if_pos (show (-2147483648 : Int) ≤ 0 ∧ (0 : Int) ≤ 2147483647 by decide), if_pos rfl, sp_138 (by rw [t6]; unfold i32; omega), Option.bind_some, if_neg (fun q => (gbD u).mp q t6)]
        show ∃ v : gx_S, ((gm_137 t).bind _) = _ ∧ _
        rw [sp_137 (CR_TF tC uT) (by omega) t5, Option.bind_some]
        show ∃ v : gx_S, (if -2147483648 ≤ sgn tb L (pe tb L p) ∧ sgn tb L (pe tb L p) ≤ 2147483647 then (if sgn tb L (pe tb L p) = -1 then some t else ((gm_139 1 (t.1 215 5) t).bind fun q11 => some q11)) else none) = _ ∧ _
        rw [if_pos (by omega), sp_139 (by rw [t6]; unfold i32; omega), if_pos t6, Option.bind_some, t5]
        by_cases d : sgn tb L (pe tb L p) = -1
        · rw [if_pos d, if_pos d]
          exact ⟨t, rfl, CR_tr uC tC, t6, fun _ j hj => by rw [to _ _ (by omega), v3 j]; exact uph_c (eh j hj) _ _⟩
        · rw [if_neg d, if_neg d]
          exact ⟨_, rfl, CR_tr uC (CR_tr tC (CR_1 t _ (by omega))), by rw [gw1_1, if_pos ⟨rfl, rfl⟩], fun h => by omega⟩
    · obtain ⟨n, rfl⟩ : ∃ n', n = n' + 1 := ⟨n - 1, by omega⟩
      obtain ⟨t, ht⟩ : ∃ t, t = gw1 u 215 5 (u.1 215 5) := ⟨_, rfl⟩
      have tC : CR u t := by rw [ht]; exact CR_1 u _ (by omega)
      have t6 : t.1 215 6 = prt tb L T p := by rw [ht, gw1_1, if_neg (by omega)]; exact u2
      rw [if_pos ((gbD u).mpr (by rw [u2]; exact z)), if_pos z]
      show ∃ v : gx_S, gm_147_78 (gm_147_49 (n + 1)) 0 u = _ ∧ _
      rw [st _ rfl, ← ht, gm_147_49, if_pos (show (-2147483648 : Int) ≤ 0 ∧ (0 : Int) ≤ 2147483647 by decide), if_pos rfl, sp_138 (by rw [t6]; unfold i32; omega), Option.bind_some, if_pos ((gbD u).mpr (by rw [t6]; exact z))]
      exact ⟨t, rfl, CR_tr uC tC, t6, fun h => absurd h z⟩
theorem sl_147_17 : ∀ (m j : Nat) (s : gx_S), 9 < m + j → j ≤ 9 → s.1 215 4 ≤ 200 → 0 ≤ s.1 215 4 → ∃ u : gx_S, gm_147_17 m j s = gm_147_48 (if s.1 215 4 = 0 then 0 else 1) u ∧ u.2 = s.2 ∧ (∀ k i, k ≠ 220 → u.1 k i = s.1 k i) ∧ ∀ i, u.1 220 i = if j ≤ i ∧ i < 9 then 0 else s.1 220 i := by
  intro m
  induction m with
  | zero => intro j s h; omega
  | succ m ih =>
    intro j s h hj e1 e2
    rw [gm_147_17, if_pos (by omega)]
    by_cases q : j = 9
    · rw [if_pos (by omega), if_pos (by omega)]
      refine ⟨s, ?_, rfl, fun _ _ _ => rfl, fun i => by rw [if_neg (by omega)]⟩
      by_cases z : s.1 215 4 = 0
      · rw [if_pos (by omega), if_pos z]
      · rw [if_neg (by omega), if_neg z]
    · have ce : ((j : Int) + 1) = ((j + 1 : Nat) : Int) := rfl
      have i5 : ((j : Int)).toNat = j := by omega
      have x4 : (gw1 s 220 j 0).1 215 4 = s.1 215 4 := by rw [gw1_1, if_neg (by omega)]
      rw [if_neg (by omega), if_pos (by omega), i5, ce]
      obtain ⟨u, u1, u2, u3, u4⟩ := ih (j + 1) (gw1 s 220 j 0) (by omega) (by omega) (by rw [x4]; exact e1) (by rw [x4]; exact e2)
      rw [x4] at u1
      refine ⟨u, u1, u2, fun k i h1 => by rw [u3 k i h1, gw1_1, if_neg (fun x => h1 x.1)], fun i => ?_⟩
      rw [u4, gw1_1]
      by_cases y : i = j
      · rw [if_neg (show ¬ (j + 1 ≤ i ∧ i < 9) by omega), if_pos ⟨rfl, y⟩, if_pos (show j ≤ i ∧ i < 9 by omega)]
      · by_cases y2 : j + 1 ≤ i ∧ i < 9
        · rw [if_pos y2, if_pos (show j ≤ i ∧ i < 9 by omega)]
        · rw [if_neg y2, if_neg (show ¬ (220 = 220 ∧ i = j) from fun x => y x.2), if_neg (show ¬ (j ≤ i ∧ i < 9) by omega)]
theorem sp_147 {L : Nat} {tb : Nat → Int} {s : gx_S} (hT : TF s L tb) : ∃ u : gx_S, gm_147 s = some u ∧ CR s u ∧ u.1 215 6 = (ctw tb L).1 ∧ ((ctw tb L).1 = -1 → ∀ j, j < 9 → u.1 220 j = (ctw tb L).2 j) := by
  have hL := hT.1
  obtain ⟨b, hb⟩ : ∃ b, b = gw1 (gw1 (gw1 s 215 5 0) 215 6 (-1)) 215 11 0 := ⟨_, rfl⟩
  have bC : CR s b := by rw [hb]; exact CR_tr (CR_1 s _ (by omega)) (CR_tr (CR_1 _ _ (by omega)) (CR_1 _ _ (by omega)))
  have b5 : b.1 215 5 = ((0 : Nat) : Int) := by rw [hb, gw1_1, if_neg (by omega), gw1_1, if_neg (by omega), gw1_1, if_pos ⟨rfl, rfl⟩]; rfl
  have b6 : b.1 215 6 = -1 := by rw [hb, gw1_1, if_neg (by omega), gw1_1, if_pos ⟨rfl, rfl⟩]
  have b11 : b.1 215 11 = 0 := by rw [hb, gw1_1, if_pos ⟨rfl, rfl⟩]
  have bT := CR_TF bC hT
  obtain ⟨a, a1, a2, a3, a4⟩ := sl_147_17 100000 0 b (by omega) (by omega) (by rw [bT.2.1]; omega) (by rw [bT.2.1]; omega)
  have a1 : gm_147_17 100000 0 b = _ := a1
  have aC : CR b a := ⟨a2, fun k j q1 q2 => a3 k j q1⟩
  have aT := CR_TF aC bT
  have a220 : ∀ j, j < 9 → a.1 220 j = 0 := fun j hj => by rw [a4, if_pos (by omega)]
  have a5 : a.1 215 5 = ((0 : Nat) : Int) := by rw [a3 _ _ (by decide)]; exact b5
  have a6 : a.1 215 6 = -1 := by rw [a3 _ _ (by decide)]; exact b6
  have a11 : a.1 215 11 = 0 := by rw [a3 _ _ (by decide)]; exact b11
  unfold gm_147 ctw
  rw [← hb, a1, bT.2.1]
  by_cases z : L = 0
  · rw [if_pos (show (L : Int) = 0 by omega), if_pos z]
    refine ⟨a, ?_, CR_tr bC aC, a6, fun _ j hj => a220 j hj⟩
    have sg0 : sgn tb L 0 = -1 := if_neg (by omega)
    unfold gm_147_48
    rw [gm_147_49, if_pos (show (-2147483648 : Int) ≤ 0 ∧ (0 : Int) ≤ 2147483647 by decide), if_pos rfl, sp_138 (by rw [a6]; unfold i32; omega), Option.bind_some, if_neg (fun q => (gbD a).mp q a6)]
    show ((gm_137 a).bind _) = _
    rw [sp_137 aT (by omega) a5, Option.bind_some, sg0, if_pos (show (-2147483648 : Int) ≤ -1 ∧ (-1 : Int) ≤ 2147483647 by decide), if_pos rfl]
  · obtain ⟨u, u1, u2, u3, u4⟩ := sl_147_49 51 0 100000 0 (fun _ => 0) a (by omega) (by omega) (by omega) aT a5 a6 a11 a220
    rw [if_neg (show ¬ (L : Int) = 0 by omega), if_neg z]
    exact ⟨u, u1, CR_tr bC (CR_tr aC u2), u3, u4⟩
end
section
/-! CALLS: texts taken on both sides -/
def CX (s u : gx_S) : Prop := u.2 = s.2 ∧ ∀ k j, k ≠ 219 → k ≠ 220 → ¬ (k = 215 ∧ 5 ≤ j ∧ j ≤ 11) → u.1 k j = s.1 k j
theorem CR_CX {s u : gx_S} (h : CR s u) : CX s u := ⟨h.1, fun k j q1 q2 q3 => h.2 k j q2 (by omega)⟩
theorem RV_CX {s u : gx_S} {f : Nat → Int} {n L : Nat} {pf : Nat → Nat → Int} {tb : Nat → Int} (k : CX s u) (h : RV s f n pf L tb) : RV u f n pf L tb := by
  obtain ⟨h1, ⟨h2, h3⟩, h4, h5, h6⟩ := h
  refine ⟨?_, ⟨(k.2 _ _ (by omega) (by omega) (by omega)).trans h2, fun k' hk i hi => (k.2 _ _ (by omega) (by omega) (by omega)).trans (h3 k' hk i hi)⟩, (k.2 _ _ (by omega) (by omega) (by omega)).trans h4, fun i hi => by rw [k.2 218 i (by omega) (by omega) (by omega)]; exact h5 i hi, ⟨fun j hj => ?_, fun c hc => ?_, fun i hi => ?_⟩⟩
  · funext i
    rw [k.2 216 i (by omega) (by omega) (by omega), h1]
  · rw [k.2 232 j (by omega) (by omega) (by omega), k.2 233 j (by omega) (by omega) (by omega), k.2 234 j (by omega) (by omega) (by omega), k.1]
    exact h6.1 j hj
  · rw [k.2 235 c (by omega) (by omega) (by omega), k.1]
    exact h6.2.1 c hc
  · rw [k.1]
    exact h6.2.2 i hi
theorem RV_0 {s : gx_S} {f : Nat → Int} {n L : Nat} {pf : Nat → Nat → Int} {tb : Nat → Int} (h : RV s f n pf L tb) : RV (gw1 s 215 4 0) f n pf 0 tb := by
  obtain ⟨h1, ⟨h2, h3⟩, h4, h5, h6⟩ := h
  refine ⟨?_, ⟨by rw [gw1_1, if_neg (by omega)]; exact h2, fun k' hk i hi => by rw [gw1_1, if_neg (by omega)]; exact h3 k' hk i hi⟩, by rw [gw1_1, if_pos ⟨rfl, rfl⟩]; rfl, fun i hi => absurd hi (by omega), ⟨fun j hj => ?_, fun c hc => ?_, fun i hi => h6.2.2 i hi⟩⟩
  · funext i
    rw [gw1_1, if_neg (by omega), h1]
  · rw [gw1_1, if_neg (by omega), gw1_1, if_neg (by omega), gw1_1, if_neg (by omega)]
    exact h6.1 j hj
  · rw [gw1_1, if_neg (by omega)]
    exact h6.2.1 c hc
theorem CV_0 {s u : gx_S} {f : Nat → Int} {R C n L : Nat} {pf : Nat → Nat → Int} {tb : Nat → Int} (o : ∀ k j, ¬ (58 ≤ k ∧ k ≤ 61) → u.1 k j = s.1 k j) (h : CV s f R C n pf L tb) : CV (gw1 u 14 1 0) f R C n pf 0 tb := by
  obtain ⟨h1, h2, h3, h4, h5⟩ := CV_o (u := u) (fun k j q => o k j (by omega)) h
  have o2 : ∀ k j, ¬ k = 14 → (gw1 u 14 1 0).1 k j = u.1 k j := fun k j q => by rw [gw1_1, if_neg (by omega)]
  refine ⟨MR_o (fun k j q1 q2 => o2 k j (by omega)) h1, fun g hg => ?_, HC_o (fun k j q1 q2 => o2 k j (by omega)) h3, by rw [gw1_1, if_pos ⟨rfl, rfl⟩]; rfl, fun i hi => absurd hi (by omega)⟩
  obtain ⟨D, z⟩ := h2 g hg
  exact ⟨D, GGD_o (fun k j q1 q2 => o2 k j (by omega)) z⟩
theorem KC_0 {s u : gx_S} (e : u.2 = s.2) (o : ∀ k j, ¬ (58 ≤ k ∧ k ≤ 61) → u.1 k j = s.1 k j) : KC s (gw1 u 14 1 0) := ⟨fun k j q => by rw [gw1_1, if_neg (by omega), o k j (by omega)], fun k j _ => by rw [gw1_2, e]⟩
theorem CV_TC {s : gx_S} {f : Nat → Int} {R C n L : Nat} {pf : Nat → Nat → Int} {tb : Nat → Int} (c : CV s f R C n pf L tb) (v : AV f R C L tb) : TC s L tb := ⟨v.2.1, c.2.2.2.1, fun i hi => ⟨c.2.2.2.2 i hi, v.2.2 i hi⟩⟩
theorem RV_TF {s : gx_S} {f : Nat → Int} {R C n L : Nat} {pf : Nat → Nat → Int} {tb : Nat → Int} (r : RV s f n pf L tb) (v : AV f R C L tb) : TF s L tb := ⟨v.2.1, r.2.2.1, fun i hi => ⟨r.2.2.2.1 i hi, v.2.2 i hi⟩⟩
/-- an act behind a text -/
theorem act_pre3 {s : gx_S} {f : Nat → Int} {R C n L : Nat} {pf : Nat → Nat → Int} {tb : Nat → Int} (c : CV s f R C n pf L tb) (v : AV f R C L tb) (e : s.1 216 = f) : ∃ u : gx_S, gm_119 s = some u ∧ u.2 = s.2 ∧ MR u 1 f R C ∧ u.1 216 = f ∧ (∀ k j, ¬ (16 ≤ k ∧ k ≤ 57) → ¬ ((k = 71 ∨ k = 119 ∨ k = 167) ∧ j = 8) → u.1 k j = s.1 k j) ∧ ∀ u' t : gx_S, (∀ k j, 6 ≤ k → u'.1 k j = u.1 k j) → u'.2 = u.2 → KF u' t → RV t f n pf L tb → ∃ w : gx_S, gm_132 t = some w ∧ w.1 216 = f ∧ (∀ k i, k ≠ 217 → ¬ (k = 215 ∧ i = 2) → w.1 k i = t.1 k i) ∧ ∀ (w' : gx_S) (fn : Nat → Int) (R' C' : Nat), (∀ k j, k ≠ 216 → w'.1 k j = w.1 k j) → w'.2 = w.2 → MP fn R' C' → MR u' 1 fn R' C' → (∀ i, i < 340 → w'.1 216 i = fn i) → INV w' := by
  obtain ⟨u, u1, u2, u3, u4⟩ := sp_119 v.1 c
  have eu : u.1 216 = f := by
    funext q
    rw [u4 216 q (by omega) (by omega), e]
  refine ⟨u, u1, u3, u2.1, eu, u4, fun u' t h1 h2 kt rv => ?_⟩
  obtain ⟨w, w1, w2, w3, w4⟩ := sp_132 c.2.2.1.1 rv.2.1
  rw [rv.1] at w4
  have ew : w.1 216 = f := by
    funext q
    rw [w3 216 q (by decide) (by omega), rv.1]
  refine ⟨w, w1, ew, w3, fun w' fn R' C' k1 k2 hM hR e => ?_⟩
  obtain ⟨a1, a2, a3, a4, a5⟩ := u2
  have ca : CW u' fn R' C' (nn n) (pn n pf f) L tb := ⟨hR, fun g hg => ⟨by rw [h1 _ _ (by omega)]; exact (a2 g hg).1, by rw [h1 _ _ (by omega)]; exact (a2 g hg).2⟩, HC_o (fun k j q1 q2 => h1 k j (by omega)) a3, by rw [h1 _ _ (by omega)]; exact a4, fun q hq => by rw [h1 _ _ (by omega)]; exact a5 q hq⟩
  have kf : KF u' w' := KF_tr kt ⟨fun k j q => by rw [k1 k j (by omega)]; exact w3 k j (by omega) (by omega), fun k j _ => by rw [k2, w2]⟩
  obtain ⟨r1, r2, r3, r4, r5⟩ := rv
  refine ⟨w'.1 216, R', C', nn n, pn n pf f, L, tb, CW_CV hM e (CW_KF kf ca), ⟨rfl, ⟨by rw [k1 _ _ (by omega)]; exact w4.1, fun q hq p hp => by rw [k1 _ _ (by omega)]; exact w4.2 q hq p hp⟩, by rw [k1 _ _ (by omega), w3 215 4 (by decide) (by omega)]; exact r3, fun p hp => by rw [k1 _ _ (by omega), w3 218 p (by decide) (by omega)]; exact r4 p hp, ⟨fun p hp => ?_, fun d hd => ?_, fun p hp => ?_⟩⟩, MP_c e hM, v.2⟩
  · rw [k1 _ _ (by omega), k1 _ _ (by omega), k1 _ _ (by omega), w3 232 p (by decide) (by omega), w3 233 p (by decide) (by omega), w3 234 p (by decide) (by omega), k2, w2]
    exact r5.1 p hp
  · rw [k1 _ _ (by omega), w3 235 d (by decide) (by omega), k2, w2]
    exact r5.2.1 d hd
  · rw [k2, w2]
    exact r5.2.2 p hp
theorem sl_149_41 {g : Nat} (hg : g < 3) {H : Nat → Int} : ∀ (m j : Nat) (s : gx_S), 9 < m + j → j ≤ 9 → (∀ i, i < 9 → s.1 220 i = H i) → ∃ u : gx_S, gm_149_41 m g (sg H j) j s = some (sg H 9, u) ∧ u.2 = s.2 ∧ (∀ k i, k ≠ 216 → u.1 k i = s.1 k i) ∧ ∀ i, u.1 216 i = if 5 + 9 * g + j ≤ i ∧ i < 14 + 9 * g then H (i - 5 - 9 * g) else s.1 216 i := by
  intro m
  induction m with
  | zero => intro j s h; omega
  | succ m ih =>
    intro j s h hj e
    rw [gm_149_41, if_pos (by omega)]
    by_cases q : j = 9
    · rw [if_pos (by omega), q]
      exact ⟨s, rfl, rfl, fun _ _ _ => rfl, fun i => by rw [if_neg (by omega)]⟩
    · have ce : ((j : Int) + 1) = ((j + 1 : Nat) : Int) := rfl
      have i5 : ((j : Int)).toNat = j := by omega
      have i6 : ((5 + (9 * (g : Int))) + (j : Int)).toNat = 5 + 9 * g + j := by omega
      have x2 : (gw1 s 216 (5 + 9 * g + j) (H j)).1 220 j = H j := by rw [gw1_1, if_neg (by omega), e j (by omega)]
      rw [if_neg (by omega), if_pos (by omega), if_pos (by omega), i5, i6, ce, e j (by omega), x2, show sg H j + H j = sg H (j + 1) from rfl]
      obtain ⟨u, u1, u2, u3, u4⟩ := ih (j + 1) (gw1 s 216 (5 + 9 * g + j) (H j)) (by omega) (by omega) (fun i hi => by rw [gw1_1, if_neg (by omega), e i hi])
      refine ⟨u, u1, u2, fun k i h1 => by rw [u3 k i h1, gw1_1, if_neg (fun x => h1 x.1)], fun i => ?_⟩
      rw [u4, gw1_1]
      by_cases y : i = 5 + 9 * g + j
      · rw [if_neg (show ¬ (5 + 9 * g + (j + 1) ≤ i ∧ i < 14 + 9 * g) by omega), if_pos ⟨rfl, y⟩, if_pos (show 5 + 9 * g + j ≤ i ∧ i < 14 + 9 * g by omega), y, show 5 + 9 * g + j - 5 - 9 * g = j by omega]
      · by_cases y2 : 5 + 9 * g + (j + 1) ≤ i ∧ i < 14 + 9 * g
        · rw [if_pos y2, if_pos (show 5 + 9 * g + j ≤ i ∧ i < 14 + 9 * g by omega)]
        · rw [if_neg y2, if_neg (show ¬ (216 = 216 ∧ i = 5 + 9 * g + j) from fun x => y x.2), if_neg (show ¬ (5 + 9 * g + j ≤ i ∧ i < 14 + 9 * g) by omega)]
/-- the map with another group's counts -/
def fc (f : Nat → Int) (g : Nat) (H : Nat → Int) (i : Nat) : Int := if 5 + 9 * g ≤ i ∧ i < 14 + 9 * g then H (i - 5 - 9 * g) else f i
theorem MP_fc {f : Nat → Int} {R C g : Nat} {H : Nat → Int} (M : MP f R C) (hg : g < 3) (hH : ∀ j, 0 ≤ H j ∧ H j ≤ 9999) : MP (fc f g H) R C := by
  obtain ⟨m1, m2, m3, m4, m5, m6, m7, m8, m10⟩ := M
  have o : ∀ i, ¬ (5 ≤ i ∧ i < 32) → fc f g H i = f i := fun i h => by
    unfold fc
    rw [if_neg (by omega)]
  refine ⟨by rw [o 0 (by omega), o 1 (by omega)]; exact m1, by rw [o 2 (by omega)]; exact m2, by rw [o 3 (by omega)]; exact m3, by rw [o 4 (by omega)]; exact m4, fun x hx => ?_, fun i hi => by rw [o _ (by omega)]; exact m6 i hi, fun i hi => by rw [o _ (by omega)]; exact m7 i hi, fun l hl b k hk => by rw [o _ (by omega)]; exact m8 l hl (by rw [o _ (by omega)] at b; exact b) k hk, by rw [o _ (by omega)]; exact m10⟩
  by_cases e : x = g
  · have c : ∀ z, z < 9 → fc f g H (5 + 9 * x + z) = H z := fun z hz => by
      unfold fc
      rw [if_pos (by omega), e, show 5 + 9 * g + z - 5 - 9 * g = z by omega]
    refine ⟨fun z hz => by rw [c z hz]; exact (hH z).1, ?_⟩
    rw [sg_eq (g := H) c]
    exact Int.le_trans (sg_le (g := fun _ => 9999) fun z hz => (hH z).2) (by decide)
  · have c : ∀ z, z < 9 → fc f g H (5 + 9 * x + z) = f (5 + 9 * x + z) := fun z hz => by
      unfold fc
      rw [if_neg (by omega)]
    refine ⟨fun z hz => by rw [c z hz]; exact (m5 x hx).1 z hz, ?_⟩
    rw [sg_eq (g := fun z => f (5 + 9 * x + z)) c]
    exact (m5 x hx).2
theorem inv_counts {s : gx_S} (h : INV s) {x : Int} (hx : i32 x) : two s (gm_88 x) (gm_149 x) := by
  obtain ⟨f, R, C, n, pf, L, tb, c, r, v⟩ := id h
  have hx' := hx
  unfold i32 at hx'
  have hL := v.2.1
  have cT := CV_TC c v
  have v0 : AV f R C 0 tb := ⟨v.1, by omega, fun i hi => absurd hi (by omega)⟩
  unfold two gm_88 gm_149
  rw [sp_114 s hx, Option.bind_some]
  by_cases a : 0 ≤ x ∧ x < 3
  · obtain ⟨g, rfl⟩ : ∃ g : Nat, x = g := ⟨x.toNat, by omega⟩
    rw [if_pos (fun q => (gbD s).mp q a)]
    obtain ⟨u, u1, uC, ur, u2⟩ := sp_4 cT
    show ∃ (r : Int) (u' w : gx_S), ((gm_4 s).bind _) = some (r, u') ∧ _
    rw [u1, Option.bind_some]
    have uo : ∀ k j, ¬ (58 ≤ k ∧ k ≤ 61) → u.1 k j = s.1 k j := fun k j q => uC.2 k j (by omega) (by omega)
    have c0 := CV_0 uo c
    have k0 := KC_0 uC.1 uo
    have r0 := RV_KC k0 r
    obtain ⟨b, hb⟩ : ∃ b, b = gw1 u 14 1 0 := ⟨_, rfl⟩
    rw [← hb] at c0 k0 r0
    -- what the reference does before it acts
    have ref : ∀ t : gx_S, RV t f n pf L tb → ∃ w : gx_S, KF t w ∧ RV w f n pf 0 tb ∧ w.1 215 6 = (ctw tb L).1 ∧ ((ctw tb L).1 = -1 → ∀ j, j < 9 → w.1 220 j = (ctw tb L).2 j) ∧ (((gm_148 g t).bind fun q22 => if ¬ (gb q22.1) = 0 then ((gm_147 q22.2).bind fun q25 => (gm_138 (gw1 q25 215 4 0)).bind fun q27 => if ¬ (gb q27.1) = 0 then ((gm_132 q27.2).bind fun q30 => gm_149_41 100000 g 0 0 q30) else (some (((-2) - (q27.2.1 215 6)), q27.2))) else (some ((-1), q22.2))) : Option (Int × gx_S)) = if (ctw tb L).1 = -1 then ((gm_132 w).bind fun q30 => gm_149_41 100000 g 0 0 q30) else some (-2 - (ctw tb L).1, w) := fun t rt => by
      obtain ⟨y, y1, y2, y3, y4⟩ := sp_147 (RV_TF rt v)
      obtain ⟨w, hw⟩ : ∃ w, w = gw1 y 215 4 0 := ⟨_, rfl⟩
      have wo : ∀ k j, ¬ (k = 215 ∧ j = 4) → w.1 k j = y.1 k j := fun k j q => by rw [hw, gw1_1, if_neg q]
      have w6 : w.1 215 6 = (ctw tb L).1 := by rw [wo _ _ (by omega), y3]
      refine ⟨w, ⟨fun k j q => by rw [wo _ _ (by omega), y2.2 k j (by omega) (by omega)], fun k j q => by rw [hw, gw1_2, y2.1]⟩, by rw [hw]; exact RV_0 (RV_CX (CR_CX y2) rt), w6, fun q j hj => by rw [wo _ _ (by omega), y4 q j hj], ?_⟩
      rw [sp_148 t (by unfold i32; omega), Option.bind_some, if_pos (fun q => (gbD t).mp q (by omega))]
      show ((gm_147 t).bind _) = _
      rw [y1, Option.bind_some, ← hw, sp_138 (by rw [w6]; unfold i32; omega), Option.bind_some]
      show (if ¬ (gb (decide (w.1 215 6 = -1))) = 0 then ((gm_132 w).bind fun q30 => gm_149_41 100000 g 0 0 q30) else (some (((-2) - (w.1 215 6)), w))) = _
      rw [w6]
      by_cases z : (ctw tb L).1 = -1
      · rw [if_pos (fun q => (gbD t).mp q z), if_pos z]
      · rw [if_neg (fun q => q ((gbD t).mpr z)), if_neg z]
    show ∃ (r : Int) (u' w : gx_S), (if (-2147483648 ≤ (ctw tb L).1 ∧ (ctw tb L).1 ≤ 2147483647) then (if (ctw tb L).1 = -1 then ((gm_119 (gw1 u 14 1 0)).bind fun q23 => if 0 ≤ (0 : Int) ∧ 0 ≤ ((g * 9) : Int) ∧ 0 ≤ (9 : Int) ∧ (0 : Int) + 9 ≤ 9 ∧ ((g * 9) : Int) + 9 ≤ 27 then ((gm_66 1 g (gcp q23 61 0 3 ((g * 9) : Int).toNat 9)).bind fun q28 => some (q28.1, q28.2)) else none) else some (((-2) - (ctw tb L).1), (gw1 u 14 1 0))) else none) = some (r, u') ∧ _
    rw [if_pos (by omega), ← hb]
    by_cases z : (ctw tb L).1 = -1
    · have fr := ctw_r (fun p => (sgn_r cT p).1) hL
      have e0 : b.1 216 = f := r0.1
      obtain ⟨d, d1, d2, d3, d4, d5, d6⟩ := act_pre3 c0 v0 e0
      have i2 : ((g : Int) * 9).toNat = 9 * g := by omega
      rw [if_pos z, d1, Option.bind_some, if_pos (by omega), i2]
      obtain ⟨u', hu'⟩ : ∃ u', u' = gcp d 61 0 3 (9 * g) 9 := ⟨_, rfl⟩
      have uk : ∀ k j, k ≠ 3 → u'.1 k j = d.1 k j := fun k j q => by rw [hu', gcp_1, if_neg (by omega)]
      have u3 : ∀ j, u'.1 3 j = if 9 * g ≤ j ∧ j < 9 * g + 9 then (ctw tb L).2 (j - 9 * g) else d.1 3 j := fun j => by
        rw [hu', gcp_1]
        by_cases y : 9 * g ≤ j ∧ j < 9 * g + 9
        · rw [if_pos (by omega), if_pos y, d5 _ _ (by omega) (by omega), hb, gw1_1, if_neg (by omega), show 0 + (j - 9 * g) = j - 9 * g by omega, u2 z _ (by omega)]
        · rw [if_neg (by omega), if_neg y]
      have ue : u'.2 = d.2 := by rw [hu']; rfl
      rw [← hu']
      have mr : MR u' 1 (fc f g (ctw tb L).2) R C := by
        obtain ⟨m1, m2, m3, m4, m5, m6, m7, m8, m9⟩ := d3
        have o : ∀ i, ¬ (5 ≤ i ∧ i < 32) → fc f g (ctw tb L).2 i = f i := fun i h => by
          unfold fc
          rw [if_neg (by omega)]
        refine ⟨by rw [uk _ _ (by omega), o 0 (by omega)]; exact m1, by rw [uk _ _ (by omega), o 1 (by omega)]; exact m2, by rw [uk _ _ (by omega), o 2 (by omega)]; exact m3, by rw [uk _ _ (by omega), o 3 (by omega)]; exact m4, by rw [uk _ _ (by omega), o 4 (by omega)]; exact m5, fun i hi => ?_, fun i hi => by rw [uk _ _ (by omega), o _ (by omega)]; exact m7 i hi, fun i hi => by rw [uk _ _ (by omega), o _ (by omega)]; exact m8 i hi, fun l hl bb k hk => by rw [uk _ _ (by omega), o _ (by omega)]; exact m9 l hl (by rw [o _ (by omega)] at bb; exact bb) k hk⟩
        rw [show (1 : Nat) + 2 = 3 from rfl, u3]
        unfold fc
        by_cases y : 9 * g ≤ i ∧ i < 9 * g + 9
        · rw [if_pos y, if_pos (by omega), show 5 + i - 5 - 9 * g = i - 9 * g by omega]
        · rw [if_neg y, if_neg (by omega)]
          exact m6 i hi
      have kc : KC b u' := ⟨fun k j q => by rw [uk k j (by omega), d5 k j (by omega) (by omega)], fun k j _ => by rw [ue, d2]⟩
      obtain ⟨w, w1, w2, w3, w4, w5⟩ := ref u' (RV_KC kc r0)
      obtain ⟨y, y1, y2, y3, y4⟩ := d6 u' w (fun k j q => uk k j (by omega)) ue w1 w2
      obtain ⟨p, p1, p2, p3, p4⟩ := sl_149_41 (g := g) (by omega) (H := (ctw tb L).2) 100000 0 y (by omega) (by omega) (fun i hi => by rw [y3 220 i (by decide) (by omega), w4 z i hi])
      have p1 : gm_149_41 100000 g 0 0 y = _ := p1
      refine ⟨sg (ctw tb L).2 9, u', p, ?_, ?_, y4 p (fc f g (ctw tb L).2) R C p3 p2 (MP_fc v.1 (by omega) fr) mr fun i hi => ?_⟩
      · rw [sp_66g mr (by omega), Option.bind_some]
        have e : sg (fun z => fc f g (ctw tb L).2 (5 + 9 * g + z)) 9 = sg (ctw tb L).2 9 := sg_eq fun j hj => by
          unfold fc
          rw [if_pos (by omega), show 5 + 9 * g + j - 5 - 9 * g = j by omega]
        show some (sg (fun z => fc f g (ctw tb L).2 (5 + 9 * g + z)) 9, u') = _
        rw [e]
      · rw [w5, if_pos z, y1, Option.bind_some, p1]
      · rw [p4, y2]
        rfl
    · rw [if_neg z]
      obtain ⟨w, w1, w2, w3, w4, w5⟩ := ref b r0
      exact ⟨_, b, w, rfl, w5.trans (if_neg z), f, R, C, n, pf, 0, tb, CV_KF w1 c0, w2, v0⟩
  · rw [if_neg (fun q => q ((gbD s).mpr a))]
    refine ⟨-1, s, s, rfl, ?_, h⟩
    rw [sp_148 s hx, Option.bind_some, if_neg (fun q => q ((gbD s).mpr (by omega)))]
end
section
/-! TEXTS of layers: the class's reading -/
def lv_ (l : Nat) (x : Int) : Int := if l = 2 then (if 48 ≤ x ∧ x ≤ 51 then x - 48 else -1) else if x = 46 then 8 else if 97 ≤ x ∧ x ≤ 104 then x - 97 else -1
theorem lvr_ (l : Nat) (x : Int) : -1 ≤ lv_ l x ∧ lv_ l x ≤ (if l = 2 then 3 else 8) := by
  unfold lv_
  by_cases a : l = 2
  · rw [if_pos a, if_pos a]
    split <;> omega
  · rw [if_neg a, if_neg a]
    split
    · omega
    · split <;> omega
def up2 (h : Nat → Nat → Int) (r c : Nat) (v : Int) (i j : Nat) : Int := if i = r ∧ j = c then v else h i j
/-- a layer, from place p on, in row r with c signs; K: is the width w known -/
def lyt (tb : Nat → Int) (L l M : Nat) : Nat → Nat → Nat → Nat → Nat → Nat → (Nat → Nat → Int) → Int × Nat × Nat × (Nat → Nat → Int)
  | 0, _, r, c, _, _, h => (-1, r, c, h)
  | k + 1, p, r, c, K, w, h =>
    if ¬ lv_ l (sgn tb L p) = -1 then
      if w ≤ c then (8 * (p : Int) + 3, r, c, h) else lyt tb L l M k (p + 1) r (c + 1) K w (up2 h r c (lv_ l (sgn tb L p)))
    else if c = 0 ∨ ¬ (sgn tb L p = 47 ∨ sgn tb L p = -1) then (8 * (p : Int) + 1, r, c, h)
    else if K = 1 ∧ c < w then (8 * (p : Int) + 2, r, c, h)
    else if sgn tb L p = 47 then (if M ≤ r + 1 then (8 * (p : Int) + 3, r, c, h) else lyt tb L l M k (p + 1) (r + 1) 0 1 c h)
    else if ¬ l = 0 ∧ r + 1 < M then (8 * (p : Int) + 4, r, c, h) else (-1, r + 1, c, h)
theorem sp_35 (s : gx_S) {l : Nat} {x : Int} (hl : l < 3) (h : i32 x) : gm_35 x l s = some (lv_ l x, s) := by
  unfold i32 at h
  unfold gm_35 lv_
  rw [if_pos (by omega)]
  by_cases a : l = 2
  · rw [if_neg (by omega), if_pos a, if_pos h]
    by_cases b : x < 48
    · rw [if_pos b, if_neg (by omega)]
    · rw [if_neg b]
      by_cases c : 51 < x
      · rw [if_pos c, if_neg (by omega)]
      · rw [if_neg c, if_pos (by omega)]
  · rw [if_pos (by omega), if_neg a, if_pos h]
    by_cases d : x = 46
    · rw [if_neg (fun t => t d), if_pos d]
    · rw [if_pos d, if_neg d]
      by_cases b : x < 97
      · rw [if_pos b, if_neg (by omega)]
      · rw [if_neg b]
        by_cases c : 104 < x
        · rw [if_pos c, if_neg (by omega)]
        · rw [if_neg c, if_pos (by omega)]
def CLy (s u : gx_S) : Prop := u.2 = s.2 ∧ ∀ k j, k ≠ 58 → k ≠ 59 → u.1 k j = s.1 k j
theorem CLy_tr {s t u : gx_S} (a : CLy s t) (b : CLy t u) : CLy s u := ⟨b.1.trans a.1, fun k j h1 h2 => (b.2 k j h1 h2).trans (a.2 k j h1 h2)⟩
theorem CLy_TC {s u : gx_S} {L : Nat} {tb : Nat → Int} (a : CLy s u) (T : TC s L tb) : TC u L tb := TC_o (a.2 _ _ (by omega) (by omega)) (fun i => a.2 _ _ (by omega) (by omega)) T
/-- what is read so far -/
def LSt (s : gx_S) (l M r c K w : Nat) (h : Nat → Nat → Int) : Prop := s.1 58 1 = r ∧ s.1 58 2 = w ∧ s.1 58 3 = c ∧ s.1 58 4 = M ∧ s.1 58 5 = K ∧ s.1 58 6 = (if l = 0 then 0 else 1) ∧ ∀ i j, (i < r ∧ j < w) ∨ (i = r ∧ j < c) → s.1 59 (i * w + j) = h i j
/-- the wrong of a place -/
def wr_ (tb : Nat → Int) (L l M p r c K w : Nat) : Int :=
  if ¬ lv_ l (sgn tb L p) = -1 then (if w ≤ c then 3 else 0)
  else if c = 0 ∨ ¬ (sgn tb L p = 47 ∨ sgn tb L p = -1) then 1
  else if K = 1 ∧ c < w then 2
  else if sgn tb L p = 47 then (if M ≤ r + 1 then 3 else 0)
  else if ¬ l = 0 ∧ r + 1 < M then 4 else 0
theorem sp_36 {s : gx_S} {l M r c K w : Nat} {h : Nat → Nat → Int} (S : LSt s l M r c K w h) (hc : c ≤ 12) (hw : w ≤ 12) : gm_36 s = some (if w ≤ c then 3 else 0, s) := by
  unfold gm_36
  rw [S.2.2.1, S.2.1, if_pos (by omega), if_pos (by omega)]
  by_cases a : w ≤ c
  · rw [if_neg (by omega), if_pos a]
  · rw [if_pos (by omega), if_neg a]
theorem sp_37 {s : gx_S} {l M r c K w : Nat} {h : Nat → Nat → Int} {x : Int} (S : LSt s l M r c K w h) (hc : c ≤ 12) (hw : w ≤ 12) (hr : r ≤ 8) (hM : M ≤ 8) (hK : K = 0 ∨ K = 1) (hx : i32 x) : gm_37 x s = some (if c = 0 ∨ ¬ (x = 47 ∨ x = -1) then 1 else if K = 1 ∧ c < w then 2 else if x = 47 then (if M ≤ r + 1 then 3 else 0) else if ¬ l = 0 ∧ r + 1 < M then 4 else 0, s) := by
  obtain ⟨s1, s2, s3, s4, s5, s6, s7⟩ := S
  unfold i32 at hx
  unfold gm_37
  rw [s3, if_pos (by omega)]
  by_cases a : c = 0
  · rw [if_pos (by omega), if_pos (.inl a)]
  · rw [if_neg (by omega), if_pos hx]
    have g40 : gm_37_40 x s = some (if x = 47 then (if M ≤ r + 1 then 3 else 0) else if ¬ l = 0 ∧ r + 1 < M then 4 else 0, s) := by
      unfold gm_37_40
      rw [if_pos hx, s1, s4, s6]
      by_cases b : x = 47
      · rw [if_neg (fun t => t b), if_pos b, if_pos (by omega), if_pos (by omega)]
        by_cases d : M ≤ r + 1
        · rw [if_neg (by omega), if_pos d]
        · rw [if_pos (by omega), if_neg d]
      · rw [if_pos b, if_neg b]
        by_cases d : l = 0
        · rw [if_pos d, if_pos (show (-2147483648 : Int) ≤ 0 ∧ (0 : Int) ≤ 2147483647 by decide), if_pos rfl, if_neg (fun t => t.1 d)]
        · rw [if_neg d, if_pos (show (-2147483648 : Int) ≤ 1 ∧ (1 : Int) ≤ 2147483647 by decide), if_neg (show ¬ (1 : Int) = 0 by decide), if_pos (by omega), if_pos (by omega)]
          by_cases e : r + 1 < M
          · rw [if_neg (by omega), if_pos ⟨d, e⟩]
          · rw [if_pos (by omega), if_neg (fun t => e t.2)]
    have g20 : gm_37_20 x s = some (if K = 1 ∧ c < w then 2 else if x = 47 then (if M ≤ r + 1 then 3 else 0) else if ¬ l = 0 ∧ r + 1 < M then 4 else 0, s) := by
      unfold gm_37_20
      rw [s5, s3, s2, g40, if_pos (by omega)]
      by_cases b : K = 0
      · rw [if_pos (by omega), if_neg (show ¬ (K = 1 ∧ c < w) by omega)]
      · rw [if_neg (show ¬ (K : Int) = 0 by omega), if_pos (show -2147483648 ≤ (c : Int) ∧ (c : Int) ≤ 2147483647 by omega), if_pos (show -2147483648 ≤ (w : Int) ∧ (w : Int) ≤ 2147483647 by omega)]
        by_cases d : w ≤ c
        · rw [if_pos (show (w : Int) ≤ (c : Int) by omega), if_neg (show ¬ (K = 1 ∧ c < w) by omega)]
        · rw [if_neg (show ¬ (w : Int) ≤ (c : Int) by omega), if_pos (show K = 1 ∧ c < w by omega)]
    rw [g20]
    by_cases b : x = 47
    · rw [if_pos b, if_neg (show ¬ (c = 0 ∨ ¬ (x = 47 ∨ x = -1)) by omega)]
    · rw [if_neg b]
      by_cases d : x = -1
      · rw [if_pos d, if_neg (show ¬ (c = 0 ∨ ¬ (x = 47 ∨ x = -1)) by omega)]
      · rw [if_neg d, if_pos (show c = 0 ∨ ¬ (x = 47 ∨ x = -1) by omega)]
/-- how the reading stands -/
def LI (M r c K w : Nat) : Prop := r < M ∧ M ≤ 8 ∧ c ≤ w ∧ w ≤ 12 ∧ ((K = 0 ∧ r = 0 ∧ w = 12) ∨ K = 1)
theorem sp_39 {s : gx_S} {l M r c K w : Nat} {h : Nat → Nat → Int} {v : Int} (S : LSt s l M r c K w h) (I : LI M r c K w) (hc : c < w) : ∃ u : gx_S, gm_39 v s = some u ∧ CLy s u ∧ LSt u l M r (c + 1) K w (up2 h r c v) := by
  obtain ⟨s1, s2, s3, s4, s5, s6, s7⟩ := S
  obtain ⟨i1, i2, i3, i4, i5⟩ := I
  have m1 : r * w ≤ 7 * 12 := Nat.mul_le_mul (by omega) i4
  have e : (r : Int) * (w : Int) + (c : Int) = ((r * w + c : Nat) : Int) := by
    rw [Int.natCast_add, Int.natCast_mul]
  have cc : ((c : Int) + 1) = ((c + 1 : Nat) : Int) := rfl
  unfold gm_39 gm_39_28
  rw [s1, s2, s3, e, if_pos (by omega), if_neg (by omega), if_pos (by omega), show ((r * w + c : Nat) : Int).toNat = r * w + c by omega]
  have x3 : (gw1 s 59 (r * w + c) v).1 58 3 = c := by rw [gw1_1, if_neg (by omega)]; exact s3
  rw [x3, cc]
  refine ⟨_, rfl, ⟨rfl, fun k j q1 q2 => by rw [gw1_1, if_neg (by omega), gw1_1, if_neg (by omega)]⟩, ?_, ?_, by rw [gw1_1, if_pos ⟨rfl, rfl⟩], ?_, ?_, ?_, fun i j hij => ?_⟩
  · rw [gw1_1, if_neg (by omega), gw1_1, if_neg (by omega)]; exact s1
  · rw [gw1_1, if_neg (by omega), gw1_1, if_neg (by omega)]; exact s2
  · rw [gw1_1, if_neg (by omega), gw1_1, if_neg (by omega)]; exact s4
  · rw [gw1_1, if_neg (by omega), gw1_1, if_neg (by omega)]; exact s5
  · rw [gw1_1, if_neg (by omega), gw1_1, if_neg (by omega)]; exact s6
  · rw [gw1_1, if_neg (by omega), gw1_1]
    unfold up2
    by_cases z : i = r ∧ j = c
    · rw [if_pos ⟨rfl, by rw [z.1, z.2]⟩, if_pos z]
    · have ne : ¬ (i * w + j = r * w + c) := fun q => by
        rcases hij with t | t
        · have := Nat.mul_le_mul_right w (show i + 1 ≤ r by omega)
          rw [Nat.add_mul] at this
          omega
        · rw [t.1] at q
          omega
      rw [if_neg (fun t => ne t.2), if_neg z]
      exact s7 i j (by omega)
theorem sp_38 {s : gx_S} {l M r c K w : Nat} {h : Nat → Nat → Int} (S : LSt s l M r c K w h) (I : LI M r c K w) (hk : ¬ (K = 1 ∧ c < w)) : ∃ u : gx_S, gm_38 s = some u ∧ CLy s u ∧ LSt u l M (r + 1) 0 1 c h := by
  obtain ⟨s1, s2, s3, s4, s5, s6, s7⟩ := S
  obtain ⟨i1, i2, i3, i4, i5⟩ := I
  unfold gm_38
  have x1 : (gw1 (gw1 s 58 2 (s.1 58 3)) 58 5 1).1 58 1 = r := by rw [gw1_1, if_neg (by omega), gw1_1, if_neg (by omega)]; exact s1
  rw [x1, s3]
  refine ⟨_, rfl, ⟨rfl, fun k j q1 q2 => by rw [gw1_1, if_neg (by omega), gw1_1, if_neg (by omega), gw1_1, if_neg (by omega), gw1_1, if_neg (by omega)]⟩, ?_, ?_, ?_, ?_, ?_, ?_, fun i j hij => ?_⟩
  · rw [gw1_1, if_neg (by omega), gw1_1, if_pos ⟨rfl, rfl⟩]; rfl
  · rw [gw1_1, if_neg (by omega), gw1_1, if_neg (by omega), gw1_1, if_neg (by omega), gw1_1, if_pos ⟨rfl, rfl⟩]
  · rw [gw1_1, if_pos ⟨rfl, rfl⟩]; rfl
  · rw [gw1_1, if_neg (by omega), gw1_1, if_neg (by omega), gw1_1, if_neg (by omega), gw1_1, if_neg (by omega)]; exact s4
  · rw [gw1_1, if_neg (by omega), gw1_1, if_neg (by omega), gw1_1, if_pos ⟨rfl, rfl⟩]; rfl
  · rw [gw1_1, if_neg (by omega), gw1_1, if_neg (by omega), gw1_1, if_neg (by omega), gw1_1, if_neg (by omega)]; exact s6
  · rw [gw1_1, if_neg (by omega), gw1_1, if_neg (by omega), gw1_1, if_neg (by omega), gw1_1, if_neg (by omega)]
    by_cases z : K = 1
    · have e : c = w := by omega
      rw [e]
      exact s7 i j (by omega)
    · have e : i = r := by omega
      have e0 : r = 0 := by omega
      have := s7 i j (by omega)
      rw [e, e0, Nat.zero_mul] at this ⊢
      exact this
end
section
/-! TEXTS of layers: the class's whole reading -/
theorem lyt_s (tb : Nat → Int) (L l M k p r c K w : Nat) (h : Nat → Nat → Int) : lyt tb L l M (k + 1) p r c K w h = if ¬ wr_ tb L l M p r c K w = 0 then (8 * (p : Int) + wr_ tb L l M p r c K w, r, c, h) else if ¬ lv_ l (sgn tb L p) = -1 then lyt tb L l M k (p + 1) r (c + 1) K w (up2 h r c (lv_ l (sgn tb L p))) else if sgn tb L p = 47 then lyt tb L l M k (p + 1) (r + 1) 0 1 c h else (-1, r + 1, c, h) := by
  rw [lyt]
  unfold wr_
  by_cases a : ¬ lv_ l (sgn tb L p) = -1
  · rw [if_pos a, if_pos a]
    by_cases b : w ≤ c
    · rw [if_pos b, if_pos b, if_pos (by omega)]
    · rw [if_neg b, if_neg b, if_neg (by omega), if_pos a]
  · rw [if_neg a, if_neg a]
    by_cases b : c = 0 ∨ ¬ (sgn tb L p = 47 ∨ sgn tb L p = -1)
    · rw [if_pos b, if_pos b, if_pos (by omega)]
    · rw [if_neg b, if_neg b]
      by_cases d : K = 1 ∧ c < w
      · rw [if_pos d, if_pos d, if_pos (by omega)]
      · rw [if_neg d, if_neg d]
        by_cases e : sgn tb L p = 47
        · rw [if_pos e, if_pos e]
          by_cases f : M ≤ r + 1
          · rw [if_pos f, if_pos f, if_pos (by omega)]
          · rw [if_neg f, if_neg f, if_neg (by omega), if_neg a, if_pos e]
        · rw [if_neg e, if_neg e]
          by_cases f : ¬ l = 0 ∧ r + 1 < M
          · rw [if_pos f, if_pos f, if_pos (by omega)]
          · rw [if_neg f, if_neg f, if_neg (by omega), if_neg a, if_neg e]
theorem wr_r {tb : Nat → Int} {L l M p r c K w : Nat} : (0 ≤ wr_ tb L l M p r c K w ∧ wr_ tb L l M p r c K w ≤ 4) ∧ (wr_ tb L l M p r c K w = 0 → (¬ lv_ l (sgn tb L p) = -1 → c < w) ∧ (lv_ l (sgn tb L p) = -1 → ¬ c = 0 ∧ (sgn tb L p = 47 ∨ sgn tb L p = -1) ∧ ¬ (K = 1 ∧ c < w) ∧ (sgn tb L p = 47 → r + 1 < M) ∧ (sgn tb L p = -1 → l = 0 ∨ M ≤ r + 1))) := by
  unfold wr_
  by_cases a : ¬ lv_ l (sgn tb L p) = -1
  · rw [if_pos a]
    by_cases b : w ≤ c
    · rw [if_pos b]
      exact ⟨by omega, fun h => by omega⟩
    · rw [if_neg b]
      exact ⟨by omega, fun _ => ⟨fun _ => by omega, fun h => absurd h a⟩⟩
  · rw [if_neg a]
    by_cases b : c = 0 ∨ ¬ (sgn tb L p = 47 ∨ sgn tb L p = -1)
    · rw [if_pos b]
      exact ⟨by omega, fun h => by omega⟩
    · rw [if_neg b]
      by_cases d : K = 1 ∧ c < w
      · rw [if_pos d]
        exact ⟨by omega, fun h => by omega⟩
      · rw [if_neg d]
        by_cases e : sgn tb L p = 47
        · rw [if_pos e]
          by_cases f : M ≤ r + 1
          · rw [if_pos f]
            exact ⟨by omega, fun h => by omega⟩
          · rw [if_neg f]
            exact ⟨by omega, fun _ => ⟨fun h => absurd h a, fun _ => ⟨by omega, by omega, d, fun _ => by omega, fun h => by omega⟩⟩⟩
        · rw [if_neg e]
          by_cases f : ¬ l = 0 ∧ r + 1 < M
          · rw [if_pos f]
            exact ⟨by omega, fun h => by omega⟩
          · rw [if_neg f]
            exact ⟨by omega, fun _ => ⟨fun h => absurd h a, fun _ => ⟨by omega, by omega, d, fun h => absurd h e, fun _ => by omega⟩⟩⟩
theorem LSt_58 {s u : gx_S} {l M r c K w : Nat} {h : Nat → Nat → Int} (o : ∀ k j, k = 58 ∨ k = 59 → u.1 k j = s.1 k j) (S : LSt s l M r c K w h) : LSt u l M r c K w h := by
  obtain ⟨s1, s2, s3, s4, s5, s6, s7⟩ := S
  exact ⟨(o _ _ (by omega)).trans s1, (o _ _ (by omega)).trans s2, (o _ _ (by omega)).trans s3, (o _ _ (by omega)).trans s4, (o _ _ (by omega)).trans s5, (o _ _ (by omega)).trans s6, fun i j q => (o _ _ (by omega)).trans (s7 i j q)⟩
theorem sl_34 {L l M : Nat} {tb : Nat → Int} (hl : l < 3) : ∀ (k p n r c K w : Nat) (h : Nat → Nat → Int) (s : gx_S), L < p + k → p ≤ L → k < n → TC s L tb → LSt s l M r c K w h → LI M r c K w → ∃ u : gx_S, gm_34_74 n l p s = some ((lyt tb L l M k p r c K w h).1, u) ∧ CLy s u ∧ ((lyt tb L l M k p r c K w h).1 = -1 → u.1 58 1 = (lyt tb L l M k p r c K w h).2.1 ∧ u.1 58 2 = (lyt tb L l M k p r c K w h).2.2.1 ∧ ∀ i j, i < (lyt tb L l M k p r c K w h).2.1 → j < (lyt tb L l M k p r c K w h).2.2.1 → u.1 59 (i * (lyt tb L l M k p r c K w h).2.2.1 + j) = (lyt tb L l M k p r c K w h).2.2.2 i j) := by
  intro k
  induction k with
  | zero => intro p n r c K w h s h1 h2; omega
  | succ k ih =>
    intro p n r c K w h s h1 h2 h3 hT S I
    obtain ⟨n, rfl⟩ : ∃ n', n = n' + 1 := ⟨n - 1, by omega⟩
    have hL := hT.1
    have sr := sgn_r hT p
    have vr := lvr_ l (sgn tb L p)
    obtain ⟨i1, i2, i3, i4, i5⟩ := id I
    have vr2 : -1 ≤ lv_ l (sgn tb L p) ∧ lv_ l (sgn tb L p) ≤ 8 := by
      by_cases q : l = 2
      · rw [if_pos q] at vr; omega
      · rw [if_neg q] at vr; omega
    have cp : ((p : Int) + 1) = ((p + 1 : Nat) : Int) := rfl
    obtain ⟨wa, wb⟩ := wr_r (tb := tb) (L := L) (l := l) (M := M) (p := p) (r := r) (c := c) (K := K) (w := w)
    -- one place
    have one : gm_34_74 (n + 1) l p s = gm_34_118 (gm_34_74 n) l p (lv_ l (sgn tb L p)) (wr_ tb L l M p r c K w) s := by
      rw [gm_34_74, if_pos (by omega), hT.2.1, if_pos (by omega), if_neg (by omega), sp_83 hT (by omega), Option.bind_some]
      show ((gm_35 (sgn tb L p) l s).bind fun q7 => if -2147483648 ≤ q7.1 ∧ q7.1 ≤ 2147483647 then (if ¬ q7.1 = -1 then ((gm_36 q7.2).bind fun q11 => gm_34_118 (gm_34_74 n) l p q7.1 q11.1 q11.2) else ((gm_37 (sgn tb L p) q7.2).bind fun q13 => gm_34_118 (gm_34_74 n) l p q7.1 q13.1 q13.2)) else none) = _
      rw [sp_35 s hl (by unfold i32; omega), Option.bind_some]
      show (if -2147483648 ≤ lv_ l (sgn tb L p) ∧ lv_ l (sgn tb L p) ≤ 2147483647 then (if ¬ lv_ l (sgn tb L p) = -1 then ((gm_36 s).bind fun q11 => gm_34_118 (gm_34_74 n) l p (lv_ l (sgn tb L p)) q11.1 q11.2) else ((gm_37 (sgn tb L p) s).bind fun q13 => gm_34_118 (gm_34_74 n) l p (lv_ l (sgn tb L p)) q13.1 q13.2)) else none) = _
      rw [if_pos (by omega), sp_36 S (by omega) i4, sp_37 S (by omega) i4 (by omega) i2 (by omega) (x := sgn tb L p) (by unfold i32; omega), Option.bind_some, Option.bind_some]
      unfold wr_
      by_cases a : ¬ lv_ l (sgn tb L p) = -1
      · rw [if_pos a, if_pos a]
      · rw [if_neg a, if_neg a]
    rw [one, lyt_s]
    unfold gm_34_118
    rw [if_pos (by omega)]
    by_cases z : wr_ tb L l M p r c K w = 0
    · obtain ⟨w1, w2⟩ := wb z
      rw [if_pos z, if_neg (show ¬ ¬ wr_ tb L l M p r c K w = 0 from fun t => t z), if_pos (by omega)]
      by_cases a : ¬ lv_ l (sgn tb L p) = -1
      · have cw := w1 a
        have hp : p < L := Classical.byContradiction fun q => by
          have e : sgn tb L p = -1 := if_neg q
          apply a
          unfold lv_
          rw [e]
          split <;> rfl
        obtain ⟨u, u1, u2, u3⟩ := sp_39 (v := lv_ l (sgn tb L p)) S I cw
        rw [if_pos a, if_pos a, u1, Option.bind_some]
        unfold gm_34_153
        rw [cp]
        obtain ⟨x, x1, x2, x3⟩ := ih (p + 1) n r (c + 1) K w (up2 h r c (lv_ l (sgn tb L p))) u (by omega) (by omega) (by omega) (CLy_TC u2 hT) u3 ⟨i1, i2, by omega, i4, i5⟩
        exact ⟨x, x1, CLy_tr u2 x2, x3⟩
      · obtain ⟨c0, x47, kw, d1, d2⟩ := w2 (by omega)
        obtain ⟨u, u1, u2, u3⟩ := sp_38 S I kw
        rw [if_neg a, if_neg a, u1, Option.bind_some]
        unfold gm_34_153
        rw [cp]
        by_cases e : sgn tb L p = 47
        · have hp : p < L := Classical.byContradiction fun q => by
            have e : sgn tb L p = -1 := if_neg q
            omega
          have := d1 e
          rw [if_pos e]
          obtain ⟨x, x1, x2, x3⟩ := ih (p + 1) n (r + 1) 0 1 c h u (by omega) (by omega) (by omega) (CLy_TC u2 hT) u3 ⟨by omega, i2, by omega, by omega, by omega⟩
          exact ⟨x, x1, CLy_tr u2 x2, x3⟩
        · have hp : ¬ p < L := fun q => by
            have e2 : sgn tb L p = tb p := if_pos q
            have := (hT.2.2 p q).2
            omega
          obtain ⟨n, rfl⟩ : ∃ n', n = n' + 1 := ⟨n - 1, by omega⟩
          have uT := CLy_TC u2 hT
          rw [if_neg e, gm_34_74, if_pos (by omega), uT.2.1, if_pos (by omega), if_pos (by omega)]
          obtain ⟨s1, s2, s3, s4, s5, s6, s7⟩ := u3
          exact ⟨u, rfl, u2, fun _ => ⟨s1, s2, fun i j hi hj => s7 i j (.inl ⟨hi, hj⟩)⟩⟩
    · rw [if_neg z, if_pos z]
      exact ⟨s, rfl, ⟨rfl, fun _ _ _ _ => rfl⟩, fun h => by
        have h : 8 * (p : Int) + wr_ tb L l M p r c K w = -1 := h
        omega⟩
theorem lyt_r {L l M : Nat} {tb : Nat → Int} {B : Int} (hb : ∀ x, ¬ lv_ l x = -1 → 0 ≤ lv_ l x ∧ lv_ l x ≤ B) : ∀ (k p r c K w : Nat) (h : Nat → Nat → Int), L < p + k → LI M r c K w → (∀ i j, (i < r ∧ j < w) ∨ (i = r ∧ j < c) → 0 ≤ h i j ∧ h i j ≤ B) → p ≤ L → L ≤ 200 → (∀ i, i < L → 0 ≤ tb i) → (-1 ≤ (lyt tb L l M k p r c K w h).1 ∧ (lyt tb L l M k p r c K w h).1 ≤ 2000) ∧ ((lyt tb L l M k p r c K w h).1 = -1 → (1 ≤ (lyt tb L l M k p r c K w h).2.1 ∧ (lyt tb L l M k p r c K w h).2.1 ≤ M) ∧ (1 ≤ (lyt tb L l M k p r c K w h).2.2.1 ∧ (lyt tb L l M k p r c K w h).2.2.1 ≤ 12) ∧ (¬ l = 0 → (lyt tb L l M k p r c K w h).2.1 = M) ∧ (K = 1 → (lyt tb L l M k p r c K w h).2.2.1 = w) ∧ ∀ i j, i < (lyt tb L l M k p r c K w h).2.1 → j < (lyt tb L l M k p r c K w h).2.2.1 → 0 ≤ (lyt tb L l M k p r c K w h).2.2.2 i j ∧ (lyt tb L l M k p r c K w h).2.2.2 i j ≤ B) := by
  intro k
  induction k with
  | zero => intro p r c K w h h1 I H hp; omega
  | succ k ih =>
    intro p r c K w h h1 I H hp hL hb0
    obtain ⟨i1, i2, i3, i4, i5⟩ := id I
    obtain ⟨wa, wb⟩ := wr_r (tb := tb) (L := L) (l := l) (M := M) (p := p) (r := r) (c := c) (K := K) (w := w)
    rw [lyt_s]
    by_cases z : wr_ tb L l M p r c K w = 0
    · obtain ⟨w1, w2⟩ := wb z
      rw [if_neg (show ¬ ¬ wr_ tb L l M p r c K w = 0 from fun t => t z)]
      by_cases a : ¬ lv_ l (sgn tb L p) = -1
      · have hp : p < L := Classical.byContradiction fun q => by
          have e : sgn tb L p = -1 := if_neg q
          apply a
          unfold lv_
          rw [e]
          split <;> rfl
        rw [if_pos a]
        exact ih (p + 1) r (c + 1) K w _ (by omega) ⟨i1, i2, by have := w1 a; omega, i4, i5⟩ (fun i j q => by
          unfold up2
          by_cases y : i = r ∧ j = c
          · rw [if_pos y]
            exact hb _ a
          · rw [if_neg y]
            exact H i j (by omega)) (by omega) hL hb0
      · obtain ⟨c0, x47, kw, d1, d2⟩ := w2 (by omega)
        have HH : ∀ i j, i < r + 1 → j < c → 0 ≤ h i j ∧ h i j ≤ B := fun i j hi hj => H i j (by omega)
        rw [if_neg a]
        by_cases e : sgn tb L p = 47
        · have hp : p < L := Classical.byContradiction fun q => by
            have e : sgn tb L p = -1 := if_neg q
            omega
          have := d1 e
          rw [if_pos e]
          obtain ⟨x1, x2⟩ := ih (p + 1) (r + 1) 0 1 c h (by omega) ⟨by omega, i2, by omega, by omega, by omega⟩ (fun i j q => HH i j (by omega) (by omega)) (by omega) hL hb0
          refine ⟨x1, fun q => ?_⟩
          obtain ⟨y1, y2, y3, y4, y5⟩ := x2 q
          exact ⟨y1, y2, y3, fun k1 => by
            have := y4 rfl
            omega, y5⟩
        · have := d2 (by omega)
          rw [if_neg e]
          exact ⟨by show (-1 : Int) ≤ -1 ∧ (-1 : Int) ≤ 2000; decide, fun _ => ⟨by show 1 ≤ r + 1 ∧ r + 1 ≤ M; omega, by show 1 ≤ c ∧ c ≤ 12; omega, fun q => by show r + 1 = M; omega, fun k1 => by show c = w; omega, HH⟩⟩
    · rw [if_pos z]
      refine ⟨?_, fun h => ?_⟩
      · show -1 ≤ 8 * (p : Int) + wr_ tb L l M p r c K w ∧ 8 * (p : Int) + wr_ tb L l M p r c K w ≤ 2000
        omega
      · have h : 8 * (p : Int) + wr_ tb L l M p r c K w = -1 := h
        omega
/-- a layer as a whole -/
def lyw (tb : Nat → Int) (L l R C : Nat) : Int × Nat × Nat × (Nat → Nat → Int) := lyt tb L l (if l = 0 then 8 else R) (L + 1) 0 0 0 (if l = 0 then 0 else 1) (if l = 0 then 12 else C) fun _ _ => 0
theorem sp_34 {L l R C : Nat} {tb : Nat → Int} {s : gx_S} (hl : l < 3) (hT : TC s L tb) (hR : s.1 1 4 = R) (hC : s.1 1 5 = C) (r8 : R ≤ 8) (c12 : C ≤ 12) (r1 : ¬ l = 0 → 1 ≤ R) : ∃ u : gx_S, gm_34 l 1 s = some ((lyw tb L l R C).1, u) ∧ CLy s u ∧ ((lyw tb L l R C).1 = -1 → u.1 58 1 = (lyw tb L l R C).2.1 ∧ u.1 58 2 = (lyw tb L l R C).2.2.1 ∧ ∀ i j, i < (lyw tb L l R C).2.1 → j < (lyw tb L l R C).2.2.1 → u.1 59 (i * (lyw tb L l R C).2.2.1 + j) = (lyw tb L l R C).2.2.2 i j) := by
  have hL := hT.1
  have st : ∃ t : gx_S, gm_34 l 1 s = gm_34_74 100000 l 0 t ∧ CLy s t ∧ LSt t l (if l = 0 then 8 else R) 0 0 (if l = 0 then 0 else 1) (if l = 0 then 12 else C) fun _ _ => 0 := by
    unfold gm_34
    rw [if_pos (by decide +kernel), if_pos (by omega)]
    by_cases a : l = 0
    · have aI : (l : Int) = 0 := by omega
      obtain ⟨t1, ht1⟩ : ∃ t1, t1 = gw1 s 58 6 0 := ⟨_, rfl⟩
      obtain ⟨t2, ht2⟩ : ∃ t2, t2 = gw1 t1 58 5 0 := ⟨_, rfl⟩
      obtain ⟨t3, ht3⟩ : ∃ t3, t3 = gw1 t2 58 2 12 := ⟨_, rfl⟩
      have e16 : t1.1 58 6 = 0 := by rw [ht1, gw1_1, if_pos ⟨rfl, rfl⟩]
      have e26 : t2.1 58 6 = 0 := by rw [ht2, gw1_1, if_neg (by omega)]; exact e16
      have e36 : t3.1 58 6 = 0 := by rw [ht3, gw1_1, if_neg (by omega)]; exact e26
      rw [if_pos aI]
      unfold gm_34_10
      rw [if_pos (show (0 : Int) = 0 ∨ (0 : Int) = 1 by decide), ← ht1, e16, if_pos (show (0 : Int) = 0 ∨ (0 : Int) = 1 by decide), ← ht2, e26, if_pos (show (-2147483648 : Int) ≤ 0 ∧ (0 : Int) ≤ 2147483647 by decide), if_pos rfl]
      unfold gm_34_38
      rw [← ht3, e36, if_pos (show (-2147483648 : Int) ≤ 0 ∧ (0 : Int) ≤ 2147483647 by decide), if_pos rfl]
      unfold gm_34_58
      rw [if_pos a, if_pos a, if_pos a]
      refine ⟨_, rfl, ⟨by rw [ht3, ht2, ht1]; rfl, fun k j q1 q2 => by rw [gw1_1, if_neg (by omega), gw1_1, if_neg (by omega), gw1_1, if_neg (by omega), ht3, gw1_1, if_neg (by omega), ht2, gw1_1, if_neg (by omega), ht1, gw1_1, if_neg (by omega)]⟩, ?_, ?_, ?_, ?_, ?_, ?_, fun i j q => by omega⟩
      · rw [gw1_1, if_neg (by omega), gw1_1, if_pos ⟨rfl, rfl⟩]; rfl
      · rw [gw1_1, if_neg (by omega), gw1_1, if_neg (by omega), gw1_1, if_neg (by omega), ht3, gw1_1, if_pos ⟨rfl, rfl⟩]; rfl
      · rw [gw1_1, if_pos ⟨rfl, rfl⟩]; rfl
      · rw [gw1_1, if_neg (by omega), gw1_1, if_neg (by omega), gw1_1, if_pos ⟨rfl, rfl⟩]; rfl
      · rw [gw1_1, if_neg (by omega), gw1_1, if_neg (by omega), gw1_1, if_neg (by omega), ht3, gw1_1, if_neg (by omega), ht2, gw1_1, if_pos ⟨rfl, rfl⟩]; rfl
      · rw [gw1_1, if_neg (by omega), gw1_1, if_neg (by omega), gw1_1, if_neg (by omega), e36, if_pos a]
    · have aI : ¬ (l : Int) = 0 := by omega
      obtain ⟨t1, ht1⟩ : ∃ t1, t1 = gw1 s 58 6 1 := ⟨_, rfl⟩
      obtain ⟨t2, ht2⟩ : ∃ t2, t2 = gw1 t1 58 5 1 := ⟨_, rfl⟩
      obtain ⟨t3, ht3⟩ : ∃ t3, t3 = gw1 t2 58 2 C := ⟨_, rfl⟩
      have e16 : t1.1 58 6 = 1 := by rw [ht1, gw1_1, if_pos ⟨rfl, rfl⟩]
      have e26 : t2.1 58 6 = 1 := by rw [ht2, gw1_1, if_neg (by omega)]; exact e16
      have e36 : t3.1 58 6 = 1 := by rw [ht3, gw1_1, if_neg (by omega)]; exact e26
      have e25 : t2.1 1 5 = C := by rw [ht2, gw1_1, if_neg (by omega), ht1, gw1_1, if_neg (by omega)]; exact hC
      have e34 : t3.1 1 4 = R := by rw [ht3, gw1_1, if_neg (by omega), ht2, gw1_1, if_neg (by omega), ht1, gw1_1, if_neg (by omega)]; exact hR
      rw [if_neg aI]
      unfold gm_34_10
      rw [if_pos (show (1 : Int) = 0 ∨ (1 : Int) = 1 by decide), ← ht1, e16, if_pos (show (1 : Int) = 0 ∨ (1 : Int) = 1 by decide), ← ht2, e26, if_pos (show (-2147483648 : Int) ≤ 1 ∧ (1 : Int) ≤ 2147483647 by decide), if_neg (show ¬ (1 : Int) = 0 by decide), e25]
      unfold gm_34_38
      rw [← ht3, e36, if_pos (show (-2147483648 : Int) ≤ 1 ∧ (1 : Int) ≤ 2147483647 by decide), if_neg (show ¬ (1 : Int) = 0 by decide), e34]
      unfold gm_34_58
      rw [if_neg a, if_neg a, if_neg a]
      refine ⟨_, rfl, ⟨by rw [ht3, ht2, ht1]; rfl, fun k j q1 q2 => by rw [gw1_1, if_neg (by omega), gw1_1, if_neg (by omega), gw1_1, if_neg (by omega), ht3, gw1_1, if_neg (by omega), ht2, gw1_1, if_neg (by omega), ht1, gw1_1, if_neg (by omega)]⟩, ?_, ?_, ?_, ?_, ?_, ?_, fun i j q => by omega⟩
      · rw [gw1_1, if_neg (by omega), gw1_1, if_pos ⟨rfl, rfl⟩]; rfl
      · rw [gw1_1, if_neg (by omega), gw1_1, if_neg (by omega), gw1_1, if_neg (by omega), ht3, gw1_1, if_pos ⟨rfl, rfl⟩]
      · rw [gw1_1, if_pos ⟨rfl, rfl⟩]; rfl
      · rw [gw1_1, if_neg (by omega), gw1_1, if_neg (by omega), gw1_1, if_pos ⟨rfl, rfl⟩]
      · rw [gw1_1, if_neg (by omega), gw1_1, if_neg (by omega), gw1_1, if_neg (by omega), ht3, gw1_1, if_neg (by omega), ht2, gw1_1, if_pos ⟨rfl, rfl⟩]; rfl
      · rw [gw1_1, if_neg (by omega), gw1_1, if_neg (by omega), gw1_1, if_neg (by omega), e36, if_neg a]
  obtain ⟨t, t1, t2, t3⟩ := st
  obtain ⟨u, u1, u2, u3⟩ := sl_34 hl (L + 1) 0 100000 0 0 _ _ _ t (by omega) (by omega) (by omega) (CLy_TC t2 hT) t3 (by
    by_cases a : l = 0
    · rw [if_pos a, if_pos a, if_pos a]
      exact ⟨by omega, by omega, by omega, by omega, by omega⟩
    · rw [if_neg a, if_neg a, if_neg a]
      have := r1 a
      exact ⟨by omega, by omega, by omega, by omega, by omega⟩)
  have u1 : gm_34_74 100000 l 0 t = _ := u1
  exact ⟨u, t1.trans u1, CLy_tr t2 u2, u3⟩
end
section
/-! TEXTS of layers: the reference's rows -/
theorem CX_tr {s t u : gx_S} (a : CX s t) (b : CX t u) : CX s u := ⟨b.1.trans a.1, fun k j h1 h2 h3 => (b.2 k j h1 h2 h3).trans (a.2 k j h1 h2 h3)⟩
theorem CX_rf (s : gx_S) : CX s s := ⟨rfl, fun _ _ _ _ _ => rfl⟩
theorem CX_TF {s u : gx_S} {L : Nat} {tb : Nat → Int} (a : CX s u) (T : TF s L tb) : TF u L tb := TF_o (a.2 _ _ (by omega) (by omega) (by omega)) (fun i => a.2 _ _ (by omega) (by omega) (by omega)) T
theorem CX_1 (s : gx_S) {j : Nat} (x : Int) (h : 5 ≤ j ∧ j ≤ 11) : CX s (gw1 s 215 j x) := ⟨rfl, fun k i q1 q2 q3 => by rw [gw1_1, if_neg (by omega)]⟩
theorem CX_219 (s : gx_S) (j : Nat) (x : Int) : CX s (gw1 s 219 j x) := ⟨rfl, fun k i q1 q2 q3 => by rw [gw1_1, if_neg (by omega)]⟩
theorem sp_140 (s : gx_S) {l : Nat} {x : Int} (hl : l < 3) (h : i32 x) : gm_140 l x s = some (decide (¬ lv_ l x = -1), s) := by
  have h' := h
  unfold i32 at h'
  unfold gm_140 lv_
  rw [if_pos (by omega)]
  by_cases a : l = 2
  · rw [if_neg (by omega), if_pos h', if_pos a, in_ s h (by omega) (by omega), Option.bind_some]
    by_cases b : 48 ≤ x ∧ x ≤ 51
    · rw [if_pos b]
      show some (decide (48 ≤ x ∧ x ≤ 51), s) = _
      rw [decide_eq_true b, decide_eq_true (by omega)]
    · rw [if_neg b]
      show some (decide (48 ≤ x ∧ x ≤ 51), s) = _
      rw [decide_eq_false b, decide_eq_false (by omega)]
  · rw [if_pos (by omega), if_pos h', if_neg a, in_ s h (by omega) (by omega), Option.bind_some]
    by_cases d : x = 46
    · rw [if_neg (fun q => q ((gbD s).mpr (by omega))), if_neg (fun t => t d), if_pos d, decide_eq_true (show ¬ (8 : Int) = -1 by decide)]
    · rw [if_neg d]
      by_cases b : 97 ≤ x ∧ x ≤ 104
      · rw [if_pos (fun q => (gbD s).mp q b), if_pos b, decide_eq_true (show ¬ x - 97 = -1 by omega)]
      · rw [if_neg (fun q => q ((gbD s).mpr b)), if_pos d, if_neg b, decide_eq_false (show ¬ ¬ (-1 : Int) = -1 from fun t => t rfl)]
theorem sp_141 (s : gx_S) {l : Nat} {x : Int} (hl : l < 3) (h : i32 x) (hv : ¬ lv_ l x = -1) : gm_141 l x s = some (lv_ l x, s) := by
  unfold i32 at h
  unfold lv_ at hv ⊢
  unfold gm_141
  rw [if_pos (by omega)]
  by_cases a : l = 2
  · rw [if_pos a] at hv
    rw [if_neg (by omega), if_pos a]
    by_cases b : 48 ≤ x ∧ x ≤ 51
    · rw [if_pos b]
    · rw [if_neg b] at hv
      exact absurd rfl hv
  · rw [if_neg a] at hv
    rw [if_pos (by omega), if_pos h, if_neg a]
    by_cases d : x = 46
    · rw [if_neg (fun t => t d), if_pos d]
    · rw [if_neg d] at hv
      rw [if_pos d, if_neg d]
      by_cases b : 97 ≤ x ∧ x ≤ 104
      · rw [if_pos b]
      · rw [if_neg b] at hv
        exact absurd rfl hv
/-- the reference's place in a row -/
def RS (s : gx_S) (p r : Nat) (c w : Nat) (h : Nat → Nat → Int) : Prop := s.1 215 6 = -1 ∧ s.1 215 5 = p ∧ s.1 215 8 = r ∧ ∀ i j, (i < r ∧ j < w) ∨ (i = r ∧ j < c) → s.1 219 (12 * i + j) = h i j
theorem sl_142_36 {L l M K w : Nat} {tb : Nat → Int} {x2 : Int} (hl : l < 3) : ∀ (k p n r c : Nat) (h : Nat → Nat → Int) (s : gx_S), L < p + k → p ≤ L → k < n → TF s L tb → RS s p r c w h → LI M r c K w → ∃ (u : gx_S) (k' p' c' : Nat) (h' : Nat → Nat → Int), gm_142_36 n l x2 w c s = gm_142_92 l x2 c' u ∧ CX s u ∧ lyt tb L l M k p r c K w h = lyt tb L l M k' p' r c' K w h' ∧ L < p' + k' ∧ p' ≤ L ∧ RS u p' r c' w h' ∧ LI M r c' K w ∧ c ≤ c' ∧ k' ≤ k ∧ (w ≤ c' ∨ lv_ l (sgn tb L p') = -1) ∧ (c < w → ¬ lv_ l (sgn tb L p) = -1 → 0 < c') := by
  intro k
  induction k with
  | zero => intro p n r c h s h1 h2; omega
  | succ k ih =>
    intro p n r c h s h1 h2 h3 hT S I
    obtain ⟨n, rfl⟩ : ∃ n', n = n' + 1 := ⟨n - 1, by omega⟩
    have hL := hT.1
    have sr := sgn_rf hT p
    obtain ⟨i1, i2, i3, i4, i5⟩ := id I
    obtain ⟨s1, s2, s3, s4⟩ := id S
    rw [gm_142_36, if_pos (by omega), if_pos (by omega)]
    by_cases a : w ≤ c
    · rw [if_pos (by omega)]
      exact ⟨s, k + 1, p, c, h, rfl, CX_rf s, rfl, h1, h2, S, I, Nat.le_refl c, Nat.le_refl _, .inl a, fun q => by omega⟩
    · rw [if_neg (by omega), sp_137 hT (by omega) s2, Option.bind_some]
      show ∃ (u : gx_S) (k' p' c' : Nat) (h' : Nat → Nat → Int), ((gm_140 l (sgn tb L p) s).bind _) = _ ∧ _
      rw [sp_140 s hl (by unfold i32; omega), Option.bind_some]
      by_cases b : ¬ lv_ l (sgn tb L p) = -1
      · have hp : p < L := Classical.byContradiction fun q => by
          have e : sgn tb L p = -1 := if_neg q
          apply b
          unfold lv_
          rw [e]
          split <;> rfl
        have e8 : 12 * (r : Int) + (c : Int) = ((12 * r + c : Nat) : Int) := by omega
        have cc : ((c : Int) + 1) = ((c + 1 : Nat) : Int) := rfl
        have cp : ((p : Int) + 1) = ((p + 1 : Nat) : Int) := rfl
        rw [if_neg (fun t => (gbD s).mp t b)]
        show ∃ (u : gx_S) (k' p' c' : Nat) (h' : Nat → Nat → Int), ((gm_137 s).bind _) = _ ∧ _
        rw [sp_137 hT (by omega) s2, Option.bind_some]
        show ∃ (u : gx_S) (k' p' c' : Nat) (h' : Nat → Nat → Int), ((gm_141 l (sgn tb L p) s).bind fun q12 => if 0 ≤ ((12 * (s.1 215 8)) + (c : Int)) ∧ ((12 * (s.1 215 8)) + (c : Int)) < 96 then gm_142_36 n l x2 w ((c : Int) + 1) (gw1 (gw1 q12.2 219 (((12 * (s.1 215 8)) + (c : Int))).toNat q12.1) 215 5 (((gw1 q12.2 219 (((12 * (s.1 215 8)) + (c : Int))).toNat q12.1).1 215 5) + 1)) else none) = _ ∧ _
        rw [sp_141 s hl (by unfold i32; omega) b, Option.bind_some, s3, e8, if_pos (by omega), cc]
        obtain ⟨t, ht⟩ : ∃ t, t = gw1 s 219 (12 * r + c) (lv_ l (sgn tb L p)) := ⟨_, rfl⟩
        have t5 : t.1 215 5 = p := by rw [ht, gw1_1, if_neg (by omega)]; exact s2
        show ∃ (u : gx_S) (k' p' c' : Nat) (h' : Nat → Nat → Int), gm_142_36 n l x2 w ((c + 1 : Nat) : Int) (gw1 (gw1 s 219 ((12 * r + c : Nat) : Int).toNat (lv_ l (sgn tb L p))) 215 5 (((gw1 s 219 ((12 * r + c : Nat) : Int).toNat (lv_ l (sgn tb L p))).1 215 5) + 1)) = _ ∧ _
        rw [show ((12 * r + c : Nat) : Int).toNat = 12 * r + c from rfl, ← ht, t5, cp]
        obtain ⟨v, hv⟩ : ∃ v, v = gw1 t 215 5 ((p + 1 : Nat) : Int) := ⟨_, rfl⟩
        rw [← hv]
        have vC : CX s v := CX_tr (t := t) (by rw [ht]; exact CX_219 s _ _) (by rw [hv]; exact CX_1 t _ (by omega))
        have vo : ∀ k j, ¬ (k = 219) → ¬ (k = 215 ∧ j = 5) → v.1 k j = s.1 k j := fun k j q1 q2 => by rw [hv, gw1_1, if_neg q2, ht, gw1_1, if_neg (by omega)]
        have vS : RS v (p + 1) r (c + 1) w (up2 h r c (lv_ l (sgn tb L p))) := ⟨by rw [vo _ _ (by omega) (by omega)]; exact s1, by rw [hv, gw1_1, if_pos ⟨rfl, rfl⟩], by rw [vo _ _ (by omega) (by omega)]; exact s3, fun i j q => by
          rw [hv, gw1_1, if_neg (by omega), ht, gw1_1]
          unfold up2
          by_cases y : i = r ∧ j = c
          · rw [if_pos ⟨rfl, by omega⟩, if_pos y]
          · rw [if_neg (by omega), if_neg y]
            exact s4 i j (by omega)⟩
        obtain ⟨u, k', p', c', h', u1, u2, u3, u4, u5, u6, u7, u8, uk, u9, u10⟩ := ih (p + 1) n r (c + 1) (up2 h r c (lv_ l (sgn tb L p))) v (by omega) (by omega) (by omega) (CX_TF vC hT) vS ⟨i1, i2, by omega, i4, i5⟩
        refine ⟨u, k', p', c', h', u1, CX_tr vC u2, ?_, u4, u5, u6, u7, by omega, by omega, u9, fun _ _ => by omega⟩
        rw [← u3, lyt, if_pos b, if_neg a]
      · rw [if_pos ((gbD s).mpr b)]
        exact ⟨s, k + 1, p, c, h, rfl, CX_rf s, rfl, h1, h2, S, I, Nat.le_refl c, Nat.le_refl _, .inr (by omega), fun _ q => absurd q b⟩
/-- a row ends -/
theorem sp_168r (s : gx_S) {c r : Nat} (e : s.1 215 8 = r) : ∃ u : gx_S, gm_142_168 c s = some u ∧ CX s u ∧ u.1 215 8 = ((r + 1 : Nat) : Int) ∧ u.1 215 9 = c ∧ ∀ k j, ¬ (k = 215 ∧ (j = 8 ∨ j = 9)) → u.1 k j = s.1 k j := by
  have x8 : (gw1 s 215 9 (c : Int)).1 215 8 = r := by rw [gw1_1, if_neg (by omega)]; exact e
  unfold gm_142_168
  rw [x8]
  exact ⟨_, rfl, CX_tr (CX_1 s _ (by omega)) (CX_1 _ _ (by omega)), by rw [gw1_1, if_pos ⟨rfl, rfl⟩]; rfl, by rw [gw1_1, if_neg (by omega), gw1_1, if_pos ⟨rfl, rfl⟩], fun k j q => by rw [gw1_1, if_neg (by omega), gw1_1, if_neg (by omega)]⟩
/-- what a row leaves -/
def RB_ (tb : Nat → Int) (L l M : Nat) (u : gx_S) (R : Int × Nat × Nat × (Nat → Nat → Int)) (r K w : Nat) : Prop :=
  (¬ u.1 215 6 = -1 ∧ i32 (u.1 215 6) ∧ R.1 = u.1 215 6) ∨ ∃ (k p c : Nat) (h : Nat → Nat → Int), R = lyt tb L l M k p r c K w h ∧ k < 1000 ∧ L < p + k ∧ p ≤ L ∧ LI M r c K w ∧ 0 < c ∧ ¬ (K = 1 ∧ c < w) ∧ lv_ l (sgn tb L p) = -1 ∧ (sgn tb L p = 47 ∨ sgn tb L p = -1) ∧ u.1 215 6 = -1 ∧ u.1 215 5 = p ∧ u.1 215 8 = ((r + 1 : Nat) : Int) ∧ u.1 215 9 = c ∧ ∀ i j, (i < r ∧ j < w) ∨ (i = r ∧ j < c) → u.1 219 (12 * i + j) = h i j
theorem sp_142_92 {L l M K w k p r c : Nat} {tb : Nat → Int} {x2 : Int} {h : Nat → Nat → Int} {s : gx_S} (hl : l < 3) (hx : x2 = if K = 0 then -1 else (w : Int)) (h1 : L < p + k) (h2 : p ≤ L) (hk : k < 1000) (hT : TF s L tb) (S : RS s p r c w h) (I : LI M r c K w) (c0 : 0 < c) (hb : w ≤ c ∨ lv_ l (sgn tb L p) = -1) : ∃ u : gx_S, gm_142_92 l x2 c s = some u ∧ CX s u ∧ RB_ tb L l M u (lyt tb L l M k p r c K w h) r K w := by
  have hL := hT.1
  have sr := sgn_rf hT p
  obtain ⟨i1, i2, i3, i4, i5⟩ := id I
  obtain ⟨s1, s2, s3, s4⟩ := id S
  obtain ⟨k, rfl⟩ : ∃ k', k = k' + 1 := ⟨k - 1, by omega⟩
  have f6 : i32 (s.1 215 6) := by rw [s1]; unfold i32; omega
  -- with a fault
  have flt : ∀ f : Int, 0 ≤ f → f ≤ 4 → (lyt tb L l M (k + 1) p r c K w h).1 = 8 * p + f → ∃ u : gx_S, ((gm_139 f (s.1 215 5) s).bind fun q => gm_142_168 c q) = some u ∧ CX s u ∧ RB_ tb L l M u (lyt tb L l M (k + 1) p r c K w h) r K w := fun f f1 f2 e => by
    obtain ⟨u, u1, u2, u3, u4, u5⟩ := sp_168r (gw1 s 215 6 (8 * (p : Int) + f)) (c := c) (r := r) (by rw [gw1_1, if_neg (by omega)]; exact s3)
    have u6 : u.1 215 6 = 8 * (p : Int) + f := by rw [u5 _ _ (by omega), gw1_1, if_pos ⟨rfl, rfl⟩]
    rw [sp_139 f6, if_pos s1, Option.bind_some, s2, u1]
    exact ⟨u, rfl, CX_tr (CX_1 s _ (by omega)) u2, .inl ⟨by omega, by rw [u6]; unfold i32; omega, by rw [e, u6]⟩⟩
  have two_ : gm_142_92 l x2 c s = if sgn tb L p = 47 ∨ sgn tb L p = -1 then gm_142_114 l x2 c 1 s else gm_142_114 l x2 c 0 s := by
    unfold gm_142_92
    rw [sp_137 hT (by omega) s2, Option.bind_some]
    show (if -2147483648 ≤ sgn tb L p ∧ sgn tb L p ≤ 2147483647 then (if sgn tb L p = 47 then gm_142_114 l x2 c 1 s else ((gm_137 s).bind fun q6 => if -2147483648 ≤ q6.1 ∧ q6.1 ≤ 2147483647 then (if ¬ q6.1 = -1 then gm_142_114 l x2 c 0 q6.2 else gm_142_114 l x2 c 1 q6.2) else none)) else none) = _
    rw [if_pos (by omega), sp_137 hT (by omega) s2, Option.bind_some]
    show (if sgn tb L p = 47 then gm_142_114 l x2 c 1 s else (if -2147483648 ≤ sgn tb L p ∧ sgn tb L p ≤ 2147483647 then (if ¬ sgn tb L p = -1 then gm_142_114 l x2 c 0 s else gm_142_114 l x2 c 1 s) else none)) = _
    rw [if_pos (show -2147483648 ≤ sgn tb L p ∧ sgn tb L p ≤ 2147483647 by omega)]
    by_cases a : sgn tb L p = 47
    · rw [if_pos a, if_pos (.inl a)]
    · rw [if_neg a]
      by_cases b : sgn tb L p = -1
      · rw [if_neg (fun t => t b), if_pos (.inr b)]
      · rw [if_pos b, if_neg (by omega)]
  rw [two_]
  by_cases a : sgn tb L p = 47 ∨ sgn tb L p = -1
  · have v1 : lv_ l (sgn tb L p) = -1 := by
      unfold lv_
      rcases a with a | a
      · rw [a]; split <;> rfl
      · rw [a]; split <;> rfl
    rw [if_pos a]
    unfold gm_142_114
    rw [if_pos (show (-2147483648 : Int) ≤ 1 ∧ (1 : Int) ≤ 2147483647 by decide), if_pos (show ¬ (1 : Int) = 0 by decide)]
    have ok : ¬ (K = 1 ∧ c < w) → ∃ u : gx_S, gm_142_168 c s = some u ∧ CX s u ∧ RB_ tb L l M u (lyt tb L l M (k + 1) p r c K w h) r K w := fun kw => by
      obtain ⟨u, u1, u2, u3, u4, u5⟩ := sp_168r s (c := c) s3
      exact ⟨u, u1, u2, .inr ⟨k + 1, p, c, h, rfl, hk, h1, h2, I, c0, kw, v1, a, by rw [u5 _ _ (by omega)]; exact s1, by rw [u5 _ _ (by omega)]; exact s2, u3, u4, fun i j q => by rw [u5 _ _ (by omega)]; exact s4 i j q⟩⟩
    rw [hx]
    by_cases b : K = 0
    · rw [if_pos b, if_pos (show (-2147483648 : Int) ≤ -1 ∧ (-1 : Int) ≤ 2147483647 by decide), if_pos rfl]
      exact ok (by omega)
    · rw [if_neg b, if_pos (show -2147483648 ≤ (w : Int) ∧ (w : Int) ≤ 2147483647 by omega), if_neg (show ¬ (w : Int) = -1 by omega), if_pos (show -2147483648 ≤ (c : Int) ∧ (c : Int) ≤ 2147483647 by omega)]
      by_cases d : w ≤ c
      · rw [if_pos (show (w : Int) ≤ (c : Int) by omega)]
        exact ok (by omega)
      · rw [if_neg (show ¬ (w : Int) ≤ (c : Int) by omega)]
        refine flt 2 (by omega) (by omega) ?_
        rw [lyt, if_neg (fun t => t v1), if_neg (by omega), if_pos (show K = 1 ∧ c < w by omega)]
  · rw [if_neg a]
    unfold gm_142_114
    rw [if_pos (show (-2147483648 : Int) ≤ 0 ∧ (0 : Int) ≤ 2147483647 by decide), if_neg (show ¬ ¬ (0 : Int) = 0 from fun t => t rfl), sp_137 hT (by omega) s2, Option.bind_some]
    show ∃ u : gx_S, ((gm_140 l (sgn tb L p) s).bind _) = _ ∧ _
    rw [sp_140 s hl (by unfold i32; omega), Option.bind_some]
    by_cases b : ¬ lv_ l (sgn tb L p) = -1
    · have wc : w ≤ c := by omega
      rw [if_neg (fun t => (gbD s).mp t b)]
      refine flt 3 (by omega) (by omega) ?_
      rw [lyt, if_pos b, if_pos wc]
    · rw [if_pos ((gbD s).mpr b)]
      refine flt 1 (by omega) (by omega) ?_
      rw [lyt, if_neg b, if_pos (.inr a)]
theorem sp_142 {L l M K w k p r : Nat} {tb : Nat → Int} {x2 : Int} {h : Nat → Nat → Int} {s : gx_S} (hl : l < 3) (hx : x2 = if K = 0 then -1 else (w : Int)) (h1 : L < p + k) (h2 : p ≤ L) (hk : k < 1000) (hT : TF s L tb) (S : RS s p r 0 w h) (I : LI M r 0 K w) (w0 : 0 < w) : ∃ u : gx_S, gm_142 l x2 s = some u ∧ CX s u ∧ RB_ tb L l M u (lyt tb L l M k p r 0 K w h) r K w := by
  have hL := hT.1
  have sr := sgn_rf hT p
  obtain ⟨i1, i2, i3, i4, i5⟩ := id I
  obtain ⟨s1, s2, s3, s4⟩ := id S
  have xr : i32 x2 := by
    rw [hx]
    unfold i32
    split <;> omega
  unfold i32 at xr
  unfold gm_142
  rw [sp_137 hT (by omega) s2, Option.bind_some]
  show ∃ u : gx_S, ((gm_140 l (sgn tb L p) s).bind _) = _ ∧ _
  rw [sp_140 s hl (by unfold i32; omega), Option.bind_some]
  by_cases b : ¬ lv_ l (sgn tb L p) = -1
  · have e : (if ¬ x2 = -1 then gm_142_32 l x2 x2 s else gm_142_32 l x2 12 s) = gm_142_36 100000 l x2 w 0 s := by
      unfold gm_142_32
      rw [hx]
      by_cases z : K = 0
      · rw [if_pos z, if_neg (show ¬ ¬ (-1 : Int) = -1 from fun t => t rfl), show w = 12 by omega]
        rfl
      · rw [if_neg z, if_pos (show ¬ (w : Int) = -1 by omega)]
    obtain ⟨u, k', p', c', h', u1, u2, u3, u4, u5, u6, u7, u8, uk, u9, u10⟩ := sl_142_36 (x2 := x2) hl k p 100000 r 0 h s h1 h2 (by omega) hT S I
    have u1 : gm_142_36 100000 l x2 w 0 s = _ := u1
    rw [if_pos (fun q => (gbD s).mp q b), if_pos xr]
    show ∃ v : gx_S, (if ¬ x2 = -1 then gm_142_32 l x2 x2 s else gm_142_32 l x2 12 s) = _ ∧ _
    rw [e, u1, u3]
    obtain ⟨v, v1, v2, v3⟩ := sp_142_92 hl hx u4 u5 (by omega) (CX_TF u2 hT) u6 u7 (u10 w0 b) u9
    exact ⟨v, v1, CX_tr u2 v2, v3⟩
  · rw [if_neg (fun q => q ((gbD s).mpr b))]
    show ∃ v : gx_S, ((gm_139 1 (s.1 215 5) s).bind _) = _ ∧ _
    rw [sp_139 (by rw [s1]; unfold i32; omega), if_pos s1, Option.bind_some, s2]
    obtain ⟨k, rfl⟩ : ∃ k', k = k' + 1 := ⟨k - 1, by omega⟩
    have x6 : (gw1 s 215 6 (8 * (p : Int) + 1)).1 215 6 = 8 * (p : Int) + 1 := by rw [gw1_1, if_pos ⟨rfl, rfl⟩]
    refine ⟨_, rfl, CX_1 s _ (by omega), .inl ⟨by rw [x6]; omega, by rw [x6]; unfold i32; omega, ?_⟩⟩
    rw [x6, lyt, if_neg b, if_pos (.inl rfl)]
end
section
/-! TEXTS of layers: the reference's whole reading -/
theorem fl_143 {n : Nat} {l : Nat} {x2 x3 : Int} {u : gx_S} (h : ¬ u.1 215 6 = -1) (h6 : i32 (u.1 215 6)) : gm_143_57 (n + 1) l x2 x3 u = some u := by
  rw [gm_143_57, sp_138 h6, Option.bind_some, if_pos ((gbD u).mpr h)]
  unfold gm_143_112
  rw [sp_138 h6, Option.bind_some, if_pos ((gbD u).mpr h)]
/-- what the whole reading leaves -/
def RW_ (u : gx_S) (Y : Int × Nat × Nat × (Nat → Nat → Int)) : Prop := u.1 215 6 = Y.1 ∧ (Y.1 = -1 → u.1 215 8 = Y.2.1 ∧ u.1 215 9 = Y.2.2.1 ∧ ∀ i j, i < Y.2.1 → j < Y.2.2.1 → u.1 219 (12 * i + j) = Y.2.2.2 i j)
theorem sl_143_57 {L l M : Nat} {tb : Nat → Int} (hl : l < 3) : ∀ (m n r k p c K w : Nat) (h : Nat → Nat → Int) (s : gx_S), M ≤ r + m → m < n → k < 1000 → L < p + k → p ≤ L → LI M r c K w → 0 < c → ¬ (K = 1 ∧ c < w) → lv_ l (sgn tb L p) = -1 → (sgn tb L p = 47 ∨ sgn tb L p = -1) → s.1 215 6 = -1 → s.1 215 5 = p → s.1 215 8 = ((r + 1 : Nat) : Int) → s.1 215 9 = c → (∀ i j, (i < r ∧ j < w) ∨ (i = r ∧ j < c) → s.1 219 (12 * i + j) = h i j) → TF s L tb → ∃ u : gx_S, gm_143_57 n l M c s = some u ∧ CX s u ∧ RW_ u (lyt tb L l M k p r c K w h) := by
  intro m
  induction m with
  | zero => intro n r k p c K w h s h1 h2 h3 h4 h5 I; obtain ⟨i1, _⟩ := I; omega
  | succ m ih =>
    intro n r k p c K w h s h1 h2 h3 h4 h5 I c0 kw v1 x47 s6 s5 s8 s9 sc hT
    obtain ⟨n, rfl⟩ : ∃ n', n = n' + 1 := ⟨n - 1, by omega⟩
    obtain ⟨k, rfl⟩ : ∃ k', k = k' + 1 := ⟨k - 1, by omega⟩
    have hL := hT.1
    have sr := sgn_rf hT p
    obtain ⟨i1, i2, i3, i4, i5⟩ := id I
    have f6 : i32 (s.1 215 6) := by rw [s6]; unfold i32; omega
    rw [gm_143_57, sp_138 f6, Option.bind_some, if_neg (fun q => (gbD s).mp q s6)]
    show ∃ u : gx_S, ((gm_137 s).bind _) = _ ∧ _
    rw [sp_137 hT (by omega) s5, Option.bind_some]
    show ∃ u : gx_S, (if -2147483648 ≤ sgn tb L p ∧ sgn tb L p ≤ 2147483647 then (if ¬ sgn tb L p = 47 then gm_143_112 l M s else (if -2147483648 ≤ (s.1 215 8) ∧ (s.1 215 8) ≤ 2147483647 then (if -2147483648 ≤ (M : Int) ∧ (M : Int) ≤ 2147483647 then (if ¬ (s.1 215 8) = (M : Int) then ((gm_142 l c (gw1 s 215 5 ((s.1 215 5) + 1))).bind fun q12 => gm_143_57 n l M c q12) else ((gm_139 3 (s.1 215 5) s).bind fun q14 => gm_143_57 n l M c q14)) else none) else none)) else none) = _ ∧ _
    rw [if_pos (by omega), lyt, if_neg (show ¬ ¬ lv_ l (sgn tb L p) = -1 from fun t => t v1), if_neg (show ¬ (c = 0 ∨ ¬ (sgn tb L p = 47 ∨ sgn tb L p = -1)) by omega), if_neg kw]
    by_cases a : sgn tb L p = 47
    · have hp : p < L := Classical.byContradiction fun q => by
        have e : sgn tb L p = -1 := if_neg q
        omega
      rw [if_neg (show ¬ ¬ sgn tb L p = 47 from fun t => t a), if_pos a, s8, if_pos (show -2147483648 ≤ ((r + 1 : Nat) : Int) ∧ ((r + 1 : Nat) : Int) ≤ 2147483647 by omega), if_pos (show -2147483648 ≤ (M : Int) ∧ (M : Int) ≤ 2147483647 by omega)]
      by_cases b : M ≤ r + 1
      · obtain ⟨n, rfl⟩ : ∃ n', n = n' + 1 := ⟨n - 1, by omega⟩
        rw [if_neg (show ¬ ¬ ((r + 1 : Nat) : Int) = (M : Int) by omega), if_pos b, sp_139 f6, if_pos s6, Option.bind_some, s5]
        have x6 : (gw1 s 215 6 (8 * (p : Int) + 3)).1 215 6 = 8 * (p : Int) + 3 := by rw [gw1_1, if_pos ⟨rfl, rfl⟩]
        rw [fl_143 (by rw [x6]; omega) (by rw [x6]; unfold i32; omega)]
        exact ⟨_, rfl, CX_1 s _ (by omega), x6, fun q => by
          have q : 8 * (p : Int) + 3 = -1 := q
          omega⟩
      · have cp : ((p : Int) + 1) = ((p + 1 : Nat) : Int) := rfl
        obtain ⟨t, ht⟩ : ∃ t, t = gw1 s 215 5 ((p + 1 : Nat) : Int) := ⟨_, rfl⟩
        have tC : CX s t := by rw [ht]; exact CX_1 s _ (by omega)
        have to : ∀ k j, ¬ (k = 215 ∧ j = 5) → t.1 k j = s.1 k j := fun k j q => by rw [ht, gw1_1, if_neg q]
        rw [if_pos (show ¬ ((r + 1 : Nat) : Int) = (M : Int) by omega), if_neg b, s5, cp, ← ht]
        obtain ⟨u, u1, u2, u3⟩ := sp_142 (K := 1) (w := c) (k := k) (p := p + 1) (r := r + 1) (M := M) (x2 := (c : Int)) (h := h) hl (by rw [if_neg (by omega)]) (by omega) (by omega) (by omega) (CX_TF tC hT) ⟨by rw [to _ _ (by omega)]; exact s6, by rw [ht, gw1_1, if_pos ⟨rfl, rfl⟩], by rw [to _ _ (by omega)]; exact s8, fun i j q => by rw [to _ _ (by omega)]; exact sc i j (by omega)⟩ ⟨by omega, i2, by omega, by omega, by omega⟩ c0
        rw [u1, Option.bind_some]
        rcases u3 with ⟨f1, f2, f3⟩ | ⟨k', p', c', h', e1, e2, e3, e4, e5, e6, e7, e8, e9, e10, e11, e12, e13, e14⟩
        · obtain ⟨n, rfl⟩ : ∃ n', n = n' + 1 := ⟨n - 1, by omega⟩
          rw [fl_143 f1 f2]
          exact ⟨u, rfl, CX_tr tC u2, f3.symm, fun q => absurd (f3.symm.trans q) f1⟩
        · have ec : c' = c := by
            obtain ⟨_, _, z3, _, _⟩ := e5
            omega
          rw [ec] at e5 e6 e7 e13 e14 e1
          rw [e1]
          obtain ⟨v, v1', v2, v3⟩ := ih n (r + 1) k' p' c 1 c h' u (by omega) (by omega) e2 e3 e4 e5 e6 e7 e8 e9 e10 e11 e12 e13 e14 (CX_TF u2 (CX_TF tC hT))
          exact ⟨v, v1', CX_tr tC (CX_tr u2 v2), v3⟩
    · rw [if_pos a, if_neg a]
      unfold gm_143_112
      rw [sp_138 f6, Option.bind_some, if_neg (fun q => (gbD s).mp q s6), if_pos (show -2147483648 ≤ (l : Int) ∧ (l : Int) ≤ 2147483647 by omega)]
      have dn : RW_ s (-1, r + 1, c, h) := ⟨s6, fun _ => ⟨s8, s9, fun i j hi hj => sc i j (by
        have hi : i < r + 1 := hi
        have hj : j < c := hj
        omega)⟩⟩
      by_cases b : l = 0
      · rw [if_pos (show (l : Int) = 0 by omega), if_neg (show ¬ (¬ l = 0 ∧ r + 1 < M) from fun q => q.1 b)]
        exact ⟨s, rfl, CX_rf s, dn⟩
      · rw [if_neg (show ¬ (l : Int) = 0 by omega)]
        show ∃ u : gx_S, (if -2147483648 ≤ (s.1 215 8) ∧ (s.1 215 8) ≤ 2147483647 then (if -2147483648 ≤ (M : Int) ∧ (M : Int) ≤ 2147483647 then (if (M : Int) ≤ (s.1 215 8) then some s else ((gm_139 4 (s.1 215 5) s).bind fun q10 => some q10)) else none) else none) = _ ∧ _
        rw [s8, if_pos (show -2147483648 ≤ ((r + 1 : Nat) : Int) ∧ ((r + 1 : Nat) : Int) ≤ 2147483647 by omega), if_pos (show -2147483648 ≤ (M : Int) ∧ (M : Int) ≤ 2147483647 by omega)]
        by_cases d : r + 1 < M
        · have x6 : (gw1 s 215 6 (8 * (p : Int) + 4)).1 215 6 = 8 * (p : Int) + 4 := by rw [gw1_1, if_pos ⟨rfl, rfl⟩]
          rw [if_neg (show ¬ (M : Int) ≤ ((r + 1 : Nat) : Int) by omega), if_pos (show ¬ l = 0 ∧ r + 1 < M from ⟨b, d⟩), sp_139 f6, if_pos s6, Option.bind_some, s5]
          exact ⟨_, rfl, CX_1 s _ (by omega), x6, fun q => by
            have q : 8 * (p : Int) + 4 = -1 := q
            omega⟩
        · rw [if_pos (show (M : Int) ≤ ((r + 1 : Nat) : Int) by omega), if_neg (show ¬ (¬ l = 0 ∧ r + 1 < M) from fun q => d q.2)]
          exact ⟨s, rfl, CX_rf s, dn⟩
theorem sp_143 {L l R C : Nat} {tb : Nat → Int} {s : gx_S} (hl : l < 3) (hT : TF s L tb) (hR : s.1 216 0 = R) (hC : s.1 216 1 = C) (r8 : R ≤ 8) (c12 : C ≤ 12) (r1 : ¬ l = 0 → 1 ≤ R ∧ 1 ≤ C) : ∃ u : gx_S, gm_143 l s = some u ∧ CX s u ∧ RW_ u (lyw tb L l R C) := by
  have hL := hT.1
  obtain ⟨t, ht⟩ : ∃ t, t = gw1 (gw1 (gw1 s 215 5 0) 215 6 (-1)) 215 8 0 := ⟨_, rfl⟩
  have tC : CX s t := by rw [ht]; exact CX_tr (CX_1 s _ (by omega)) (CX_tr (CX_1 _ _ (by omega)) (CX_1 _ _ (by omega)))
  have t5 : t.1 215 5 = ((0 : Nat) : Int) := by rw [ht, gw1_1, if_neg (by omega), gw1_1, if_neg (by omega), gw1_1, if_pos ⟨rfl, rfl⟩]; rfl
  have t6 : t.1 215 6 = -1 := by rw [ht, gw1_1, if_neg (by omega), gw1_1, if_pos ⟨rfl, rfl⟩]
  have t8 : t.1 215 8 = ((0 : Nat) : Int) := by rw [ht, gw1_1, if_pos ⟨rfl, rfl⟩]; rfl
  have tR : t.1 216 0 = R := by rw [tC.2 _ _ (by omega) (by omega) (by omega)]; exact hR
  have tK : t.1 216 1 = C := by rw [tC.2 _ _ (by omega) (by omega) (by omega)]; exact hC
  have tT := CX_TF tC hT
  have st : gm_143 l s = ((gm_142 l (if (if l = 0 then 0 else 1) = 0 then -1 else ((if l = 0 then 12 else C : Nat) : Int)) t).bind fun q2 => gm_143_57 100000 l (if l = 0 then 8 else R : Nat) (q2.1 215 9) q2) := by
    unfold gm_143
    rw [if_pos (by omega), ← ht, tR]
    by_cases a : l = 0
    · rw [if_neg (show ¬ ¬ (l : Int) = 0 by omega)]
      unfold gm_143_30
      rw [if_pos (show -2147483648 ≤ (l : Int) ∧ (l : Int) ≤ 2147483647 by omega), if_neg (show ¬ ¬ (l : Int) = 0 by omega)]
      unfold gm_143_45
      rw [if_pos a, if_pos rfl, if_pos a]
      rfl
    · rw [if_pos (show ¬ (l : Int) = 0 by omega)]
      unfold gm_143_30
      rw [if_pos (show -2147483648 ≤ (l : Int) ∧ (l : Int) ≤ 2147483647 by omega), if_pos (show ¬ (l : Int) = 0 by omega), tK]
      unfold gm_143_45
      rw [if_neg a, if_neg (show ¬ (1 : Nat) = 0 by omega), if_neg a, if_neg a]
  have w0 : 0 < (if l = 0 then 12 else C) := by
    by_cases a : l = 0
    · rw [if_pos a]; omega
    · rw [if_neg a]; exact (r1 a).2
  have I : LI (if l = 0 then 8 else R) 0 0 (if l = 0 then 0 else 1) (if l = 0 then 12 else C) := by
    by_cases a : l = 0
    · rw [if_pos a, if_pos a, if_pos a]
      exact ⟨by omega, by omega, by omega, by omega, by omega⟩
    · rw [if_neg a, if_neg a, if_neg a]
      have := r1 a
      exact ⟨by omega, by omega, by omega, by omega, by omega⟩
  obtain ⟨u, u1, u2, u3⟩ := sp_142 (M := if l = 0 then 8 else R) (K := if l = 0 then 0 else 1) (w := if l = 0 then 12 else C) (k := L + 1) (p := 0) (r := 0) (x2 := if (if l = 0 then 0 else 1) = 0 then -1 else ((if l = 0 then 12 else C : Nat) : Int)) (h := fun _ _ => 0) hl rfl (by omega) (by omega) (by omega) tT ⟨t6, t5, t8, fun i j q => by omega⟩ I w0
  rw [st, u1, Option.bind_some]
  unfold lyw
  rcases u3 with ⟨f1, f2, f3⟩ | ⟨k', p', c', h', e1, e2, e3, e4, e5, e6, e7, e8, e9, e10, e11, e12, e13, e14⟩
  · rw [show (100000 : Nat) = 99999 + 1 from rfl, fl_143 f1 f2]
    exact ⟨u, rfl, CX_tr tC u2, f3.symm, fun q => absurd (f3.symm.trans q) f1⟩
  · obtain ⟨v, v1, v2, v3⟩ := sl_143_57 hl 8 100000 0 k' p' c' _ _ h' u (by have := I.2.1; omega) (by omega) e2 e3 e4 e5 e6 e7 e8 e9 e10 e11 e12 e13 e14 (CX_TF u2 tT)
    rw [e1, e13, v1]
    exact ⟨v, rfl, CX_tr tC (CX_tr u2 v2), v3⟩
end
section
/-! CALLS: layer -/
def orn (T l : Nat) : Nat := if T / 2 ^ l % 2 = 1 then T else T + 2 ^ l
theorem bset_n : ∀ T, T < 8 → ∀ l, l < 3 → bset (T : Nat) (l : Nat) = (orn T l : Nat) := by decide +kernel
theorem orn_r : ∀ T, T < 8 → ∀ l, l < 3 → orn T l < 8 ∧ ¬ orn T l = 0 ∧ ∀ l', l' < 3 → (orn T l / 2 ^ l' % 2 = 1 ↔ l' = l ∨ T / 2 ^ l' % 2 = 1) := by decide +kernel
/-- the map with another layer -/
def fy (f : Nat → Int) (l : Nat) (T : Int) (r c : Nat) (h : Nat → Int) (i : Nat) : Int := if i = 0 then r else if i = 1 then c else if i = 2 then T else if 52 + 96 * l ≤ i ∧ i < 148 + 96 * l then h (i - 52 - 96 * l) else f i
theorem fy_o {f : Nat → Int} {l : Nat} {T : Int} {r c : Nat} {h : Nat → Int} {i : Nat} (h1 : 3 ≤ i) (h2 : ¬ (52 + 96 * l ≤ i ∧ i < 148 + 96 * l)) : fy f l T r c h i = f i := by
  unfold fy
  rw [if_neg (by omega), if_neg (by omega), if_neg (by omega), if_neg h2]
theorem fy_l {f : Nat → Int} {l : Nat} {T : Int} {r c : Nat} {h : Nat → Int} {i : Nat} (h2 : i < 96) : fy f l T r c h (52 + 96 * l + i) = h i := by
  unfold fy
  rw [if_neg (by omega), if_neg (by omega), if_neg (by omega), if_pos (by omega), show 52 + 96 * l + i - 52 - 96 * l = i by omega]
/-- what the layers told become -/
def tl_ (f : Nat → Int) (r c : Nat) : Int := if f 0 = r ∧ f 1 = c then f 2 else 0
theorem kD {R C k : Nat} (hC : C ≤ 12) (hR : R ≤ 8) (hk : k < R * C) : k / C < R ∧ k % C < C ∧ k / C * C + k % C = k ∧ 12 * (k / C) + k % C < 96 ∧ k < 96 := by
  have h0 : 0 < C := Nat.pos_of_ne_zero fun h => by rw [h, Nat.mul_zero] at hk; omega
  have a : k / C < R := (Nat.div_lt_iff_lt_mul h0).mpr hk
  have b := Nat.mod_lt k h0
  have d : k / C * C + k % C = k := by rw [Nat.mul_comm]; exact Nat.div_add_mod k C
  have e := RC_96 hR hC
  exact ⟨a, b, d, by omega, by omega⟩
theorem fy_M {f : Nat → Int} {R C l r c : Nat} {h : Nat → Int} (M : MP f R C) (hl : l < 3) (hr : 1 ≤ r ∧ r ≤ 8) (hc : 1 ≤ c ∧ c ≤ 12) (h0 : ¬ l = 0 → f 2 % 2 = 1 ∧ r = R ∧ c = C) (hh : ∀ i j, i < r → j < c → 0 ≤ h (12 * i + j) ∧ h (12 * i + j) ≤ if l = 2 then 3 else 8) : MP (fy f l (bset (tl_ f r c) l) r c h) r c ∧ ∀ l', l' < 3 → bset (tl_ f r c) l / 2 ^ l' % 2 = 1 → l' = l ∨ (r = R ∧ c = C ∧ f 2 / 2 ^ l' % 2 = 1) := by
  obtain ⟨m1, m2, m3, m4, m5, m6, m7, m8, m10⟩ := M
  have tr : ∃ T : Nat, tl_ f r c = T ∧ T < 8 := by
    unfold tl_
    by_cases q : f 0 = r ∧ f 1 = c
    · rw [if_pos q]
      exact ⟨(f 2).toNat, by omega, by omega⟩
    · rw [if_neg q]
      exact ⟨0, rfl, by omega⟩
  obtain ⟨T, eT, hT⟩ := tr
  obtain ⟨o1, o2, o3⟩ := orn_r T hT l hl
  have eb : bset (tl_ f r c) l = (orn T l : Nat) := by rw [eT]; exact bset_n T hT l hl
  have pw : ∀ (x l' : Nat), l' < 3 → ((x : Int) / 2 ^ l' % 2 = 1 ↔ x / 2 ^ l' % 2 = 1) := fun x l' q => by
    rcases (show l' = 0 ∨ l' = 1 ∨ l' = 2 by omega) with e | e | e
    · rw [e]
      show (x : Int) / 1 % 2 = 1 ↔ x / 1 % 2 = 1
      omega
    · rw [e]
      show (x : Int) / 2 % 2 = 1 ↔ x / 2 % 2 = 1
      omega
    · rw [e]
      show (x : Int) / 4 % 2 = 1 ↔ x / 4 % 2 = 1
      omega
  have key : ∀ l', l' < 3 → bset (tl_ f r c) l / 2 ^ l' % 2 = 1 → l' = l ∨ (r = R ∧ c = C ∧ f 2 / 2 ^ l' % 2 = 1) := fun l' hl' q => by
    rw [eb] at q
    rcases (o3 l' hl').mp ((pw _ _ hl').mp q) with z | z
    · exact .inl z
    · refine .inr ?_
      unfold tl_ at eT
      by_cases y : f 0 = r ∧ f 1 = c
      · rw [if_pos y] at eT
        rw [eT]
        exact ⟨by omega, by omega, (pw _ _ hl').mpr z⟩
      · rw [if_neg y] at eT
        have : T = 0 := by omega
        rw [this, Nat.zero_div] at z
        omega
  have e2 : fy f l (bset (tl_ f r c) l) r c h 2 = (orn T l : Nat) := by
    unfold fy
    rw [if_neg (by omega), if_neg (by omega), if_pos rfl, eb]
  refine ⟨⟨⟨rfl, rfl, hr.2, hc.2⟩, by rw [e2]; omega, by rw [fy_o (by omega) (by omega)]; exact m3, by rw [fy_o (by omega) (by omega)]; exact m4, fun g hg => ⟨fun z hz => by rw [fy_o (by omega) (by omega)]; exact (m5 g hg).1 z hz, ?_⟩, fun i hi => by rw [fy_o (by omega) (by omega)]; exact m6 i hi, fun i hi => by rw [fy_o (by omega) (by omega)]; exact m7 i hi, fun l' hl' b k hk => ?_, fun _ => ⟨?_, hr.1, hc.1⟩⟩, key⟩
  · rw [sg_eq (g := fun z => f (5 + 9 * g + z)) fun z hz => fy_o (by omega) (by omega)]
    exact (m5 g hg).2
  · obtain ⟨k1, k2, k3, k4, k5⟩ := kD hc.2 hr.2 hk
    have b' : bset (tl_ f r c) l / 2 ^ l' % 2 = 1 := by
      rw [e2] at b
      rw [eb]
      exact b
    by_cases z : l' = l
    · rw [z, show 52 + 96 * l + 12 * (k / c) + k % c = 52 + 96 * l + (12 * (k / c) + k % c) by omega, fy_l k4]
      exact hh _ _ k1 k2
    · rcases key l' hl' b' with y | ⟨y1, y2, y3⟩
      · exact absurd y z
      · rw [fy_o (by omega) (by omega)]
        have := m8 l' hl' y3 k (by rw [← y1, ← y2]; exact hk)
        rw [← y2] at this
        exact this
  · have y : bset (tl_ f r c) l / 2 ^ 0 % 2 = 1 := by
      rw [eb]
      refine (pw _ _ (by omega)).mpr ((o3 0 (by omega)).mpr ?_)
      by_cases z : l = 0
      · exact .inl z.symm
      · obtain ⟨z1, z2, z3⟩ := h0 z
        refine .inr ?_
        have : tl_ f r c = f 2 := if_pos ⟨by omega, by omega⟩
        rw [this] at eT
        have q : (T : Int) / 2 ^ 0 % 2 = 1 := by
          rw [← eT]
          show f 2 / 1 % 2 = 1
          rw [Int.ediv_one]
          exact z1
        exact (pw _ _ (by omega)).mp q
    rw [e2]
    rw [eb] at y
    have y : ((orn T l : Nat) : Int) / 1 % 2 = 1 := y
    rw [Int.ediv_one] at y
    exact y
theorem sl_145_126 {l : Nat} (hl : l < 3) : ∀ (m j : Nat) (s : gx_S), 96 < m + j → j ≤ 96 → ∃ u : gx_S, gm_145_126 m l j s = some (s.1 216 0 * s.1 216 1, u) ∧ u.2 = s.2 ∧ (∀ k i, k ≠ 216 → u.1 k i = s.1 k i) ∧ ∀ i, u.1 216 i = if 52 + 96 * l + j ≤ i ∧ i < 148 + 96 * l then s.1 219 (i - 52 - 96 * l) else s.1 216 i := by
  intro m
  induction m with
  | zero => intro j s h; omega
  | succ m ih =>
    intro j s h hj
    rw [gm_145_126, if_pos (by omega)]
    by_cases q : j = 96
    · rw [if_pos (by omega)]
      exact ⟨s, rfl, rfl, fun _ _ _ => rfl, fun i => by rw [if_neg (by omega)]⟩
    · have ce : ((j : Int) + 1) = ((j + 1 : Nat) : Int) := rfl
      have i5 : ((j : Int)).toNat = j := by omega
      have i6 : ((52 + (96 * (l : Int))) + (j : Int)).toNat = 52 + 96 * l + j := by omega
      rw [if_neg (by omega), if_pos (by omega), if_pos (by omega), i5, i6, ce]
      obtain ⟨u, u1, u2, u3, u4⟩ := ih (j + 1) (gw1 s 216 (52 + 96 * l + j) (s.1 219 j)) (by omega) (by omega)
      rw [gw1_1, if_neg (by omega), gw1_1, if_neg (by omega)] at u1
      refine ⟨u, u1, u2, fun k i h1 => by rw [u3 k i h1, gw1_1, if_neg (fun x => h1 x.1)], fun i => ?_⟩
      rw [u4, gw1_1, gw1_1]
      by_cases y : i = 52 + 96 * l + j
      · rw [if_neg (show ¬ (52 + 96 * l + (j + 1) ≤ i ∧ i < 148 + 96 * l) by omega), if_pos (show (216 : Nat) = 216 ∧ i = 52 + 96 * l + j from ⟨rfl, y⟩), if_pos (show 52 + 96 * l + j ≤ i ∧ i < 148 + 96 * l by omega), y, show 52 + 96 * l + j - 52 - 96 * l = j by omega]
      · by_cases y2 : 52 + 96 * l + (j + 1) ≤ i ∧ i < 148 + 96 * l
        · rw [if_pos y2, if_neg (show ¬ ((219 : Nat) = 216 ∧ i - 52 - 96 * l = 52 + 96 * l + j) by omega), if_pos (show 52 + 96 * l + j ≤ i ∧ i < 148 + 96 * l by omega)]
        · rw [if_neg y2, if_neg (show ¬ ((216 : Nat) = 216 ∧ i = 52 + 96 * l + j) from fun x => y x.2), if_neg (show ¬ (52 + 96 * l + j ≤ i ∧ i < 148 + 96 * l) by omega)]
end
section
/-! CALLS: layer, whole -/
theorem sp_55 {d : gx_S} {f : Nat → Int} {l r c : Nat} (hl : l < 3) (hr : r ≤ 8) (hc : c ≤ 12) (e1 : d.1 58 1 = r) (e2 : d.1 58 2 = c) (m1 : d.1 1 4 = f 0) (m2 : d.1 1 5 = f 1) (m3 : d.1 1 6 = f 2) (h0 : 0 ≤ f 0 ∧ f 0 ≤ 8) (h1 : 0 ≤ f 1 ∧ f 1 ≤ 12) : ∃ u : gx_S, gm_55 1 l d = some u ∧ u.2 = d.2 ∧ u.1 1 4 = r ∧ u.1 1 5 = c ∧ u.1 1 6 = bset (tl_ f r c) l ∧ (∀ k j, k ≠ 2 → ¬ (k = 1 ∧ 4 ≤ j ∧ j ≤ 6) → u.1 k j = d.1 k j) ∧ ∀ j, u.1 2 j = if 96 * l ≤ j ∧ j < 96 * l + 96 then d.1 59 (j - 96 * l) else d.1 2 j := by
  have i2 : ((l : Int) * 96).toNat = 96 * l := by omega
  -- the tail, over any state that agrees
  have tail : ∀ (z : gx_S) (T : Int), z.2 = d.2 → (∀ k j, ¬ (k = 1 ∧ j = 6) → z.1 k j = d.1 k j) → z.1 1 6 = T → ∃ u : gx_S, gm_55_27 1 l z = some u ∧ u.2 = d.2 ∧ u.1 1 4 = r ∧ u.1 1 5 = c ∧ u.1 1 6 = bset T l ∧ (∀ k j, k ≠ 2 → ¬ (k = 1 ∧ 4 ≤ j ∧ j ≤ 6) → u.1 k j = d.1 k j) ∧ ∀ j, u.1 2 j = if 96 * l ≤ j ∧ j < 96 * l + 96 then d.1 59 (j - 96 * l) else d.1 2 j := fun z T z2 zo z6 => by
    obtain ⟨a, ha⟩ : ∃ a, a = gw1 z 1 4 (z.1 58 1) := ⟨_, rfl⟩
    obtain ⟨b, hb⟩ : ∃ b, b = gw1 a 1 5 (a.1 58 2) := ⟨_, rfl⟩
    have b6 : b.1 1 6 = T := by rw [hb, gw1_1, if_neg (by omega), ha, gw1_1, if_neg (by omega)]; exact z6
    have bo : ∀ k j, ¬ (k = 1 ∧ 4 ≤ j ∧ j ≤ 6) → b.1 k j = d.1 k j := fun k j q => by rw [hb, gw1_1, if_neg (by omega), ha, gw1_1, if_neg (by omega), zo k j (by omega)]
    unfold gm_55_27
    rw [if_pos (by omega), ← ha, ← hb, i2, b6]
    obtain ⟨w, hw⟩ : ∃ w, w = gw1 b 1 6 (bset T l) := ⟨_, rfl⟩
    have wo : ∀ k j, ¬ (k = 1 ∧ 4 ≤ j ∧ j ≤ 6) → w.1 k j = d.1 k j := fun k j q => by rw [hw, gw1_1, if_neg (by omega), bo k j q]
    refine ⟨gcp w 59 0 2 (96 * l) 96, by rw [hw]; rfl, ?_, ?_, ?_, ?_, fun k j q1 q2 => ?_, fun j => ?_⟩
    · show w.2 = d.2
      rw [hw, gw1_2, hb, gw1_2, ha, gw1_2, z2]
    · rw [gcp_1, if_neg (by omega), hw, gw1_1, if_neg (by omega), hb, gw1_1, if_neg (by omega), ha, gw1_1, if_pos ⟨rfl, rfl⟩, zo _ _ (by omega)]
      exact e1
    · rw [gcp_1, if_neg (by omega), hw, gw1_1, if_neg (by omega), hb, gw1_1, if_pos ⟨rfl, rfl⟩, ha, gw1_1, if_neg (by omega), zo _ _ (by omega)]
      exact e2
    · rw [gcp_1, if_neg (by omega), hw, gw1_1, if_pos ⟨rfl, rfl⟩]
    · rw [gcp_1, if_neg (by omega), wo k j q2]
    · rw [gcp_1]
      by_cases y : 96 * l ≤ j ∧ j < 96 * l + 96
      · rw [if_pos (by omega), if_pos y, wo _ _ (by omega), show 0 + (j - 96 * l) = j - 96 * l by omega]
      · rw [if_neg (by omega), if_neg y, wo _ _ (by omega)]
  unfold gm_55 tl_
  rw [if_pos (by decide +kernel), e1, m1, if_pos (by omega), if_pos (by omega)]
  have re : gm_55_22 1 l d = gm_55_27 1 l (gw1 d 1 6 0) := rfl
  by_cases a : f 0 = r
  · rw [if_neg (show ¬ ¬ (r : Int) = f 0 from fun t => t a.symm), e2, m2, if_pos (show -2147483648 ≤ (c : Int) ∧ (c : Int) ≤ 2147483647 by omega), if_pos (show -2147483648 ≤ f 1 ∧ f 1 ≤ 2147483647 by omega)]
    by_cases b : f 1 = c
    · rw [if_pos b.symm, if_pos (show f 0 = r ∧ f 1 = c from ⟨a, b⟩)]
      exact tail d (f 2) rfl (fun _ _ _ => rfl) m3
    · rw [if_neg (show ¬ (c : Int) = f 1 from fun t => b t.symm), if_neg (show ¬ (f 0 = r ∧ f 1 = c) from fun t => b t.2), re]
      exact tail (gw1 d 1 6 0) 0 rfl (fun k j q => by rw [gw1_1, if_neg q]) (by rw [gw1_1, if_pos ⟨rfl, rfl⟩])
  · rw [if_pos (show ¬ (r : Int) = f 0 from fun t => a t.symm), if_neg (show ¬ (f 0 = r ∧ f 1 = c) from fun t => a t.1), re]
    exact tail (gw1 d 1 6 0) 0 rfl (fun k j q => by rw [gw1_1, if_neg q]) (by rw [gw1_1, if_pos ⟨rfl, rfl⟩])
theorem sp_145t {y : gx_S} {f : Nat → Int} {l r c : Nat} (hl : l < 3) (hr : r ≤ 8) (hc : c ≤ 12) (e8 : y.1 215 8 = r) (e9 : y.1 215 9 = c) (e : y.1 216 = f) (h0 : 0 ≤ f 0 ∧ f 0 ≤ 8) (h1 : 0 ≤ f 1 ∧ f 1 ≤ 12) (hs : ¬ l = 0 → f 0 = r ∧ f 1 = c) : ∃ p : gx_S, (if (-2147483648 ≤ (l : Int) ∧ (l : Int) ≤ 2147483647) then (if ¬ (l : Int) = 0 then (gm_145_112 l y) else (if (-2147483648 ≤ (y.1 215 8) ∧ (y.1 215 8) ≤ 2147483647) then (if (-2147483648 ≤ (y.1 216 0) ∧ (y.1 216 0) ≤ 2147483647) then (if ¬ (y.1 215 8) = (y.1 216 0) then (gm_145_85 l y) else (if (-2147483648 ≤ (y.1 215 9) ∧ (y.1 215 9) ≤ 2147483647) then (if (-2147483648 ≤ (y.1 216 1) ∧ (y.1 216 1) ≤ 2147483647) then (if (y.1 215 9) = (y.1 216 1) then (gm_145_112 l y) else (gm_145_85 l y)) else none) else none)) else none) else none)) else none) = some ((r : Int) * (c : Int), p) ∧ p.2 = y.2 ∧ (∀ k i, k ≠ 216 → p.1 k i = y.1 k i) ∧ ∀ i, p.1 216 i = fy f l (bset (tl_ f r c) l) r c (y.1 219) i := by
  -- the tail
  have tail : ∀ (z : gx_S) (T : Int), z.2 = y.2 → (∀ k i, k ≠ 216 → z.1 k i = y.1 k i) → z.1 216 0 = r → z.1 216 1 = c → z.1 216 2 = T → (∀ i, 3 ≤ i → z.1 216 i = f i) → ∃ p : gx_S, gm_145_112 l z = some ((r : Int) * (c : Int), p) ∧ p.2 = y.2 ∧ (∀ k i, k ≠ 216 → p.1 k i = y.1 k i) ∧ ∀ i, p.1 216 i = fy f l (bset T l) r c (y.1 219) i := fun z T z2 zo z0 z1 zT z3 => by
    obtain ⟨w, hw⟩ : ∃ w, w = gw1 z 216 2 (bset (z.1 216 2) l) := ⟨_, rfl⟩
    have w0 : w.1 216 0 = r := by rw [hw, gw1_1, if_neg (by omega)]; exact z0
    have w1 : w.1 216 1 = c := by rw [hw, gw1_1, if_neg (by omega)]; exact z1
    obtain ⟨p, p1, p2, p3, p4⟩ := sl_145_126 hl 100000 0 w (by omega) (by omega)
    rw [w0, w1] at p1
    refine ⟨p, ?_, by rw [p2, hw, gw1_2, z2], fun k i q => by rw [p3 k i q, hw, gw1_1, if_neg (by omega), zo k i q], fun i => ?_⟩
    · have p1 : gm_145_126 100000 l 0 w = _ := p1
      rw [← p1, hw]
      rfl
    · rw [p4]
      by_cases q : 52 + 96 * l ≤ i ∧ i < 148 + 96 * l
      · rw [if_pos (by omega), hw, gw1_1, if_neg (by omega), zo 219 _ (by decide)]
        unfold fy
        rw [if_neg (by omega), if_neg (by omega), if_neg (by omega), if_pos q]
      · rw [if_neg (by omega), hw, gw1_1]
        unfold fy
        by_cases q0 : i = 0
        · rw [if_neg (by omega), if_pos q0, q0, z0]
        · rw [if_neg q0]
          by_cases q1 : i = 1
          · rw [if_neg (by omega), if_pos q1, q1, z1]
          · rw [if_neg q1]
            by_cases q2 : i = 2
            · rw [if_pos ⟨rfl, q2⟩, if_pos q2, zT]
            · rw [if_neg (by omega), if_neg q2, if_neg q, z3 i (by omega)]
  have t1 : f 0 = r → f 1 = c → ∃ p : gx_S, gm_145_112 l y = some ((r : Int) * (c : Int), p) ∧ p.2 = y.2 ∧ (∀ k i, k ≠ 216 → p.1 k i = y.1 k i) ∧ ∀ i, p.1 216 i = fy f l (bset (tl_ f r c) l) r c (y.1 219) i := fun a b => by
    have et : tl_ f r c = f 2 := if_pos ⟨a, b⟩
    rw [et]
    exact tail y (f 2) rfl (fun _ _ _ => rfl) (by rw [e]; exact a) (by rw [e]; exact b) (by rw [e]) (fun i _ => by rw [e])
  have t2 : ¬ (f 0 = r ∧ f 1 = c) → ∃ p : gx_S, gm_145_85 l y = some ((r : Int) * (c : Int), p) ∧ p.2 = y.2 ∧ (∀ k i, k ≠ 216 → p.1 k i = y.1 k i) ∧ ∀ i, p.1 216 i = fy f l (bset (tl_ f r c) l) r c (y.1 219) i := fun a => by
    have et : tl_ f r c = 0 := if_neg a
    obtain ⟨z1, hz1⟩ : ∃ z, z = gw1 y 216 2 0 := ⟨_, rfl⟩
    obtain ⟨z2, hz2⟩ : ∃ z, z = gw1 z1 216 0 (z1.1 215 8) := ⟨_, rfl⟩
    obtain ⟨z3, hz3⟩ : ∃ z, z = gw1 z2 216 1 (z2.1 215 9) := ⟨_, rfl⟩
    have x8 : z1.1 215 8 = r := by rw [hz1, gw1_1, if_neg (by omega)]; exact e8
    have x9 : z2.1 215 9 = c := by rw [hz2, gw1_1, if_neg (by omega), hz1, gw1_1, if_neg (by omega)]; exact e9
    rw [et]
    unfold gm_145_85
    rw [← hz1, ← hz2, ← hz3]
    refine tail z3 0 ?_ (fun k i q => ?_) ?_ ?_ ?_ fun i hi => ?_
    · rw [hz3, gw1_2, hz2, gw1_2, hz1, gw1_2]
    · rw [hz3, gw1_1, if_neg (by omega), hz2, gw1_1, if_neg (by omega), hz1, gw1_1, if_neg (by omega)]
    · rw [hz3, gw1_1, if_neg (by omega), hz2, gw1_1, if_pos ⟨rfl, rfl⟩, x8]
    · rw [hz3, gw1_1, if_pos ⟨rfl, rfl⟩, x9]
    · rw [hz3, gw1_1, if_neg (by omega), hz2, gw1_1, if_neg (by omega), hz1, gw1_1, if_pos ⟨rfl, rfl⟩]
    · rw [hz3, gw1_1, if_neg (by omega), hz2, gw1_1, if_neg (by omega), hz1, gw1_1, if_neg (by omega), e]
  rw [if_pos (by omega), e8, e9, e]
  by_cases z : l = 0
  · rw [if_neg (show ¬ ¬ (l : Int) = 0 by omega), if_pos (show -2147483648 ≤ (r : Int) ∧ (r : Int) ≤ 2147483647 by omega), if_pos (show -2147483648 ≤ f 0 ∧ f 0 ≤ 2147483647 by omega)]
    by_cases a : f 0 = r
    · rw [if_neg (show ¬ ¬ (r : Int) = f 0 from fun t => t a.symm), if_pos (show -2147483648 ≤ (c : Int) ∧ (c : Int) ≤ 2147483647 by omega), if_pos (show -2147483648 ≤ f 1 ∧ f 1 ≤ 2147483647 by omega)]
      by_cases b : f 1 = c
      · rw [if_pos b.symm]
        exact t1 a b
      · rw [if_neg (fun t => b t.symm)]
        exact t2 fun t => b t.2
    · rw [if_pos (show ¬ (r : Int) = f 0 from fun t => a t.symm)]
      exact t2 fun t => a t.1
  · rw [if_pos (show ¬ (l : Int) = 0 by omega)]
    exact t1 (hs z).1 (hs z).2
theorem inv_layer0 {s : gx_S} (h : INV s) {l : Nat} (hl : l < 3) (hO : ¬ l = 0 → s.1 216 2 / 2 ^ 0 % 2 = 1) : ∃ (r' : Int) (u w : gx_S), gm_87_26 l s = some (r', u) ∧ gm_145_26 l u = some (r', w) ∧ INV w ∧ u.1 216 = s.1 216 := by
  obtain ⟨f, R, C, n, pf, L, tb, c, r, v⟩ := id h
  have hL := v.2.1
  have cT := CV_TC c v
  have m := v.1
  have v0 : AV f R C 0 tb := ⟨v.1, by omega, fun i hi => absurd hi (by omega)⟩
  have hO : ¬ l = 0 → f 2 % 2 = 1 := fun q => by
    have := hO q
    rw [r.1] at this
    have this : f 2 / 1 % 2 = 1 := this
    rw [Int.ediv_one] at this
    exact this
  have r1 : ¬ l = 0 → 1 ≤ R ∧ 1 ≤ C := fun q => (m.2.2.2.2.2.2.2.2 (by have := hO q; omega)).2
  obtain ⟨u, u1, uC, u2⟩ := sp_34 (R := R) (C := C) hl cT (c.1.1.trans m.1.1) (c.1.2.1.trans m.1.2.1) m.1.2.2.1 m.1.2.2.2 fun q => (r1 q).1
  obtain ⟨Y, hY⟩ : ∃ Y, Y = lyw tb L l R C := ⟨_, rfl⟩
  rw [← hY] at u1 u2
  obtain ⟨y1, y2⟩ := lyt_r (tb := tb) (L := L) (l := l) (M := if l = 0 then 8 else R) (B := if l = 2 then 3 else 8) (fun x hx => by
    have := lvr_ l x
    exact ⟨by omega, this.2⟩) (L + 1) 0 0 0 (if l = 0 then 0 else 1) (if l = 0 then 12 else C) (fun _ _ => 0) (by omega) (by
    by_cases a : l = 0
    · rw [if_pos a, if_pos a, if_pos a]
      exact ⟨by omega, by omega, by omega, by omega, by omega⟩
    · rw [if_neg a, if_neg a, if_neg a]
      have := r1 a
      have := m.1
      exact ⟨by omega, by omega, by omega, by omega, by omega⟩) (fun i j q => by omega) (by omega) hL fun i hi => (v.2.2 i hi).1
  have eY : lyt tb L l (if l = 0 then 8 else R) (L + 1) 0 0 0 (if l = 0 then 0 else 1) (if l = 0 then 12 else C) (fun _ _ => 0) = Y := hY.symm
  rw [eY] at y1 y2
  have uo : ∀ k j, ¬ (58 ≤ k ∧ k ≤ 61) → u.1 k j = s.1 k j := fun k j q => uC.2 k j (by omega) (by omega)
  have c0 := CV_0 uo c
  have k0 := KC_0 uC.1 uo
  have r0 := RV_KC k0 r
  obtain ⟨b, hb⟩ : ∃ b, b = gw1 u 14 1 0 := ⟨_, rfl⟩
  rw [← hb] at c0 k0 r0
  -- the reference's reading
  have ref : ∀ t : gx_S, RV t f n pf L tb → ∃ w : gx_S, KF t w ∧ RV w f n pf 0 tb ∧ RW_ w Y ∧ gm_145_26 l t = if Y.1 = -1 then ((gm_132 w).bind fun q7 => if (-2147483648 ≤ (l : Int) ∧ (l : Int) ≤ 2147483647) then (if ¬ (l : Int) = 0 then (gm_145_112 l q7) else (if (-2147483648 ≤ (q7.1 215 8) ∧ (q7.1 215 8) ≤ 2147483647) then (if (-2147483648 ≤ (q7.1 216 0) ∧ (q7.1 216 0) ≤ 2147483647) then (if ¬ (q7.1 215 8) = (q7.1 216 0) then (gm_145_85 l q7) else (if (-2147483648 ≤ (q7.1 215 9) ∧ (q7.1 215 9) ≤ 2147483647) then (if (-2147483648 ≤ (q7.1 216 1) ∧ (q7.1 216 1) ≤ 2147483647) then (if (q7.1 215 9) = (q7.1 216 1) then (gm_145_112 l q7) else (gm_145_85 l q7)) else none) else none)) else none) else none)) else none) else some (-2 - Y.1, w) := fun t rt => by
    obtain ⟨y, z1, z2, z3, z4⟩ := sp_143 (R := R) (C := C) hl (RV_TF rt v) (by rw [rt.1]; exact m.1.1) (by rw [rt.1]; exact m.1.2.1) m.1.2.2.1 m.1.2.2.2 r1
    rw [← hY] at z3 z4
    obtain ⟨w, hw⟩ : ∃ w, w = gw1 y 215 4 0 := ⟨_, rfl⟩
    have wo : ∀ k j, ¬ (k = 215 ∧ j = 4) → w.1 k j = y.1 k j := fun k j q => by rw [hw, gw1_1, if_neg q]
    have w6 : w.1 215 6 = Y.1 := by rw [wo _ _ (by omega), z3]
    refine ⟨w, ⟨fun k j q => by rw [wo _ _ (by omega), z2.2 k j (by omega) (by omega) (by omega)], fun k j q => by rw [hw, gw1_2, z2.1]⟩, by rw [hw]; exact RV_0 (RV_CX z2 rt), ⟨w6, fun q => ?_⟩, ?_⟩
    · obtain ⟨q1, q2, q3⟩ := z4 q
      exact ⟨by rw [wo _ _ (by omega)]; exact q1, by rw [wo _ _ (by omega)]; exact q2, fun i j hi hj => by rw [wo _ _ (by omega)]; exact q3 i j hi hj⟩
    · unfold gm_145_26
      rw [z1, Option.bind_some, ← hw, sp_138 (by rw [w6]; unfold i32; omega), Option.bind_some, w6]
      by_cases z : Y.1 = -1
      · rw [if_pos (fun q => (gbD t).mp q z), if_pos z]
      · rw [if_neg (fun q => q ((gbD t).mpr z)), if_neg z]
  unfold gm_87_26
  rw [u1, Option.bind_some]
  show ∃ (r' : Int) (u' w : gx_S), (if (-2147483648 ≤ Y.1 ∧ Y.1 ≤ 2147483647) then (if Y.1 = -1 then ((gm_119 (gw1 u 14 1 0)).bind fun q6 => (gm_55 1 l q6).bind fun q8 => (gm_58 1 q8).bind fun q10 => some (q10.1, q10.2)) else some (((-2) - Y.1), (gw1 u 14 1 0))) else none) = some (r', u') ∧ _
  rw [if_pos (by omega), ← hb]
  by_cases z : Y.1 = -1
  · obtain ⟨x1, x2, x3, x4, x5⟩ := y2 z
    obtain ⟨g1, g2, g3⟩ := u2 z
    have e0 : b.1 216 = f := r0.1
    obtain ⟨d, d1, d2, d3, d4, d5, d6⟩ := act_pre3 c0 v0 e0
    have rr : 1 ≤ Y.2.1 ∧ Y.2.1 ≤ 8 := by
      by_cases a : l = 0
      · rw [if_pos a] at x1; omega
      · rw [if_neg a] at x1
        have := m.1
        omega
    have hsz : ¬ l = 0 → Y.2.1 = R ∧ Y.2.2.1 = C := fun q => by
      have a := x3 q
      have b := x4 (if_neg q)
      rw [if_neg q] at a b
      exact ⟨a, b⟩
    have m1 := m.1
    have dY1 : d.1 58 1 = Y.2.1 := by rw [d5 _ _ (by omega) (by omega), hb, gw1_1, if_neg (by omega)]; exact g1
    have dY2 : d.1 58 2 = Y.2.2.1 := by rw [d5 _ _ (by omega) (by omega), hb, gw1_1, if_neg (by omega)]; exact g2
    obtain ⟨u', p1, p2, p3, p4, p5, p6, p7⟩ := sp_55 (f := f) hl rr.2 x2.2 dY1 dY2 d3.1 d3.2.1 d3.2.2.1 (by omega) (by omega)
    rw [if_pos z, d1, Option.bind_some, p1, Option.bind_some]
    have k6 : ∀ k j, 6 ≤ k → u'.1 k j = d.1 k j := fun k j q => p6 k j (by omega) (by omega)
    have kc : KC b u' := ⟨fun k j q => by rw [k6 k j (by omega), d5 k j (by omega) (by omega)], fun k j _ => by rw [p2, d2]⟩
    obtain ⟨w, w1, w2, w3, w4⟩ := ref u' (RV_KC kc r0)
    obtain ⟨y, q1, q2, q3, q4⟩ := d6 u' w k6 p2 w1 w2
    obtain ⟨t1, t2, t3⟩ := w3.2 z
    have y219 : ∀ i j, i < Y.2.1 → j < Y.2.2.1 → y.1 219 (12 * i + j) = Y.2.2.2 i j := fun i j hi hj => by rw [q3 219 _ (by decide) (by omega)]; exact t3 i j hi hj
    obtain ⟨o, o1, o2, o3, o4⟩ := sp_145t (y := y) (f := f) hl rr.2 x2.2 (by rw [q3 215 8 (by decide) (by omega)]; exact t1) (by rw [q3 215 9 (by decide) (by omega)]; exact t2) q2 (by omega) (by omega) fun q => by
      have := hsz q
      omega
    obtain ⟨MM, MB⟩ := fy_M (h := y.1 219) m hl rr x2 (fun q => ⟨hO q, hsz q⟩) fun i j hi hj => by
      rw [y219 i j hi hj]
      exact x5 i j hi hj
    refine ⟨(Y.2.1 : Int) * (Y.2.2.1 : Int), u', o, ?_, ?_, q4 o (fy f l (bset (tl_ f Y.2.1 Y.2.2.1) l) Y.2.1 Y.2.2.1 (y.1 219)) Y.2.1 Y.2.2.1 o3 o2 MM ?_ fun i hi => o4 i, ?_⟩
    · unfold gm_58
      rw [if_pos (by decide +kernel), Option.bind_some, p3, p4]
    · rw [w4, if_pos z, q1, Option.bind_some, o1]
    · obtain ⟨n1, n2, n3, n4, n5, n6, n7, n8, n9⟩ := d3
      refine ⟨p3, p4, p5, ?_, ?_, fun i hi => ?_, fun i hi => ?_, fun i hi => ?_, fun l' hl' bb k hk => ?_⟩
      · rw [p6 _ _ (by omega) (by omega), fy_o (by omega) (by omega)]; exact n4
      · rw [p6 _ _ (by omega) (by omega), fy_o (by omega) (by omega)]; exact n5
      · rw [p6 _ _ (by omega) (by omega), fy_o (by omega) (by omega)]; exact n6 i hi
      · rw [p6 _ _ (by omega) (by omega), fy_o (by omega) (by omega)]; exact n7 i hi
      · rw [p6 _ _ (by omega) (by omega), fy_o (by omega) (by omega)]; exact n8 i hi
      · obtain ⟨k1, k2, k3, k4, k5⟩ := kD x2.2 rr.2 hk
        rw [show (1 : Nat) + 1 = 2 from rfl, p7]
        by_cases a : l' = l
        · rw [a, if_pos (by omega), show 96 * l + k - 96 * l = k by omega, show 52 + 96 * l + 12 * (k / Y.2.2.1) + k % Y.2.2.1 = 52 + 96 * l + (12 * (k / Y.2.2.1) + k % Y.2.2.1) by omega, fy_l k4, y219 _ _ k1 k2, d5 _ _ (by omega) (by omega), hb, gw1_1, if_neg (by omega)]
          have := g3 _ _ k1 k2
          rw [k3] at this
          exact this
        · rcases MB l' hl' bb with e | ⟨e1, e2, e3⟩
          · exact absurd e a
          · rw [if_neg (by omega), fy_o (by omega) (by omega)]
            have := n9 l' hl' e3 k (by rw [← e1, ← e2]; exact hk)
            rw [← e2] at this
            exact this
    · funext i
      rw [k6 216 i (by omega), d4, r.1]
  · rw [if_neg z]
    obtain ⟨w, w1, w2, w3, w4⟩ := ref b r0
    exact ⟨_, b, w, rfl, w4.trans (if_neg z), ⟨f, R, C, n, pf, 0, tb, CV_KF w1 c0, w2, v0⟩, by rw [r.1]; exact r0.1⟩
theorem inv_layer {s : gx_S} (h : INV s) {x : Int} (hx : i32 x) : two s (gm_87 x) (gm_145 x) := by
  obtain ⟨f, R, C, n, pf, L, tb, c, r, v⟩ := id h
  have hx' := hx
  unfold i32 at hx'
  have nope : (gm_87 x s = some (-1, s)) → gm_145 x s = some (-1, s) → two s (gm_87 x) (gm_145 x) := fun a b => ⟨-1, s, s, a, b, h⟩
  have c145 : ∀ y : gx_S, gm_145 x y = if 0 ≤ x ∧ x ≤ 2 then (if x = 0 then gm_145_26 x y else ((gm_144 0 y).bind fun q56 => if ¬ (gb q56.1) = 0 then gm_145_26 x q56.2 else some (-1, q56.2))) else some (-1, y) := fun y => by
    unfold gm_145
    rw [if_pos hx', in_ y hx (by omega) (by omega), Option.bind_some]
    by_cases a : 0 ≤ x ∧ x ≤ 2
    · rw [if_neg (fun q => (gbD y).mp q a), if_pos a]
    · rw [if_pos ((gbD y).mpr a), if_neg a]
  by_cases a : 0 ≤ x ∧ x ≤ 2
  · obtain ⟨l, rfl⟩ : ∃ l : Nat, x = l := ⟨x.toNat, by omega⟩
    by_cases b : l = 0
    · have g1 : gm_87 l = gm_87_26 l := by
        funext y
        unfold gm_87
        rw [if_pos hx', if_neg (by omega), if_neg (by omega), if_pos (by omega)]
      have g2 : gm_145 l = gm_145_26 l := by
        funext y
        rw [c145 y, if_pos a, if_pos (by omega)]
      rw [g1, g2]
      obtain ⟨r', u, w, t1, t2, t3, _⟩ := inv_layer0 h (l := l) (by omega) fun q => absurd b q
      exact ⟨r', u, w, t1, t2, t3⟩
    · have e6 : s.1 1 6 = f 2 := c.1.2.2.1
      have c56 := sp_56 (s := s) (a := 1) (by decide +kernel) 0 (by omega) (by rw [e6]; exact v.1.2.1)
      rw [e6] at c56
      have c56 : gm_56 1 0 s = some (decide (f 2 / 2 ^ 0 % 2 = 1), s) := c56
      have g1 : gm_87 l s = if f 2 / 2 ^ 0 % 2 = 1 then gm_87_26 l s else some (-1, s) := by
        unfold gm_87
        rw [if_pos hx', if_neg (by omega), if_neg (by omega), if_neg (by omega), c56, Option.bind_some]
        by_cases d : f 2 / 2 ^ 0 % 2 = 1
        · rw [if_pos (fun q => (gbD s).mp q d), if_pos d]
        · rw [if_neg (fun q => q ((gbD s).mpr d)), if_neg d]
      have g2 : ∀ y : gx_S, y.1 216 = f → gm_145 l y = if f 2 / 2 ^ 0 % 2 = 1 then gm_145_26 l y else some (-1, y) := fun y ey => by
        have q4 := sp_144 (s := y) 0 (by omega) (by rw [ey]; exact v.1.2.1)
        rw [ey] at q4
        have q4 : gm_144 0 y = some (decide (f 2 / 2 ^ 0 % 2 = 1), y) := q4
        rw [c145 y, if_pos a, if_neg (by omega), q4, Option.bind_some]
        by_cases d : f 2 / 2 ^ 0 % 2 = 1
        · rw [if_pos (fun q => (gbD s).mp q d), if_pos d]
        · rw [if_neg (fun q => q ((gbD s).mpr d)), if_neg d]
      by_cases d : f 2 / 2 ^ 0 % 2 = 1
      · obtain ⟨r', u, w, t1, t2, t3, t4⟩ := inv_layer0 h (l := l) (by omega) fun _ => by rw [r.1]; exact d
        exact ⟨r', u, w, by rw [g1, if_pos d, t1], by rw [g2 u (t4.trans r.1), if_pos d, t2], t3⟩
      · exact nope (by rw [g1, if_neg d]) (by rw [g2 s r.1, if_neg d])
  · refine nope ?_ (by rw [c145 s, if_neg a])
    unfold gm_87
    rw [if_pos hx']
    by_cases b : x < 0
    · rw [if_pos b]
    · rw [if_neg b, if_pos (by omega)]
end
