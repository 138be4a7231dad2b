/-! TEXTS of counts: the class's reading -/
theorem i32r (x : Int32) : -2147483648 ≤ x.toInt ∧ x.toInt ≤ 2147483647 := by
  have a := Int32.le_toInt x
  have b := Int32.toInt_lt x
  omega
def sl (x : Int) : Int := if x = 63 then 8 else if 97 ≤ x ∧ x ≤ 104 then x - 97 else -1
theorem sl_r (x : Int) : -1 ≤ sl x ∧ sl x ≤ 8 := by
  unfold sl
  split
  · omega
  · split <;> omega
def bq (T x : Int) : Int := ((Int32.ofInt (((Int32.ofInt T >>> (Int32.ofInt x &&& 31))).toInt) &&& Int32.ofInt 1)).toInt
def bset (T x : Int) : Int := ((Int32.ofInt T ||| Int32.ofInt (((Int32.ofInt 1 <<< (Int32.ofInt x &&& 31))).toInt))).toInt
def uph (h : Nat → Int) (x v : Int) (j : Nat) : Int := if j = x.toNat then v else h j
/-- counts, from place p on: the fault (none: -1) and who is told -/
def cts (tb : Nat → Int) (L : Nat) : Nat → Int → Nat → (Nat → Int) → Int × (Nat → Int)
  | 0, _, _, h => (-1, h)
  | k + 1, T, p, h =>
    if sl (sgn tb L p) = -1 then (8 * p + 1, h) else
    if bq T (sl (sgn tb L p)) = 1 then (8 * p + 3, h) else
    if ¬ sgn tb L (p + 1) = 61 then (8 * ((p + 1 : Nat) : Int) + 1, h) else
    if ¬ (48 ≤ sgn tb L (p + 2) ∧ sgn tb L (p + 2) ≤ 57) then (8 * ((p + 2 : Nat) : Int) + 1, h) else
    if 9999 < (nm tb L 200 0 (p + 2)).1 then (8 * ((p + 2 : Nat) : Int) + 2, h) else
    if sgn tb L (nm tb L 200 0 (p + 2)).2 = 44 then cts tb L k (bset T (sl (sgn tb L p))) ((nm tb L 200 0 (p + 2)).2 + 1) (uph h (sl (sgn tb L p)) (nm tb L 200 0 (p + 2)).1) else
    if sgn tb L (nm tb L 200 0 (p + 2)).2 = -1 then (-1, uph h (sl (sgn tb L p)) (nm tb L 200 0 (p + 2)).1) else
    (8 * ((nm tb L 200 0 (p + 2)).2 : Int) + 1, h)
theorem sp_7 (s : gx_S) {x : Int} (h : i32 x) : gm_7 x s = some (sl x, s) := by
  unfold i32 at h
  unfold gm_7 sl
  rw [if_pos h]
  by_cases a : x = 63
  · rw [if_neg (fun t => t a), if_pos a]
  · rw [if_pos a, if_neg a]
    by_cases b : x < 97
    · rw [if_pos b, if_neg (by omega)]
    · rw [if_neg b]
      by_cases c : 104 < x
      · rw [if_pos c, if_neg (by omega)]
      · rw [if_neg c, if_pos (by omega)]
/-- the class's reader's cells alone change -/
def CT (s u : gx_S) : Prop := u.2 = s.2 ∧ ∀ k j, k ≠ 60 → k ≠ 61 → u.1 k j = s.1 k j
theorem CT_tr {s t u : gx_S} (a : CT s t) (b : CT t u) : CT s u := ⟨b.1.trans a.1, fun k j h1 h2 => (b.2 k j h1 h2).trans (a.2 k j h1 h2)⟩
theorem CT_TC {s u : gx_S} {L : Nat} {tb : Nat → Int} (a : CT s u) (T : TC s L tb) : TC u L tb := TC_o (a.2 _ _ (by omega) (by omega)) (fun i => a.2 _ _ (by omega) (by omega)) T
theorem sp_5 {L p : Nat} {tb : Nat → Int} {T : Int} {s : gx_S} (hT : TC s L tb) (hp : p ≤ L) (e2 : s.1 60 2 = p) (e1 : s.1 60 1 = T) : (sl (sgn tb L p) = -1 ∧ ∃ u, gm_5 s = some (1, u) ∧ u.1 60 2 = p ∧ CT s u) ∨ (¬ sl (sgn tb L p) = -1 ∧ bq T (sl (sgn tb L p)) = 1 ∧ ∃ u, gm_5 s = some (3, u) ∧ u.1 60 2 = p ∧ CT s u) ∨ (¬ sl (sgn tb L p) = -1 ∧ ¬ bq T (sl (sgn tb L p)) = 1 ∧ ¬ sgn tb L (p + 1) = 61 ∧ ∃ u, gm_5 s = some (1, u) ∧ u.1 60 2 = ((p + 1 : Nat) : Int) ∧ CT s u) ∨ (¬ sl (sgn tb L p) = -1 ∧ ¬ bq T (sl (sgn tb L p)) = 1 ∧ sgn tb L (p + 1) = 61 ∧ ¬ (48 ≤ sgn tb L (p + 2) ∧ sgn tb L (p + 2) ≤ 57) ∧ ∃ u, gm_5 s = some (1, u) ∧ u.1 60 2 = ((p + 2 : Nat) : Int) ∧ CT s u) ∨ (¬ sl (sgn tb L p) = -1 ∧ ¬ bq T (sl (sgn tb L p)) = 1 ∧ sgn tb L (p + 1) = 61 ∧ (48 ≤ sgn tb L (p + 2) ∧ sgn tb L (p + 2) ≤ 57) ∧ 9999 < (nm tb L 200 0 (p + 2)).1 ∧ ∃ u, gm_5 s = some (2, u) ∧ u.1 60 2 = ((p + 2 : Nat) : Int) ∧ CT s u) ∨ (¬ sl (sgn tb L p) = -1 ∧ ¬ bq T (sl (sgn tb L p)) = 1 ∧ sgn tb L (p + 1) = 61 ∧ (48 ≤ sgn tb L (p + 2) ∧ sgn tb L (p + 2) ≤ 57) ∧ ¬ 9999 < (nm tb L 200 0 (p + 2)).1 ∧ ∃ u, gm_5 s = some (0, u) ∧ u.1 60 2 = ((nm tb L 200 0 (p + 2)).2 : Int) ∧ u.1 60 1 = bset T (sl (sgn tb L p)) ∧ CT s u ∧ ∀ j, u.1 61 j = uph (s.1 61) (sl (sgn tb L p)) (nm tb L 200 0 (p + 2)).1 j) := by
  have hL := hT.1
  have sr := sgn_r hT
  have s0 := sr p
  have r0 := sl_r (sgn tb L p)
  have g0 : gm_83 (s.1 60 2) s = some (sgn tb L p, s) := by rw [e2]; exact sp_83 hT (by omega)
  have g7 := sp_7 s (x := sgn tb L p) (by unfold i32; omega)
  have br := i32r ((Int32.ofInt (((Int32.ofInt T >>> (Int32.ofInt (sl (sgn tb L p)) &&& 31))).toInt) &&& Int32.ofInt 1))
  have br : -2147483648 ≤ bq T (sl (sgn tb L p)) ∧ bq T (sl (sgn tb L p)) ≤ 2147483647 := br
  by_cases a : sl (sgn tb L p) = -1
  · refine .inl ⟨a, s, ?_, e2, rfl, fun _ _ _ _ => rfl⟩
    unfold gm_5
    rw [g0, Option.bind_some]
    show ((gm_7 (sgn tb L p) s).bind _) = _
    rw [g7, Option.bind_some, if_pos (by omega), if_neg (fun t => t a)]
  · by_cases b : bq T (sl (sgn tb L p)) = 1
    · refine .inr (.inl ⟨a, b, s, ?_, e2, rfl, fun _ _ _ _ => rfl⟩)
      unfold gm_5
      rw [g0, Option.bind_some]
      show ((gm_7 (sgn tb L p) s).bind _) = _
      rw [g7, Option.bind_some, if_pos (by omega), if_pos a]
      show (if (-2147483648 ≤ ((Int32.ofInt (((Int32.ofInt (s.1 60 1) >>> (Int32.ofInt (sl (sgn tb L p)) &&& 31))).toInt) &&& Int32.ofInt 1)).toInt ∧ ((Int32.ofInt (((Int32.ofInt (s.1 60 1) >>> (Int32.ofInt (sl (sgn tb L p)) &&& 31))).toInt) &&& Int32.ofInt 1)).toInt ≤ 2147483647) then (if ¬ ((Int32.ofInt (((Int32.ofInt (s.1 60 1) >>> (Int32.ofInt (sl (sgn tb L p)) &&& 31))).toInt) &&& Int32.ofInt 1)).toInt = 1 then _ else some (3, s)) else _) = _
      rw [e1]
      show (if (-2147483648 ≤ bq T (sl (sgn tb L p)) ∧ bq T (sl (sgn tb L p)) ≤ 2147483647) then (if ¬ bq T (sl (sgn tb L p)) = 1 then _ else some (3, s)) else _) = _
      rw [if_pos br, if_neg (fun t => t b)]
    · -- the slot is told, the place goes on
      obtain ⟨t, ht⟩ : ∃ t, t = gw1 (gw1 s 60 1 (bset T (sl (sgn tb L p)))) 60 2 ((p + 1 : Nat) : Int) := ⟨_, rfl⟩
      have to : ∀ k j, ¬ (k = 60 ∧ (j = 1 ∨ j = 2)) → t.1 k j = s.1 k j := fun k j q => by rw [ht, gw1_1, if_neg (by omega), gw1_1, if_neg (by omega)]
      have t1 : t.1 60 1 = bset T (sl (sgn tb L p)) := by rw [ht, gw1_1, if_neg (by omega), gw1_1, if_pos ⟨rfl, rfl⟩]
      have t2 : t.1 60 2 = ((p + 1 : Nat) : Int) := by rw [ht, gw1_1, if_pos ⟨rfl, rfl⟩]
      have tC : CT s t := ⟨by rw [ht]; rfl, fun k j h1 h2 => to k j (by omega)⟩
      have tT := CT_TC tC hT
      obtain ⟨w, hw⟩ : ∃ w, w = gw1 t 60 2 ((p + 2 : Nat) : Int) := ⟨_, rfl⟩
      have wo : ∀ k j, ¬ (k = 60 ∧ j = 2) → w.1 k j = t.1 k j := fun k j q => by rw [hw, gw1_1, if_neg q]
      have w2 : w.1 60 2 = ((p + 2 : Nat) : Int) := by rw [hw, gw1_1, if_pos ⟨rfl, rfl⟩]
      have wC : CT s w := CT_tr tC ⟨by rw [hw]; rfl, fun k j h1 h2 => wo k j (by omega)⟩
      have wT := CT_TC wC hT
      have s1 := sr (p + 1)
      have s2 := sr (p + 2)
      have sl0 : 0 ≤ sl (sgn tb L p) ∧ sl (sgn tb L p) < 9 := by omega
      have main : gm_5 s = (if sgn tb L (p + 1) = 61 then (if 48 ≤ sgn tb L (p + 2) ∧ sgn tb L (p + 2) ≤ 57 then ((gm_6 w).bind fun q45 => if (-2147483648 ≤ ((gw1 q45.2 61 (sl (sgn tb L p)).toNat q45.1).1 61 (sl (sgn tb L p)).toNat) ∧ ((gw1 q45.2 61 (sl (sgn tb L p)).toNat q45.1).1 61 (sl (sgn tb L p)).toNat) ≤ 2147483647) then (if ((gw1 q45.2 61 (sl (sgn tb L p)).toNat q45.1).1 61 (sl (sgn tb L p)).toNat) ≤ 9999 then some (0, gw1 q45.2 61 (sl (sgn tb L p)).toNat q45.1) else some (2, gw1 (gw1 q45.2 61 (sl (sgn tb L p)).toNat q45.1) 60 2 (w.1 60 2))) else none) else some (1, w)) else some (1, t)) := by
        unfold gm_5
        rw [g0, Option.bind_some]
        show ((gm_7 (sgn tb L p) s).bind _) = _
        rw [g7, Option.bind_some, if_pos (by omega), if_pos a]
        have ee : ((Int32.ofInt (((Int32.ofInt (s.1 60 1) >>> (Int32.ofInt (sl (sgn tb L p), s).1 &&& 31))).toInt) &&& Int32.ofInt 1)).toInt = bq T (sl (sgn tb L p)) := by rw [e1]; rfl
        have et : gw1 (gw1 (sl (sgn tb L p), s).2 60 1 (((Int32.ofInt ((sl (sgn tb L p), s).2.1 60 1) ||| Int32.ofInt (((Int32.ofInt 1 <<< (Int32.ofInt (sl (sgn tb L p), s).1 &&& 31))).toInt))).toInt)) 60 2 (((gw1 (sl (sgn tb L p), s).2 60 1 (((Int32.ofInt ((sl (sgn tb L p), s).2.1 60 1) ||| Int32.ofInt (((Int32.ofInt 1 <<< (Int32.ofInt (sl (sgn tb L p), s).1 &&& 31))).toInt))).toInt)).1 60 2) + 1) = t := by
          show gw1 (gw1 s 60 1 (((Int32.ofInt (s.1 60 1) ||| Int32.ofInt (((Int32.ofInt 1 <<< (Int32.ofInt (sl (sgn tb L p)) &&& 31))).toInt))).toInt)) 60 2 (((gw1 s 60 1 (((Int32.ofInt (s.1 60 1) ||| Int32.ofInt (((Int32.ofInt 1 <<< (Int32.ofInt (sl (sgn tb L p)) &&& 31))).toInt))).toInt)).1 60 2) + 1) = t
          rw [gw1_1, if_neg (by omega), e2, e1, ht]
          rfl
        rw [ee, if_pos br, if_pos b, et, t2, sp_83 tT (by omega), Option.bind_some]
        show (if (-2147483648 ≤ sgn tb L (p + 1) ∧ sgn tb L (p + 1) ≤ 2147483647) then (if sgn tb L (p + 1) = 61 then ((gm_83 ((gw1 t 60 2 ((t.1 60 2) + 1)).1 60 2) (gw1 t 60 2 ((t.1 60 2) + 1))).bind _) else some (1, t)) else none) = _
        rw [if_pos (by omega)]
        by_cases c : sgn tb L (p + 1) = 61
        · have ew : gw1 t 60 2 ((t.1 60 2) + 1) = w := by
            rw [t2, hw]
            rfl
          rw [if_pos c, if_pos c, ew, w2, sp_83 wT (by omega), Option.bind_some]
          show ((gm_8 (sgn tb L (p + 2)) w).bind _) = _
          rw [sp_8 w (by unfold i32; omega), Option.bind_some]
          by_cases d : 48 ≤ sgn tb L (p + 2) ∧ sgn tb L (p + 2) ≤ 57
          · rw [if_pos (fun q => (gbD w).mp q d), if_pos d]
            congr 1
            funext q45
            rw [if_pos (show 0 ≤ (sl (sgn tb L p), s).1 ∧ (sl (sgn tb L p), s).1 < 9 from sl0)]
            simp only [w2]
          · rw [if_neg (fun q => q ((gbD w).mpr d)), if_neg d]
        · rw [if_neg c, if_neg c]
      by_cases c : sgn tb L (p + 1) = 61
      · by_cases d : 48 ≤ sgn tb L (p + 2) ∧ sgn tb L (p + 2) ≤ 57
        · have hp2 : p + 2 ≤ L := Nat.le_of_not_lt fun h => by
            have : sgn tb L (p + 2) = -1 := if_neg (by omega)
            omega
          obtain ⟨⟨n1, n2⟩, n3, n4, n5⟩ := nmr (fun q => (sr q).1) 200 0 (p + 2) (by omega) (by omega) hp2
          obtain ⟨u, u1, u2, u3, u4⟩ := sl_6 (tb := tb) 200 (p + 2) 100000 0 w (by omega) hp2 (by omega) (by omega) (by omega) wT w2
          have u1 : gm_6 w = some ((nm tb L 200 0 (p + 2)).1, u) := u1
          have x1 : (gw1 u 61 (sl (sgn tb L p)).toNat (nm tb L 200 0 (p + 2)).1).1 61 (sl (sgn tb L p)).toNat = (nm tb L 200 0 (p + 2)).1 := by rw [gw1_1, if_pos ⟨rfl, rfl⟩]
          have uC : CT s u := CT_tr wC ⟨u3, fun k j h1 h2 => u4 k j (by omega)⟩
          have main2 : gm_5 s = if (nm tb L 200 0 (p + 2)).1 ≤ 9999 then some (0, gw1 u 61 (sl (sgn tb L p)).toNat (nm tb L 200 0 (p + 2)).1) else some (2, gw1 (gw1 u 61 (sl (sgn tb L p)).toNat (nm tb L 200 0 (p + 2)).1) 60 2 (w.1 60 2)) := by
            rw [main, if_pos c, if_pos d, u1, Option.bind_some]
            show (if (-2147483648 ≤ ((gw1 u 61 (sl (sgn tb L p)).toNat (nm tb L 200 0 (p + 2)).1).1 61 (sl (sgn tb L p)).toNat) ∧ ((gw1 u 61 (sl (sgn tb L p)).toNat (nm tb L 200 0 (p + 2)).1).1 61 (sl (sgn tb L p)).toNat) ≤ 2147483647) then (if ((gw1 u 61 (sl (sgn tb L p)).toNat (nm tb L 200 0 (p + 2)).1).1 61 (sl (sgn tb L p)).toNat) ≤ 9999 then _ else _) else none) = _
            rw [x1, if_pos (by omega)]
          by_cases e : 9999 < (nm tb L 200 0 (p + 2)).1
          · refine .inr (.inr (.inr (.inr (.inl ⟨a, b, c, d, e, _, main2.trans (if_neg (by omega)), ?_, ?_, fun k j h1 h2 => ?_⟩))))
            · rw [gw1_1, if_pos ⟨rfl, rfl⟩, w2]
            · exact uC.1
            · rw [gw1_1, if_neg (by omega), gw1_1, if_neg (by omega)]
              exact uC.2 k j h1 h2
          · refine .inr (.inr (.inr (.inr (.inr ⟨a, b, c, d, e, _, main2.trans (if_pos (by omega)), ?_, ?_, ⟨uC.1, fun k j h1 h2 => ?_⟩, fun j => ?_⟩))))
            · rw [gw1_1, if_neg (by omega)]
              exact u2
            · rw [gw1_1, if_neg (by omega), u4 _ _ (by omega), wo _ _ (by omega), t1]
            · rw [gw1_1, if_neg (by omega)]
              exact uC.2 k j h1 h2
            · unfold uph
              rw [gw1_1]
              by_cases z : j = (sl (sgn tb L p)).toNat
              · rw [if_pos ⟨rfl, z⟩, if_pos z]
              · rw [if_neg (fun q => z q.2), if_neg z, u4 _ _ (by omega), wo _ _ (by omega), to _ _ (by omega)]
        · exact .inr (.inr (.inr (.inl ⟨a, b, c, d, w, by rw [main, if_pos c, if_neg d], w2, wC⟩)))
      · exact .inr (.inr (.inl ⟨a, b, c, t, by rw [main, if_neg c], t2, tC⟩))
