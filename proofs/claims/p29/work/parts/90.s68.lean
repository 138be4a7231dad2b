/-! CALLS: settle, weigh -/
/-- an act on both sides: what it leaves -/
theorem act_pre {s : gx_S} {f : Nat → Int} {R C n L : Nat} {pf : Nat → Nat → Int} {tb : Nat → Int} (c : CV s f R C n pf L tb) (r : RV s f n pf L tb) (v : AV f R C L tb) : ∃ u : gx_S, gm_119 s = some u ∧ MR u 1 f R C ∧ u.1 216 = f ∧ ∀ u' : gx_S, (∀ k j, 6 ≤ k → u'.1 k j = u.1 k j) → u'.2 = u.2 → u'.1 216 = f ∧ ∃ w : gx_S, gm_132 u' = some w ∧ w.1 216 = f ∧ ∀ (w' : gx_S) (fn : Nat → Int) (R' C' : Nat), (∀ k j, k ≠ 216 → w'.1 k j = w.1 k j) → w'.2 = w.2 → MP fn R' C' → MR u' 1 fn R' C' → (∀ i, i < 340 → w'.1 216 i = fn i) → INV w' := by
  obtain ⟨u, u1, u2, u3, u4⟩ := sp_119 v.1 c
  have eu : u.1 216 = f := by
    funext q
    rw [u4 216 q (by omega) (by omega), r.1]
  refine ⟨u, u1, u2.1, eu, fun u' h1 h2 => ?_⟩
  have eu' : u'.1 216 = f := by
    funext q
    rw [h1 216 q (by omega), eu]
  have kc : KC s u' := ⟨fun k j q => by rw [h1 k j (by omega), u4 k j (by omega) (by omega)], fun k j _ => by rw [h2, u3]⟩
  have rv := RV_KC kc r
  obtain ⟨w, w1, w2, w3, w4⟩ := sp_132 c.2.2.1.1 rv.2.1
  rw [rv.1] at w4
  have ew : w.1 216 = f := by
    funext q
    rw [w3 216 q (by decide) (by omega), eu']
  refine ⟨eu', w, w1, ew, fun w' fn R' C' k1 k2 hM hR e => ?_⟩
  obtain ⟨a1, a2, a3, a4, a5⟩ := u2
  have ca : CW u' fn R' C' (nn n) (pn n pf f) L tb := ⟨hR, fun g hg => ⟨by rw [h1 _ _ (by omega)]; exact (a2 g hg).1, by rw [h1 _ _ (by omega)]; exact (a2 g hg).2⟩, HC_o (fun k j q1 q2 => h1 k j (by omega)) a3, by rw [h1 _ _ (by omega)]; exact a4, fun q hq => by rw [h1 _ _ (by omega)]; exact a5 q hq⟩
  have kf : KF u' w' := ⟨fun k j q => by rw [k1 k j (by omega)]; exact w3 k j (by omega) (by omega), fun k j _ => by rw [k2, w2]⟩
  obtain ⟨r1, r2, r3, r4, r5⟩ := rv
  refine ⟨w'.1 216, R', C', nn n, pn n pf f, L, tb, CW_CV hM e (CW_KF kf ca), ⟨rfl, ⟨by rw [k1 _ _ (by omega)]; exact w4.1, fun q hq p hp => by rw [k1 _ _ (by omega)]; exact w4.2 q hq p hp⟩, by rw [k1 _ _ (by omega), w3 215 4 (by decide) (by omega)]; exact r3, fun p hp => by rw [k1 _ _ (by omega), w3 218 p (by decide) (by omega)]; exact r4 p hp, ⟨fun p hp => ?_, fun d hd => ?_, fun p hp => ?_⟩⟩, MP_c e hM, v.2⟩
  · rw [k1 _ _ (by omega), k1 _ _ (by omega), k1 _ _ (by omega), w3 232 p (by decide) (by omega), w3 233 p (by decide) (by omega), w3 234 p (by decide) (by omega), k2, w2]
    exact r5.1 p hp
  · rw [k1 _ _ (by omega), w3 235 d (by decide) (by omega), k2, w2]
    exact r5.2.1 d hd
  · rw [k2, w2]
    exact r5.2.2 p hp
theorem inv_settle {s : gx_S} (h : INV s) {x y : Int} (hx : i32 x) (hy : i32 y) : two s (gm_90 x y) (gm_215 x y) := by
  obtain ⟨f, R, C, n, pf, L, tb, c, r, v⟩ := id h
  have hx' := hx
  have hy' := hy
  unfold i32 at hx' hy'
  by_cases a : 0 ≤ x ∧ x ≤ 1
  · by_cases b : 0 ≤ y ∧ y ≤ 1
    · obtain ⟨z, rfl⟩ : ∃ z : Nat, x = z := ⟨x.toNat, by omega⟩
      have z2 : z = 0 ∨ z = 1 := by omega
      have i2 : (3 + (z : Int)).toNat = 3 + z := by omega
      have fr : f (3 + z) = 0 ∨ f (3 + z) = 1 := by
        rcases z2 with e | e
        · rw [e]; exact v.1.2.2.1
        · rw [e]; exact v.1.2.2.2.1
      have cl : s.1 1 (7 + z) = f (3 + z) := by
        rcases z2 with e | e
        · rw [e]; exact c.1.2.2.2.1
        · rw [e]; exact c.1.2.2.2.2.1
      have e1 : gm_90 z y s = if ¬ f (3 + z) = y then ((gm_119 s).bind fun q5 => some (f (3 + z), gw1 q5 1 (7 + z) y)) else some (-2, s) := by
        have st : gm_90 z y s = gm_90_41 z y (f (3 + z)) s := by
          unfold gm_90
          rw [if_pos hx', if_neg (by omega), if_neg (by omega), if_pos hy', if_neg (by omega), if_pos b.2]
          rcases z2 with e | e
          · rw [e] at cl ⊢
            have cl : s.1 1 7 = f (3 + 0) := cl
            rw [if_neg (by omega), cl]
          · rw [e] at cl ⊢
            have cl : s.1 1 8 = f (3 + 1) := cl
            rw [if_pos (by omega), cl]
        rw [st]
        unfold gm_90_41
        rw [if_pos (by omega), if_pos hy']
        by_cases d : f (3 + z) = y
        · rw [if_neg (fun q => q d), if_neg (fun q => q d)]
        · rw [if_pos d, if_pos d]
          congr 1
          funext q5
          rw [if_pos hx']
          rcases z2 with e | e
          · rw [e, if_neg (by omega)]
            rfl
          · rw [e, if_pos (by omega)]
            rfl
      have e2 : ∀ t : gx_S, t.1 216 = f → gm_215 z y t = if ¬ f (3 + z) = y then ((gm_132 t).bind fun q32 => some (f (3 + z), gw1 q32 216 (3 + z) y)) else some (-2, t) := fun t ht => by
        unfold gm_215
        rw [if_pos hx', in_ t hx (by omega) (by omega), Option.bind_some, if_neg (fun q => (gbD t).mp q (by omega)), if_pos hy', in_ t hy (by omega) (by omega), Option.bind_some, if_pos (fun q => (gbD t).mp q (by omega)), if_pos (by omega)]
        show (if (-2147483648 ≤ (t.1 216 ((3 + (z : Int))).toNat) ∧ (t.1 216 ((3 + (z : Int))).toNat) ≤ 2147483647) then (if ¬ (t.1 216 ((3 + (z : Int))).toNat) = y then ((gm_132 t).bind fun q32 => some ((t.1 216 ((3 + (z : Int))).toNat), (gw1 q32 216 ((3 + (z : Int))).toNat y))) else some ((-2), t)) else none) = _
        rw [i2, ht, if_pos (by omega)]
      unfold two
      by_cases d : f (3 + z) = y
      · exact ⟨-2, s, s, e1.trans (if_neg fun q => q d), (e2 s r.1).trans (if_neg fun q => q d), h⟩
      · obtain ⟨u, u1, u2, u3, u4⟩ := act_pre c r v
        obtain ⟨g1, w, w1, w2, w3⟩ := u4 (gw1 u 1 (7 + z) y) (fun k j q => by rw [gw1_1, if_neg (by omega)]) rfl
        refine ⟨f (3 + z), gw1 u 1 (7 + z) y, gw1 w 216 (3 + z) y, ?_, ?_, w3 _ (fun q => if q = 3 + z then y else f q) R C (fun k j q => by rw [gw1_1, if_neg (fun t => q t.1)]) rfl (MP_up v.1 (by omega)) (MR_up u2 (by omega)) fun i hi => ?_⟩
        · rw [e1, if_pos d, u1, Option.bind_some]
        · rw [e2 _ g1, if_pos d, w1, Option.bind_some]
        · show _ = (if i = 3 + z then y else f i)
          rw [gw1_1, w2]
          by_cases q : i = 3 + z
          · rw [if_pos ⟨rfl, q⟩, if_pos q]
          · rw [if_neg (fun t => q t.2), if_neg q]
    · unfold two gm_90 gm_215
      refine ⟨-1, s, s, ?_, ?_, h⟩
      · rw [if_pos hx', if_neg (by omega), if_neg (by omega), if_pos hy']
        by_cases d : y < 0
        · rw [if_pos d]
        · rw [if_neg d, if_neg (by omega)]
      · rw [if_pos hx', in_ s hx (by omega) (by omega), Option.bind_some, if_neg (fun q => (gbD s).mp q (by omega)), if_pos hy', in_ s hy (by omega) (by omega), Option.bind_some, if_neg (fun q => q ((gbD s).mpr (by omega)))]
  · unfold two gm_90 gm_215
    refine ⟨-1, s, s, ?_, ?_, h⟩
    · rw [if_pos hx']
      by_cases d : x < 0
      · rw [if_pos d]
      · rw [if_neg d, if_pos (by omega)]
    · rw [if_pos hx', in_ s hx (by omega) (by omega), Option.bind_some, if_pos ((gbD s).mpr (by omega))]
/-- weights of a row of groups -/
def fw (f : Nat → Int) (a b y : Nat) (x : Int) (q : Nat) : Int := if 32 + 4 * a + y ≤ q ∧ q ≤ 32 + 4 * b + y ∧ (q - 32 - y) % 4 = 0 then x else f q
theorem sl_89_137 {a b y : Nat} {x v : Int} (hy : y < 4) (hb : b < 3) : ∀ (n j : Nat) (s : gx_S), b + 1 < n + j → j ≤ b + 1 → ∃ u : gx_S, gm_89_137 n y x b v j s = some (v, u) ∧ u.2 = s.2 ∧ (∀ k i, k ≠ 4 → u.1 k i = s.1 k i) ∧ ∀ i, u.1 4 i = if 4 * j + y ≤ i ∧ i ≤ 4 * b + y ∧ (i - y) % 4 = 0 then x else s.1 4 i := by
  intro n
  induction n with
  | zero => intro j s h; omega
  | succ n ih =>
    intro j s h hj
    rw [gm_89_137, if_pos (by omega), if_pos (by omega)]
    by_cases q : j = b + 1
    · rw [if_pos (by omega)]
      exact ⟨s, rfl, rfl, fun _ _ _ => rfl, fun i => by rw [if_neg (by omega)]⟩
    · have ce : ((j : Int) + 1) = ((j + 1 : Nat) : Int) := rfl
      have i1 : (((j : Int) * 4) + (y : Int)).toNat = 4 * j + y := by omega
      rw [if_neg (by omega), if_pos (by omega), i1, ce]
      obtain ⟨u, u1, u2, u3, u4⟩ := ih (j + 1) (gw1 s 4 (4 * j + y) x) (by omega) (by omega)
      refine ⟨u, u1, u2, fun k i h1 => by rw [u3 k i h1, gw1_1, if_neg (fun t => h1 t.1)], fun i => ?_⟩
      rw [u4, gw1_1]
      by_cases z : i = 4 * j + y
      · rw [if_neg (show ¬ (4 * (j + 1) + y ≤ i ∧ i ≤ 4 * b + y ∧ (i - y) % 4 = 0) by omega), if_pos ⟨rfl, z⟩, if_pos (show 4 * j + y ≤ i ∧ i ≤ 4 * b + y ∧ (i - y) % 4 = 0 by omega)]
      · rw [if_neg (show ¬ ((4 : Nat) = 4 ∧ i = 4 * j + y) from fun t => z t.2)]
        by_cases z2 : 4 * (j + 1) + y ≤ i ∧ i ≤ 4 * b + y ∧ (i - y) % 4 = 0
        · rw [if_pos z2, if_pos (show 4 * j + y ≤ i ∧ i ≤ 4 * b + y ∧ (i - y) % 4 = 0 by omega)]
        · rw [if_neg z2, if_neg (show ¬ (4 * j + y ≤ i ∧ i ≤ 4 * b + y ∧ (i - y) % 4 = 0) by omega)]
theorem sl_89_62 {a b y : Nat} {x : Int} {s : gx_S} (hy : y < 4) (hab : a ≤ b) (hb : b < 3) (hx : i32 x) (hs : ∀ i, i < 12 → i32 (s.1 4 i)) : ∀ (n j : Nat) (fl : Int), b + 1 < n + j → a ≤ j → j ≤ b + 1 → (fl = 0 ∨ fl = 1) → ∃ v : Bool, gm_89_62 n y x a b fl j s = (if v = true then some (-2, s) else (gm_119 s).bind fun q => gm_89_137 100000 y x b (s.1 4 (4 * a + y)) a q) ∧ (v = true ↔ (fl = 1 ∧ ∀ g, j ≤ g → g ≤ b → s.1 4 (4 * g + y) = x)) := by
  unfold i32 at hx hs
  intro n
  induction n with
  | zero => intro j fl h; omega
  | succ n ih =>
    intro j fl h h1 h2 h3
    have ia : (((a : Int) * 4) + (y : Int)).toNat = 4 * a + y := by omega
    rw [gm_89_62, if_pos (by omega), if_pos (by omega)]
    by_cases q : j = b + 1
    · rw [if_pos (by omega), if_pos (by omega)]
      rcases h3 with e | e
      · rw [e, if_pos rfl, if_pos (by omega), ia]
        exact ⟨false, (if_neg Bool.false_ne_true).symm, fun t => Bool.noConfusion t, fun t => absurd t.1 (by decide)⟩
      · rw [e, if_neg (by decide)]
        exact ⟨true, (if_pos rfl).symm, fun _ => ⟨rfl, fun g g1 g2 => by omega⟩, fun _ => rfl⟩
    · have ce : ((j : Int) + 1) = ((j + 1 : Nat) : Int) := rfl
      have i1 : (((j : Int) * 4) + (y : Int)).toNat = 4 * j + y := by omega
      have sr := hs (4 * j + y) (by omega)
      rw [if_neg (by omega), if_pos (by omega)]
      unfold gm_89_97
      rcases h3 with e | e
      · obtain ⟨v, v1, v2⟩ := ih (j + 1) 0 (by omega) (by omega) (by omega) (.inl rfl)
        rw [e, if_pos rfl, ce]
        exact ⟨v, v1, fun t => absurd (v2.mp t).1 (by decide), fun t => absurd t.1 (by decide)⟩
      · rw [e, if_neg (by decide), if_pos (by omega), i1, if_pos sr, if_pos hx, ce]
        by_cases z : s.1 4 (4 * j + y) = x
        · rw [if_neg (fun t => t z)]
          obtain ⟨v, v1, v2⟩ := ih (j + 1) 1 (by omega) (by omega) (by omega) (.inr rfl)
          refine ⟨v, v1, fun t => ⟨rfl, fun g g1 g2 => ?_⟩, fun t => v2.mpr ⟨rfl, fun g g1 g2 => t.2 g (by omega) g2⟩⟩
          by_cases e2 : g = j
          · rw [e2]; exact z
          · exact (v2.mp t).2 g (by omega) g2
        · rw [if_pos z]
          obtain ⟨v, v1, v2⟩ := ih (j + 1) 0 (by omega) (by omega) (by omega) (.inl rfl)
          exact ⟨v, v1, fun t => absurd (v2.mp t).1 (by decide), fun t => absurd (t.2 j (Nat.le_refl j) (by omega)) z⟩
/-- a group is meant -/
def mt (x : Int) (g : Nat) : Prop := x = -1 ∨ x = g
theorem sl_213 {x w : Int} {y : Nat} {s : gx_S} (hx : -1 ≤ x ∧ x ≤ 2) (hy : y < 4) (hw : i32 w) (hs : ∀ i, i < 12 → i32 (s.1 216 (32 + i))) : ∀ (n j : Nat), 3 < n + j → j ≤ 3 → ∃ v : Bool, gm_213_3 n x y w j s = some (v, s) ∧ (v = true ↔ ∀ g, j ≤ g → g < 3 → mt x g → s.1 216 (32 + 4 * g + y) = w) := by
  unfold i32 at hw hs
  intro n
  induction n with
  | zero => intro j h; omega
  | succ n ih =>
    intro j h hj
    rw [gm_213_3, if_pos (by omega)]
    by_cases q : j = 3
    · rw [if_pos (by omega)]
      exact ⟨true, rfl, fun _ g g1 g2 => by omega, fun _ => rfl⟩
    · have ce : ((j : Int) + 1) = ((j + 1 : Nat) : Int) := rfl
      have i1 : ((32 + (4 * (j : Int))) + (y : Int)).toNat = 32 + 4 * j + y := by omega
      have sr := hs (4 * j + y) (by omega)
      rw [show 32 + (4 * j + y) = 32 + 4 * j + y by omega] at sr
      obtain ⟨v, v1, v2⟩ := ih (j + 1) (by omega) (by omega)
      have hit : mt x j → ∃ v : Bool, gm_213_20 (gm_213_3 n) x y w j s = some (v, s) ∧ (v = true ↔ ∀ g, j ≤ g → g < 3 → mt x g → s.1 216 (32 + 4 * g + y) = w) := fun m => by
        unfold gm_213_20
        rw [if_pos (by omega), i1, if_pos sr, if_pos hw]
        by_cases z : s.1 216 (32 + 4 * j + y) = w
        · rw [if_pos z]
          unfold gm_213_40
          rw [ce]
          refine ⟨v, v1, fun t g g1 g2 g3 => ?_, fun t => v2.mpr fun g g1 g2 g3 => t g (by omega) g2 g3⟩
          by_cases e : g = j
          · rw [e]; exact z
          · exact v2.mp t g (by omega) g2 g3
        · rw [if_neg z]
          exact ⟨false, rfl, fun t => Bool.noConfusion t, fun t => absurd (t j (by omega) (by omega) m) z⟩
      rw [if_neg (by omega), if_pos (by omega)]
      by_cases m1 : x = -1
      · rw [if_pos m1]
        exact hit (.inl m1)
      · rw [if_neg m1]
        by_cases m2 : x = (j : Int)
        · rw [if_neg (fun t => t m2)]
          exact hit (.inr m2)
        · rw [if_pos m2]
          unfold gm_213_40
          rw [ce]
          refine ⟨v, v1, fun t g g1 g2 g3 => ?_, fun t => v2.mpr fun g g1 g2 g3 => t g (by omega) g2 g3⟩
          by_cases e : g = j
          · rw [e] at g3
            rcases g3 with g3 | g3
            · exact absurd g3 m1
            · exact absurd g3 m2
          · exact v2.mp t g (by omega) g2 g3
theorem sl_214_79 {x w v : Int} {y a b : Nat} (hx : -1 ≤ x ∧ x ≤ 2) (hy : y < 4) (hb : b < 3) (hm : ∀ g, g < 3 → (mt x g ↔ a ≤ g ∧ g ≤ b)) : ∀ (n j : Nat) (s : gx_S), 3 < n + j → j ≤ 3 → ∃ u : gx_S, gm_214_79 n x y w v j s = some (v, u) ∧ u.2 = s.2 ∧ (∀ k i, k ≠ 216 → u.1 k i = s.1 k i) ∧ ∀ i, u.1 216 i = if 32 + 4 * j + y ≤ i ∧ 32 + 4 * a + y ≤ i ∧ i ≤ 32 + 4 * b + y ∧ (i - 32 - y) % 4 = 0 then w else s.1 216 i := by
  intro n
  induction n with
  | zero => intro j s h; omega
  | succ n ih =>
    intro j s h hj
    rw [gm_214_79, if_pos (by omega)]
    by_cases q : j = 3
    · rw [if_pos (by omega)]
      exact ⟨s, rfl, rfl, fun _ _ _ => rfl, fun i => by rw [if_neg (by omega)]⟩
    · have ce : ((j : Int) + 1) = ((j + 1 : Nat) : Int) := rfl
      have i1 : ((32 + (4 * (j : Int))) + (y : Int)).toNat = 32 + 4 * j + y := by omega
      have hit : mt x j → ∃ u : gx_S, gm_214_96 (gm_214_79 n) x y w v j s = some (v, u) ∧ u.2 = s.2 ∧ (∀ k i, k ≠ 216 → u.1 k i = s.1 k i) ∧ ∀ i, u.1 216 i = if 32 + 4 * j + y ≤ i ∧ 32 + 4 * a + y ≤ i ∧ i ≤ 32 + 4 * b + y ∧ (i - 32 - y) % 4 = 0 then w else s.1 216 i := fun m => by
        have m' := (hm j (by omega)).mp m
        unfold gm_214_96 gm_214_111
        rw [if_pos (by omega), i1, ce]
        obtain ⟨u, u1, u2, u3, u4⟩ := ih (j + 1) (gw1 s 216 (32 + 4 * j + y) w) (by omega) (by omega)
        refine ⟨u, u1, u2, fun k i h1 => by rw [u3 k i h1, gw1_1, if_neg (fun t => h1 t.1)], fun i => ?_⟩
        rw [u4, gw1_1]
        by_cases z : i = 32 + 4 * j + y
        · rw [if_neg (show ¬ (32 + 4 * (j + 1) + y ≤ i ∧ 32 + 4 * a + y ≤ i ∧ i ≤ 32 + 4 * b + y ∧ (i - 32 - y) % 4 = 0) by omega), if_pos ⟨rfl, z⟩, if_pos (show 32 + 4 * j + y ≤ i ∧ 32 + 4 * a + y ≤ i ∧ i ≤ 32 + 4 * b + y ∧ (i - 32 - y) % 4 = 0 by omega)]
        · rw [if_neg (show ¬ ((216 : Nat) = 216 ∧ i = 32 + 4 * j + y) from fun t => z t.2)]
          by_cases z2 : 32 + 4 * (j + 1) + y ≤ i ∧ 32 + 4 * a + y ≤ i ∧ i ≤ 32 + 4 * b + y ∧ (i - 32 - y) % 4 = 0
          · rw [if_pos z2, if_pos (show 32 + 4 * j + y ≤ i ∧ 32 + 4 * a + y ≤ i ∧ i ≤ 32 + 4 * b + y ∧ (i - 32 - y) % 4 = 0 by omega)]
          · rw [if_neg z2, if_neg (show ¬ (32 + 4 * j + y ≤ i ∧ 32 + 4 * a + y ≤ i ∧ i ≤ 32 + 4 * b + y ∧ (i - 32 - y) % 4 = 0) by omega)]
      rw [if_neg (by omega), if_pos (by omega)]
      by_cases m1 : x = -1
      · rw [if_pos m1]
        exact hit (.inl m1)
      · rw [if_neg m1]
        by_cases m2 : x = (j : Int)
        · rw [if_neg (fun t => t m2)]
          exact hit (.inr m2)
        · rw [if_pos m2]
          have nm : ¬ (a ≤ j ∧ j ≤ b) := fun t => by
            rcases (hm j (by omega)).mpr t with t | t
            · exact m1 t
            · exact m2 t
          unfold gm_214_111
          rw [ce]
          obtain ⟨u, u1, u2, u3, u4⟩ := ih (j + 1) s (by omega) (by omega)
          refine ⟨u, u1, u2, u3, fun i => ?_⟩
          rw [u4]
          by_cases z2 : 32 + 4 * (j + 1) + y ≤ i ∧ 32 + 4 * a + y ≤ i ∧ i ≤ 32 + 4 * b + y ∧ (i - 32 - y) % 4 = 0
          · rw [if_pos z2, if_pos (show 32 + 4 * j + y ≤ i ∧ 32 + 4 * a + y ≤ i ∧ i ≤ 32 + 4 * b + y ∧ (i - 32 - y) % 4 = 0 by omega)]
          · rw [if_neg z2, if_neg (show ¬ (32 + 4 * j + y ≤ i ∧ 32 + 4 * a + y ≤ i ∧ i ≤ 32 + 4 * b + y ∧ (i - 32 - y) % 4 = 0) by omega)]
theorem inv_weigh {s : gx_S} (h : INV s) {x y z : Int} (hx : i32 x) (hy : i32 y) (hz : i32 z) : two s (gm_89 x y z) (gm_214 x y z) := by
  obtain ⟨f, R, C, n, pf, L, tb, c, r, v⟩ := id h
  have hx' := hx
  have hy' := hy
  have hz' := hz
  unfold i32 at hx' hy' hz'
  have c1 : gm_89 x y z s = if -1 ≤ x ∧ x ≤ 2 then gm_89_12 x y z s else some (-1, s) := by
    unfold gm_89
    rw [if_pos hx']
    by_cases a : x = -1
    · rw [if_pos a, if_pos (by omega)]
    · rw [if_neg a, sp_114 s hx, Option.bind_some]
      by_cases b : 0 ≤ x ∧ x < 3
      · rw [if_neg (fun q => (gbD s).mp q b), if_pos (by omega)]
      · rw [if_pos ((gbD s).mpr b), if_neg (by omega)]
  by_cases a : -1 ≤ x ∧ x ≤ 2
  · have c2 : gm_89_12 x y z s = if (0 ≤ y ∧ y < 4) ∧ 0 ≤ z ∧ z ≤ 9 then gm_89_41 x y z (if x = -1 then 0 else x) s else some (-1, s) := by
      unfold gm_89_12
      rw [sp_116 s hy, Option.bind_some]
      by_cases b : 0 ≤ y ∧ y < 4
      · rw [if_neg (fun q => (gbD s).mp q b), if_pos hz']
        by_cases d : z < 0
        · rw [if_pos d, if_neg (fun t => by omega)]
        · rw [if_neg d]
          by_cases d2 : z ≤ 9
          · rw [if_pos d2, if_pos hx', if_pos (show (0 ≤ y ∧ y < 4) ∧ 0 ≤ z ∧ z ≤ 9 from ⟨b, by omega, d2⟩)]
            by_cases m1 : x = -1
            · rw [if_neg (fun t => t m1), if_pos m1]
            · rw [if_pos m1, if_neg m1]
          · rw [if_neg d2, if_neg (fun t => d2 t.2.2)]
      · rw [if_pos ((gbD s).mpr b), if_neg (fun t => b t.1)]
    by_cases b : (0 ≤ y ∧ y < 4) ∧ 0 ≤ z ∧ z ≤ 9
    · obtain ⟨y', rfl⟩ : ∃ y' : Nat, y = y' := ⟨y.toNat, by omega⟩
      have y4 : y' < 4 := by omega
      obtain ⟨aa, bb, hab, hbb, ea, eb, hm⟩ : ∃ aa bb : Nat, aa ≤ bb ∧ bb < 3 ∧ (if x = -1 then (0 : Int) else x) = aa ∧ (if ¬ x = -1 then x else (2 : Int)) = bb ∧ ∀ g, g < 3 → (mt x g ↔ aa ≤ g ∧ g ≤ bb) := by
        by_cases m1 : x = -1
        · refine ⟨0, 2, by omega, by omega, if_pos m1, if_neg (fun t => t m1), fun g hg => ?_⟩
          unfold mt
          omega
        · refine ⟨x.toNat, x.toNat, by omega, by omega, (if_neg m1).trans (by omega), (if_pos m1).trans (by omega), fun g hg => ?_⟩
          unfold mt
          omega
      have wr : ∀ i, i < 12 → s.1 4 i = f (32 + i) ∧ 0 ≤ f (32 + i) ∧ f (32 + i) ≤ 9 := fun i hi => by
        have e := c.1.2.2.2.2.2.2.1 i hi
        rw [show (1 : Nat) + 3 = 4 from rfl] at e
        exact ⟨e, v.1.2.2.2.2.2.1 i hi⟩
      have c3 : gm_89_41 x y' z (if x = -1 then 0 else x) s = gm_89_62 100000 y' z aa bb 1 aa s := by
        unfold gm_89_41 gm_89_53
        rw [if_pos hx', ea]
        by_cases m1 : x = -1
        · rw [if_neg (fun t => t m1)] at eb ⊢
          rw [← eb]
        · rw [if_pos m1] at eb ⊢
          rw [eb]
      obtain ⟨k0, c4, c5⟩ := sl_89_62 (s := s) (x := z) y4 hab hbb hz (fun i hi => by
        have := wr i hi
        unfold i32
        omega) 100000 aa 1 (by omega) (Nat.le_refl aa) (by omega) (.inr rfl)
      have r0 : ∀ t : gx_S, t.1 216 = f → ∃ q : Bool, gm_214 x y' z t = (if q = true then some (-2, t) else (gm_132 t).bind fun q45 => gm_214_79 100000 x y' z (q45.1 216 (32 + 4 * aa + y')) 0 q45) ∧ (q = true ↔ ∀ g, aa ≤ g → g ≤ bb → s.1 4 (4 * g + y') = z) := fun t ht => by
        obtain ⟨q, q1, q2⟩ := sl_213 (x := x) (w := z) (s := t) a y4 hz (fun i hi => by
          rw [ht]
          have := wr i hi
          unfold i32
          omega) 100000 0 (by omega) (by omega)
        have q1 : gm_213_3 100000 x y' z 0 t = some (q, t) := q1
        have im : ((32 + (4 * (if 0 < x then x else 0))) + (y' : Int)) = ((32 + 4 * aa + y' : Nat) : Int) := by
          by_cases m1 : x = -1
          · rw [if_pos m1] at ea
            rw [if_neg (by omega)]
            omega
          · rw [if_neg m1] at ea
            by_cases m2 : 0 < x
            · rw [if_pos m2]
              omega
            · rw [if_neg m2]
              omega
        refine ⟨q, ?_, q2.trans ⟨fun w g g1 g2 => ?_, fun w g g1 g2 g3 => ?_⟩⟩
        · unfold gm_214 gm_213
          rw [if_pos hx', in_ t hx (by omega) (by omega), Option.bind_some, if_neg (fun q => (gbD t).mp q (by omega)), if_pos hy', in_ t hy (by omega) (by omega), Option.bind_some, if_neg (fun q => (gbD t).mp q (by omega)), if_pos hz', in_ t hz (by omega) (by omega), Option.bind_some, if_pos (fun q => (gbD t).mp q (by omega))]
          show ((gm_213_3 100000 x y' z 0 t).bind _) = _
          rw [q1, Option.bind_some, im]
          cases q with
          | true => rw [if_neg (show ¬ gb (true, t).1 = 0 from (by decide : ¬ gb true = 0)), if_pos rfl]
          | false =>
            rw [if_pos (show gb (false, t).1 = 0 from (by decide : gb false = 0)), if_neg Bool.false_ne_true]
            have en : (((32 + 4 * aa + y' : Nat) : Int)).toNat = 32 + 4 * aa + y' := by omega
            have eb' : (0 ≤ (((32 + 4 * aa + y' : Nat) : Int)) ∧ (((32 + 4 * aa + y' : Nat) : Int)) < 340) := by omega
            simp only [en, if_pos eb']
        · have := w g (by omega) (by omega) ((hm g (by omega)).mpr ⟨g1, g2⟩)
          rw [ht] at this
          rw [(wr (4 * g + y') (by omega)).1, show 32 + (4 * g + y') = 32 + 4 * g + y' by omega]
          exact this
        · have g4 := (hm g g2).mp g3
          have := w g g4.1 g4.2
          rw [(wr (4 * g + y') (by omega)).1, show 32 + (4 * g + y') = 32 + 4 * g + y' by omega] at this
          rw [ht]
          exact this
      unfold two
      rw [c1, if_pos a, c2, if_pos b, c3, c4]
      by_cases d : ∀ g, aa ≤ g → g ≤ bb → s.1 4 (4 * g + y') = z
      · obtain ⟨q, q1, q2⟩ := r0 s r.1
        rw [if_pos (c5.mpr ⟨rfl, d⟩)]
        exact ⟨-2, s, s, rfl, by rw [q1, if_pos (q2.mpr d)], h⟩
      · rw [if_neg (fun t => d (c5.mp t).2)]
        obtain ⟨u, u1, u2, u3, u4⟩ := act_pre c r v
        rw [u1, Option.bind_some]
        obtain ⟨u', p1, p2, p3, p4⟩ := sl_89_137 (a := aa) (x := z) (v := s.1 4 (4 * aa + y')) y4 hbb 100000 aa u (by omega) (by omega)
        obtain ⟨g1, w, w1, w2, w3⟩ := u4 u' (fun k j q => p3 k j (by omega)) p2
        obtain ⟨q, q1, q2⟩ := r0 u' g1
        have qf : ¬ q = true := fun t => d (q2.mp t)
        obtain ⟨w', t1, t2, t3, t4⟩ := sl_214_79 (x := x) (w := z) (v := w.1 216 (32 + 4 * aa + y')) a y4 hbb hm 100000 0 w (by omega) (by omega)
        have t1 : gm_214_79 100000 x y' z (w.1 216 (32 + 4 * aa + y')) 0 w = _ := t1
        refine ⟨s.1 4 (4 * aa + y'), u', w', p1, ?_, w3 w' (fw f aa bb y' z) R C t3 t2 ?_ ?_ fun i hi => ?_⟩
        · rw [q1, if_neg qf, w1, Option.bind_some, t1, w2, (wr (4 * aa + y') (by omega)).1, show 32 + (4 * aa + y') = 32 + 4 * aa + y' by omega]
        · obtain ⟨m1, m2, m3, m4, m5, m6, m7, m8, m10⟩ := v.1
          have o : ∀ q, ¬ (32 ≤ q ∧ q < 44) → fw f aa bb y' z q = f q := fun q hq => if_neg (by omega)
          refine ⟨by rw [o 0 (by omega), o 1 (by omega)]; exact m1, by rw [o 2 (by omega)]; exact m2, by rw [o 3 (by omega)]; exact m3, by rw [o 4 (by omega)]; exact m4, fun g hg => ⟨fun i hi => by rw [o _ (by omega)]; exact (m5 g hg).1 i hi, ?_⟩, fun i hi => ?_, fun i hi => by rw [o _ (by omega)]; exact m7 i hi, fun l hl b' k hk => ?_, by rw [o 2 (by omega)]; exact m10⟩
          · rw [sg_eq (g := fun z => f (5 + 9 * g + z)) fun z hz => o _ (by omega)]
            exact (m5 g hg).2
          · unfold fw
            split
            · omega
            · exact m6 i hi
          · rw [o _ (by omega)]
            rw [o 2 (by omega)] at b'
            exact m8 l hl b' k hk
        · obtain ⟨m1, m2, m3, m4, m5, m6, m7, m8, m9⟩ := u2
          have o : ∀ q, ¬ (32 ≤ q ∧ q < 44) → fw f aa bb y' z q = f q := fun q hq => if_neg (by omega)
          refine ⟨by rw [p3 _ _ (by omega), o 0 (by omega)]; exact m1, by rw [p3 _ _ (by omega), o 1 (by omega)]; exact m2, by rw [p3 _ _ (by omega), o 2 (by omega)]; exact m3, by rw [p3 _ _ (by omega), o 3 (by omega)]; exact m4, by rw [p3 _ _ (by omega), o 4 (by omega)]; exact m5, fun i hi => by rw [p3 _ _ (by omega), o _ (by omega)]; exact m6 i hi, fun i hi => ?_, fun i hi => by rw [p3 _ _ (by omega), o _ (by omega)]; exact m8 i hi, fun l hl b' k hk => ?_⟩
          · have e7 := m7 i hi
            rw [show (1 : Nat) + 3 = 4 from rfl] at e7 ⊢
            rw [p4]
            unfold fw
            by_cases t : 4 * aa + y' ≤ i ∧ i ≤ 4 * bb + y' ∧ (i - y') % 4 = 0
            · rw [if_pos t, if_pos (by omega)]
            · rw [if_neg t, if_neg (by omega)]
              exact e7
          · rw [o 2 (by omega)] at b'
            rw [p3 _ _ (by omega), o _ (by omega)]
            exact m9 l hl b' k hk
        · rw [t4, w2]
          unfold fw
          by_cases t : 32 + 4 * aa + y' ≤ i ∧ i ≤ 32 + 4 * bb + y' ∧ (i - 32 - y') % 4 = 0
          · rw [if_pos (by omega), if_pos t]
          · rw [if_neg (by omega), if_neg t]
    · unfold two
      rw [c1, if_pos a, c2, if_neg b]
      refine ⟨-1, s, s, rfl, ?_, h⟩
      unfold gm_214
      rw [if_pos hx', in_ s hx (by omega) (by omega), Option.bind_some, if_neg (fun q => (gbD s).mp q (by omega)), if_pos hy', in_ s hy (by omega) (by omega), Option.bind_some]
      by_cases d : 0 ≤ y ∧ y ≤ 3
      · rw [if_neg (fun q => (gbD s).mp q d), if_pos hz', in_ s hz (by omega) (by omega), Option.bind_some, if_neg (fun q => q ((gbD s).mpr (by omega)))]
      · rw [if_pos ((gbD s).mpr d)]
  · unfold two
    rw [c1, if_neg a]
    refine ⟨-1, s, s, rfl, ?_, h⟩
    unfold gm_214
    rw [if_pos hx', in_ s hx (by omega) (by omega), Option.bind_some, if_pos ((gbD s).mpr (by omega))]
