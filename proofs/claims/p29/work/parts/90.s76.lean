/-! CALLS: texts taken on both sides -/
def CX (s u : gx_S) : Prop := u.2 = s.2 ∧ ∀ k j, k ≠ 219 → k ≠ 220 → ¬ (k = 215 ∧ 5 ≤ j ∧ j ≤ 11) → u.1 k j = s.1 k j
theorem CR_CX {s u : gx_S} (h : CR s u) : CX s u := ⟨h.1, fun k j q1 q2 q3 => h.2 k j q2 (by omega)⟩
theorem RV_CX {s u : gx_S} {f : Nat → Int} {n L : Nat} {pf : Nat → Nat → Int} {tb : Nat → Int} (k : CX s u) (h : RV s f n pf L tb) : RV u f n pf L tb := by
  obtain ⟨h1, ⟨h2, h3⟩, h4, h5, h6⟩ := h
  refine ⟨?_, ⟨(k.2 _ _ (by omega) (by omega) (by omega)).trans h2, fun k' hk i hi => (k.2 _ _ (by omega) (by omega) (by omega)).trans (h3 k' hk i hi)⟩, (k.2 _ _ (by omega) (by omega) (by omega)).trans h4, fun i hi => by rw [k.2 218 i (by omega) (by omega) (by omega)]; exact h5 i hi, ⟨fun j hj => ?_, fun c hc => ?_, fun i hi => ?_⟩⟩
  · funext i
    rw [k.2 216 i (by omega) (by omega) (by omega), h1]
  · rw [k.2 232 j (by omega) (by omega) (by omega), k.2 233 j (by omega) (by omega) (by omega), k.2 234 j (by omega) (by omega) (by omega), k.1]
    exact h6.1 j hj
  · rw [k.2 235 c (by omega) (by omega) (by omega), k.1]
    exact h6.2.1 c hc
  · rw [k.1]
    exact h6.2.2 i hi
theorem RV_0 {s : gx_S} {f : Nat → Int} {n L : Nat} {pf : Nat → Nat → Int} {tb : Nat → Int} (h : RV s f n pf L tb) : RV (gw1 s 215 4 0) f n pf 0 tb := by
  obtain ⟨h1, ⟨h2, h3⟩, h4, h5, h6⟩ := h
  refine ⟨?_, ⟨by rw [gw1_1, if_neg (by omega)]; exact h2, fun k' hk i hi => by rw [gw1_1, if_neg (by omega)]; exact h3 k' hk i hi⟩, by rw [gw1_1, if_pos ⟨rfl, rfl⟩]; rfl, fun i hi => absurd hi (by omega), ⟨fun j hj => ?_, fun c hc => ?_, fun i hi => h6.2.2 i hi⟩⟩
  · funext i
    rw [gw1_1, if_neg (by omega), h1]
  · rw [gw1_1, if_neg (by omega), gw1_1, if_neg (by omega), gw1_1, if_neg (by omega)]
    exact h6.1 j hj
  · rw [gw1_1, if_neg (by omega)]
    exact h6.2.1 c hc
theorem CV_0 {s u : gx_S} {f : Nat → Int} {R C n L : Nat} {pf : Nat → Nat → Int} {tb : Nat → Int} (o : ∀ k j, ¬ (58 ≤ k ∧ k ≤ 61) → u.1 k j = s.1 k j) (h : CV s f R C n pf L tb) : CV (gw1 u 14 1 0) f R C n pf 0 tb := by
  obtain ⟨h1, h2, h3, h4, h5⟩ := CV_o (u := u) (fun k j q => o k j (by omega)) h
  have o2 : ∀ k j, ¬ k = 14 → (gw1 u 14 1 0).1 k j = u.1 k j := fun k j q => by rw [gw1_1, if_neg (by omega)]
  refine ⟨MR_o (fun k j q1 q2 => o2 k j (by omega)) h1, fun g hg => ?_, HC_o (fun k j q1 q2 => o2 k j (by omega)) h3, by rw [gw1_1, if_pos ⟨rfl, rfl⟩]; rfl, fun i hi => absurd hi (by omega)⟩
  obtain ⟨D, z⟩ := h2 g hg
  exact ⟨D, GGD_o (fun k j q1 q2 => o2 k j (by omega)) z⟩
theorem KC_0 {s u : gx_S} (e : u.2 = s.2) (o : ∀ k j, ¬ (58 ≤ k ∧ k ≤ 61) → u.1 k j = s.1 k j) : KC s (gw1 u 14 1 0) := ⟨fun k j q => by rw [gw1_1, if_neg (by omega), o k j (by omega)], fun k j _ => by rw [gw1_2, e]⟩
theorem CV_TC {s : gx_S} {f : Nat → Int} {R C n L : Nat} {pf : Nat → Nat → Int} {tb : Nat → Int} (c : CV s f R C n pf L tb) (v : AV f R C L tb) : TC s L tb := ⟨v.2.1, c.2.2.2.1, fun i hi => ⟨c.2.2.2.2 i hi, v.2.2 i hi⟩⟩
theorem RV_TF {s : gx_S} {f : Nat → Int} {R C n L : Nat} {pf : Nat → Nat → Int} {tb : Nat → Int} (r : RV s f n pf L tb) (v : AV f R C L tb) : TF s L tb := ⟨v.2.1, r.2.2.1, fun i hi => ⟨r.2.2.2.1 i hi, v.2.2 i hi⟩⟩
/-- an act behind a text -/
theorem act_pre3 {s : gx_S} {f : Nat → Int} {R C n L : Nat} {pf : Nat → Nat → Int} {tb : Nat → Int} (c : CV s f R C n pf L tb) (v : AV f R C L tb) (e : s.1 216 = f) : ∃ u : gx_S, gm_119 s = some u ∧ u.2 = s.2 ∧ MR u 1 f R C ∧ u.1 216 = f ∧ (∀ k j, ¬ (16 ≤ k ∧ k ≤ 57) → ¬ ((k = 71 ∨ k = 119 ∨ k = 167) ∧ j = 8) → u.1 k j = s.1 k j) ∧ ∀ u' t : gx_S, (∀ k j, 6 ≤ k → u'.1 k j = u.1 k j) → u'.2 = u.2 → KF u' t → RV t f n pf L tb → ∃ w : gx_S, gm_132 t = some w ∧ w.1 216 = f ∧ (∀ k i, k ≠ 217 → ¬ (k = 215 ∧ i = 2) → w.1 k i = t.1 k i) ∧ ∀ (w' : gx_S) (fn : Nat → Int) (R' C' : Nat), (∀ k j, k ≠ 216 → w'.1 k j = w.1 k j) → w'.2 = w.2 → MP fn R' C' → MR u' 1 fn R' C' → (∀ i, i < 340 → w'.1 216 i = fn i) → INV w' := by
  obtain ⟨u, u1, u2, u3, u4⟩ := sp_119 v.1 c
  have eu : u.1 216 = f := by
    funext q
    rw [u4 216 q (by omega) (by omega), e]
  refine ⟨u, u1, u3, u2.1, eu, u4, fun u' t h1 h2 kt rv => ?_⟩
  obtain ⟨w, w1, w2, w3, w4⟩ := sp_132 c.2.2.1.1 rv.2.1
  rw [rv.1] at w4
  have ew : w.1 216 = f := by
    funext q
    rw [w3 216 q (by decide) (by omega), rv.1]
  refine ⟨w, w1, ew, w3, fun w' fn R' C' k1 k2 hM hR e => ?_⟩
  obtain ⟨a1, a2, a3, a4, a5⟩ := u2
  have ca : CW u' fn R' C' (nn n) (pn n pf f) L tb := ⟨hR, fun g hg => ⟨by rw [h1 _ _ (by omega)]; exact (a2 g hg).1, by rw [h1 _ _ (by omega)]; exact (a2 g hg).2⟩, HC_o (fun k j q1 q2 => h1 k j (by omega)) a3, by rw [h1 _ _ (by omega)]; exact a4, fun q hq => by rw [h1 _ _ (by omega)]; exact a5 q hq⟩
  have kf : KF u' w' := KF_tr kt ⟨fun k j q => by rw [k1 k j (by omega)]; exact w3 k j (by omega) (by omega), fun k j _ => by rw [k2, w2]⟩
  obtain ⟨r1, r2, r3, r4, r5⟩ := rv
  refine ⟨w'.1 216, R', C', nn n, pn n pf f, L, tb, CW_CV hM e (CW_KF kf ca), ⟨rfl, ⟨by rw [k1 _ _ (by omega)]; exact w4.1, fun q hq p hp => by rw [k1 _ _ (by omega)]; exact w4.2 q hq p hp⟩, by rw [k1 _ _ (by omega), w3 215 4 (by decide) (by omega)]; exact r3, fun p hp => by rw [k1 _ _ (by omega), w3 218 p (by decide) (by omega)]; exact r4 p hp, ⟨fun p hp => ?_, fun d hd => ?_, fun p hp => ?_⟩⟩, MP_c e hM, v.2⟩
  · rw [k1 _ _ (by omega), k1 _ _ (by omega), k1 _ _ (by omega), w3 232 p (by decide) (by omega), w3 233 p (by decide) (by omega), w3 234 p (by decide) (by omega), k2, w2]
    exact r5.1 p hp
  · rw [k1 _ _ (by omega), w3 235 d (by decide) (by omega), k2, w2]
    exact r5.2.1 d hd
  · rw [k2, w2]
    exact r5.2.2 p hp
theorem sl_149_41 {g : Nat} (hg : g < 3) {H : Nat → Int} : ∀ (m j : Nat) (s : gx_S), 9 < m + j → j ≤ 9 → (∀ i, i < 9 → s.1 220 i = H i) → ∃ u : gx_S, gm_149_41 m g (sg H j) j s = some (sg H 9, u) ∧ u.2 = s.2 ∧ (∀ k i, k ≠ 216 → u.1 k i = s.1 k i) ∧ ∀ i, u.1 216 i = if 5 + 9 * g + j ≤ i ∧ i < 14 + 9 * g then H (i - 5 - 9 * g) else s.1 216 i := by
  intro m
  induction m with
  | zero => intro j s h; omega
  | succ m ih =>
    intro j s h hj e
    rw [gm_149_41, if_pos (by omega)]
    by_cases q : j = 9
    · rw [if_pos (by omega), q]
      exact ⟨s, rfl, rfl, fun _ _ _ => rfl, fun i => by rw [if_neg (by omega)]⟩
    · have ce : ((j : Int) + 1) = ((j + 1 : Nat) : Int) := rfl
      have i5 : ((j : Int)).toNat = j := by omega
      have i6 : ((5 + (9 * (g : Int))) + (j : Int)).toNat = 5 + 9 * g + j := by omega
      have x2 : (gw1 s 216 (5 + 9 * g + j) (H j)).1 220 j = H j := by rw [gw1_1, if_neg (by omega), e j (by omega)]
      rw [if_neg (by omega), if_pos (by omega), if_pos (by omega), i5, i6, ce, e j (by omega), x2, show sg H j + H j = sg H (j + 1) from rfl]
      obtain ⟨u, u1, u2, u3, u4⟩ := ih (j + 1) (gw1 s 216 (5 + 9 * g + j) (H j)) (by omega) (by omega) (fun i hi => by rw [gw1_1, if_neg (by omega), e i hi])
      refine ⟨u, u1, u2, fun k i h1 => by rw [u3 k i h1, gw1_1, if_neg (fun x => h1 x.1)], fun i => ?_⟩
      rw [u4, gw1_1]
      by_cases y : i = 5 + 9 * g + j
      · rw [if_neg (show ¬ (5 + 9 * g + (j + 1) ≤ i ∧ i < 14 + 9 * g) by omega), if_pos ⟨rfl, y⟩, if_pos (show 5 + 9 * g + j ≤ i ∧ i < 14 + 9 * g by omega), y, show 5 + 9 * g + j - 5 - 9 * g = j by omega]
      · by_cases y2 : 5 + 9 * g + (j + 1) ≤ i ∧ i < 14 + 9 * g
        · rw [if_pos y2, if_pos (show 5 + 9 * g + j ≤ i ∧ i < 14 + 9 * g by omega)]
        · rw [if_neg y2, if_neg (show ¬ (216 = 216 ∧ i = 5 + 9 * g + j) from fun x => y x.2), if_neg (show ¬ (5 + 9 * g + j ≤ i ∧ i < 14 + 9 * g) by omega)]
/-- the map with another group's counts -/
def fc (f : Nat → Int) (g : Nat) (H : Nat → Int) (i : Nat) : Int := if 5 + 9 * g ≤ i ∧ i < 14 + 9 * g then H (i - 5 - 9 * g) else f i
theorem MP_fc {f : Nat → Int} {R C g : Nat} {H : Nat → Int} (M : MP f R C) (hg : g < 3) (hH : ∀ j, 0 ≤ H j ∧ H j ≤ 9999) : MP (fc f g H) R C := by
  obtain ⟨m1, m2, m3, m4, m5, m6, m7, m8, m10⟩ := M
  have o : ∀ i, ¬ (5 ≤ i ∧ i < 32) → fc f g H i = f i := fun i h => by
    unfold fc
    rw [if_neg (by omega)]
  refine ⟨by rw [o 0 (by omega), o 1 (by omega)]; exact m1, by rw [o 2 (by omega)]; exact m2, by rw [o 3 (by omega)]; exact m3, by rw [o 4 (by omega)]; exact m4, fun x hx => ?_, fun i hi => by rw [o _ (by omega)]; exact m6 i hi, fun i hi => by rw [o _ (by omega)]; exact m7 i hi, fun l hl b k hk => by rw [o _ (by omega)]; exact m8 l hl (by rw [o _ (by omega)] at b; exact b) k hk, by rw [o _ (by omega)]; exact m10⟩
  by_cases e : x = g
  · have c : ∀ z, z < 9 → fc f g H (5 + 9 * x + z) = H z := fun z hz => by
      unfold fc
      rw [if_pos (by omega), e, show 5 + 9 * g + z - 5 - 9 * g = z by omega]
    refine ⟨fun z hz => by rw [c z hz]; exact (hH z).1, ?_⟩
    rw [sg_eq (g := H) c]
    exact Int.le_trans (sg_le (g := fun _ => 9999) fun z hz => (hH z).2) (by decide)
  · have c : ∀ z, z < 9 → fc f g H (5 + 9 * x + z) = f (5 + 9 * x + z) := fun z hz => by
      unfold fc
      rw [if_neg (by omega)]
    refine ⟨fun z hz => by rw [c z hz]; exact (m5 x hx).1 z hz, ?_⟩
    rw [sg_eq (g := fun z => f (5 + 9 * x + z)) c]
    exact (m5 x hx).2
theorem inv_counts {s : gx_S} (h : INV s) {x : Int} (hx : i32 x) : two s (gm_88 x) (gm_149 x) := by
  obtain ⟨f, R, C, n, pf, L, tb, c, r, v⟩ := id h
  have hx' := hx
  unfold i32 at hx'
  have hL := v.2.1
  have cT := CV_TC c v
  have v0 : AV f R C 0 tb := ⟨v.1, by omega, fun i hi => absurd hi (by omega)⟩
  unfold two gm_88 gm_149
  rw [sp_114 s hx, Option.bind_some]
  by_cases a : 0 ≤ x ∧ x < 3
  · obtain ⟨g, rfl⟩ : ∃ g : Nat, x = g := ⟨x.toNat, by omega⟩
    rw [if_pos (fun q => (gbD s).mp q a)]
    obtain ⟨u, u1, uC, ur, u2⟩ := sp_4 cT
    show ∃ (r : Int) (u' w : gx_S), ((gm_4 s).bind _) = some (r, u') ∧ _
    rw [u1, Option.bind_some]
    have uo : ∀ k j, ¬ (58 ≤ k ∧ k ≤ 61) → u.1 k j = s.1 k j := fun k j q => uC.2 k j (by omega) (by omega)
    have c0 := CV_0 uo c
    have k0 := KC_0 uC.1 uo
    have r0 := RV_KC k0 r
    obtain ⟨b, hb⟩ : ∃ b, b = gw1 u 14 1 0 := ⟨_, rfl⟩
    rw [← hb] at c0 k0 r0
    -- what the reference does before it acts
    have ref : ∀ t : gx_S, RV t f n pf L tb → ∃ w : gx_S, KF t w ∧ RV w f n pf 0 tb ∧ w.1 215 6 = (ctw tb L).1 ∧ ((ctw tb L).1 = -1 → ∀ j, j < 9 → w.1 220 j = (ctw tb L).2 j) ∧ (((gm_148 g t).bind fun q22 => if ¬ (gb q22.1) = 0 then ((gm_147 q22.2).bind fun q25 => (gm_138 (gw1 q25 215 4 0)).bind fun q27 => if ¬ (gb q27.1) = 0 then ((gm_132 q27.2).bind fun q30 => gm_149_41 100000 g 0 0 q30) else (some (((-2) - (q27.2.1 215 6)), q27.2))) else (some ((-1), q22.2))) : Option (Int × gx_S)) = if (ctw tb L).1 = -1 then ((gm_132 w).bind fun q30 => gm_149_41 100000 g 0 0 q30) else some (-2 - (ctw tb L).1, w) := fun t rt => by
      obtain ⟨y, y1, y2, y3, y4⟩ := sp_147 (RV_TF rt v)
      obtain ⟨w, hw⟩ : ∃ w, w = gw1 y 215 4 0 := ⟨_, rfl⟩
      have wo : ∀ k j, ¬ (k = 215 ∧ j = 4) → w.1 k j = y.1 k j := fun k j q => by rw [hw, gw1_1, if_neg q]
      have w6 : w.1 215 6 = (ctw tb L).1 := by rw [wo _ _ (by omega), y3]
      refine ⟨w, ⟨fun k j q => by rw [wo _ _ (by omega), y2.2 k j (by omega) (by omega)], fun k j q => by rw [hw, gw1_2, y2.1]⟩, by rw [hw]; exact RV_0 (RV_CX (CR_CX y2) rt), w6, fun q j hj => by rw [wo _ _ (by omega), y4 q j hj], ?_⟩
      rw [sp_148 t (by unfold i32; omega), Option.bind_some, if_pos (fun q => (gbD t).mp q (by omega))]
      show ((gm_147 t).bind _) = _
      rw [y1, Option.bind_some, ← hw, sp_138 (by rw [w6]; unfold i32; omega), Option.bind_some]
      show (if ¬ (gb (decide (w.1 215 6 = -1))) = 0 then ((gm_132 w).bind fun q30 => gm_149_41 100000 g 0 0 q30) else (some (((-2) - (w.1 215 6)), w))) = _
      rw [w6]
      by_cases z : (ctw tb L).1 = -1
      · rw [if_pos (fun q => (gbD t).mp q z), if_pos z]
      · rw [if_neg (fun q => q ((gbD t).mpr z)), if_neg z]
    show ∃ (r : Int) (u' w : gx_S), (if (-2147483648 ≤ (ctw tb L).1 ∧ (ctw tb L).1 ≤ 2147483647) then (if (ctw tb L).1 = -1 then ((gm_119 (gw1 u 14 1 0)).bind fun q23 => if 0 ≤ (0 : Int) ∧ 0 ≤ ((g * 9) : Int) ∧ 0 ≤ (9 : Int) ∧ (0 : Int) + 9 ≤ 9 ∧ ((g * 9) : Int) + 9 ≤ 27 then ((gm_66 1 g (gcp q23 61 0 3 ((g * 9) : Int).toNat 9)).bind fun q28 => some (q28.1, q28.2)) else none) else some (((-2) - (ctw tb L).1), (gw1 u 14 1 0))) else none) = some (r, u') ∧ _
    rw [if_pos (by omega), ← hb]
    by_cases z : (ctw tb L).1 = -1
    · have fr := ctw_r (fun p => (sgn_r cT p).1) hL
      have e0 : b.1 216 = f := r0.1
      obtain ⟨d, d1, d2, d3, d4, d5, d6⟩ := act_pre3 c0 v0 e0
      have i2 : ((g : Int) * 9).toNat = 9 * g := by omega
      rw [if_pos z, d1, Option.bind_some, if_pos (by omega), i2]
      obtain ⟨u', hu'⟩ : ∃ u', u' = gcp d 61 0 3 (9 * g) 9 := ⟨_, rfl⟩
      have uk : ∀ k j, k ≠ 3 → u'.1 k j = d.1 k j := fun k j q => by rw [hu', gcp_1, if_neg (by omega)]
      have u3 : ∀ j, u'.1 3 j = if 9 * g ≤ j ∧ j < 9 * g + 9 then (ctw tb L).2 (j - 9 * g) else d.1 3 j := fun j => by
        rw [hu', gcp_1]
        by_cases y : 9 * g ≤ j ∧ j < 9 * g + 9
        · rw [if_pos (by omega), if_pos y, d5 _ _ (by omega) (by omega), hb, gw1_1, if_neg (by omega), show 0 + (j - 9 * g) = j - 9 * g by omega, u2 z _ (by omega)]
        · rw [if_neg (by omega), if_neg y]
      have ue : u'.2 = d.2 := by rw [hu']; rfl
      rw [← hu']
      have mr : MR u' 1 (fc f g (ctw tb L).2) R C := by
        obtain ⟨m1, m2, m3, m4, m5, m6, m7, m8, m9⟩ := d3
        have o : ∀ i, ¬ (5 ≤ i ∧ i < 32) → fc f g (ctw tb L).2 i = f i := fun i h => by
          unfold fc
          rw [if_neg (by omega)]
        refine ⟨by rw [uk _ _ (by omega), o 0 (by omega)]; exact m1, by rw [uk _ _ (by omega), o 1 (by omega)]; exact m2, by rw [uk _ _ (by omega), o 2 (by omega)]; exact m3, by rw [uk _ _ (by omega), o 3 (by omega)]; exact m4, by rw [uk _ _ (by omega), o 4 (by omega)]; exact m5, fun i hi => ?_, fun i hi => by rw [uk _ _ (by omega), o _ (by omega)]; exact m7 i hi, fun i hi => by rw [uk _ _ (by omega), o _ (by omega)]; exact m8 i hi, fun l hl bb k hk => by rw [uk _ _ (by omega), o _ (by omega)]; exact m9 l hl (by rw [o _ (by omega)] at bb; exact bb) k hk⟩
        rw [show (1 : Nat) + 2 = 3 from rfl, u3]
        unfold fc
        by_cases y : 9 * g ≤ i ∧ i < 9 * g + 9
        · rw [if_pos y, if_pos (by omega), show 5 + i - 5 - 9 * g = i - 9 * g by omega]
        · rw [if_neg y, if_neg (by omega)]
          exact m6 i hi
      have kc : KC b u' := ⟨fun k j q => by rw [uk k j (by omega), d5 k j (by omega) (by omega)], fun k j _ => by rw [ue, d2]⟩
      obtain ⟨w, w1, w2, w3, w4, w5⟩ := ref u' (RV_KC kc r0)
      obtain ⟨y, y1, y2, y3, y4⟩ := d6 u' w (fun k j q => uk k j (by omega)) ue w1 w2
      obtain ⟨p, p1, p2, p3, p4⟩ := sl_149_41 (g := g) (by omega) (H := (ctw tb L).2) 100000 0 y (by omega) (by omega) (fun i hi => by rw [y3 220 i (by decide) (by omega), w4 z i hi])
      have p1 : gm_149_41 100000 g 0 0 y = _ := p1
      refine ⟨sg (ctw tb L).2 9, u', p, ?_, ?_, y4 p (fc f g (ctw tb L).2) R C p3 p2 (MP_fc v.1 (by omega) fr) mr fun i hi => ?_⟩
      · rw [sp_66g mr (by omega), Option.bind_some]
        have e : sg (fun z => fc f g (ctw tb L).2 (5 + 9 * g + z)) 9 = sg (ctw tb L).2 9 := sg_eq fun j hj => by
          unfold fc
          rw [if_pos (by omega), show 5 + 9 * g + j - 5 - 9 * g = j by omega]
        show some (sg (fun z => fc f g (ctw tb L).2 (5 + 9 * g + z)) 9, u') = _
        rw [e]
      · rw [w5, if_pos z, y1, Option.bind_some, p1]
      · rw [p4, y2]
        rfl
    · rw [if_neg z]
      obtain ⟨w, w1, w2, w3, w4, w5⟩ := ref b r0
      exact ⟨_, b, w, rfl, w5.trans (if_neg z), f, R, C, n, pf, 0, tb, CV_KF w1 c0, w2, v0⟩
  · rw [if_neg (fun q => q ((gbD s).mpr a))]
    refine ⟨-1, s, s, rfl, ?_, h⟩
    rw [sp_148 s hx, Option.bind_some, if_neg (fun q => q ((gbD s).mpr (by omega)))]
