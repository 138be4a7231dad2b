/-! CALLS: adopt, on both sides -/
theorem act_pre2 {s : gx_S} {f : Nat → Int} {R C n L : Nat} {pf : Nat → Nat → Int} {tb : Nat → Int} (c : CV s f R C n pf L tb) (r : RV s f n pf L tb) (v : AV f R C L tb) : ∃ u : gx_S, gm_119 s = some u ∧ MR u 1 f R C ∧ u.1 216 = f ∧ (∀ k j, ¬ (16 ≤ k ∧ k ≤ 57) → ¬ ((k = 71 ∨ k = 119 ∨ k = 167) ∧ j = 8) → u.1 k j = s.1 k j) ∧ ∀ u' t : gx_S, (∀ k j, 6 ≤ k → u'.1 k j = u.1 k j) → u'.2 = u.2 → KRw u' t → SC u' ∧ u'.1 216 = f ∧ ∃ w : gx_S, gm_132 t = some w ∧ w.1 216 = f ∧ (∀ k i, k ≠ 217 → ¬ (k = 215 ∧ i = 2) → w.1 k i = t.1 k i) ∧ ∀ (w' : gx_S) (fn : Nat → Int) (R' C' : Nat), (∀ k j, k ≠ 216 → w'.1 k j = w.1 k j) → w'.2 = w.2 → MP fn R' C' → MR u' 1 fn R' C' → (∀ i, i < 340 → w'.1 216 i = fn i) → INV w' := by
  obtain ⟨u, u1, u2, u3, u4⟩ := sp_119 v.1 c
  have eu : u.1 216 = f := by
    funext q
    rw [u4 216 q (by omega) (by omega), r.1]
  refine ⟨u, u1, u2.1, eu, u4, fun u' t h1 h2 kt => ?_⟩
  have eu' : u'.1 216 = f := by
    funext q
    rw [h1 216 q (by omega), eu]
  have kc : KC s u' := ⟨fun k j q => by rw [h1 k j (by omega), u4 k j (by omega) (by omega)], fun k j _ => by rw [h2, u3]⟩
  have rv0 := RV_KC kc r
  have rv := RV_KR kt rv0
  obtain ⟨w, w1, w2, w3, w4⟩ := sp_132 c.2.2.1.1 rv.2.1
  rw [rv.1] at w4
  have ew : w.1 216 = f := by
    funext q
    rw [w3 216 q (by decide) (by omega), rv.1]
  refine ⟨rv0.2.2.2.2, eu', w, w1, ew, w3, fun w' fn R' C' k1 k2 hM hR e => ?_⟩
  obtain ⟨a1, a2, a3, a4, a5⟩ := u2
  have ca : CW u' fn R' C' (nn n) (pn n pf f) L tb := ⟨hR, fun g hg => ⟨by rw [h1 _ _ (by omega)]; exact (a2 g hg).1, by rw [h1 _ _ (by omega)]; exact (a2 g hg).2⟩, HC_o (fun k j q1 q2 => h1 k j (by omega)) a3, by rw [h1 _ _ (by omega)]; exact a4, fun q hq => by rw [h1 _ _ (by omega)]; exact a5 q hq⟩
  have kf : KF u' w' := KF_tr (KR_KF kt) ⟨fun k j q => by rw [k1 k j (by omega)]; exact w3 k j (by omega) (by omega), fun k j _ => by rw [k2, w2]⟩
  obtain ⟨r1, r2, r3, r4, r5⟩ := rv
  refine ⟨w'.1 216, R', C', nn n, pn n pf f, L, tb, CW_CV hM e (CW_KF kf ca), ⟨rfl, ⟨by rw [k1 _ _ (by omega)]; exact w4.1, fun q hq p hp => by rw [k1 _ _ (by omega)]; exact w4.2 q hq p hp⟩, by rw [k1 _ _ (by omega), w3 215 4 (by decide) (by omega)]; exact r3, fun p hp => by rw [k1 _ _ (by omega), w3 218 p (by decide) (by omega)]; exact r4 p hp, ⟨fun p hp => ?_, fun d hd => ?_, fun p hp => ?_⟩⟩, MP_c e hM, v.2⟩
  · rw [k1 _ _ (by omega), k1 _ _ (by omega), k1 _ _ (by omega), w3 232 p (by decide) (by omega), w3 233 p (by decide) (by omega), w3 234 p (by decide) (by omega), k2, w2]
    exact r5.1 p hp
  · rw [k1 _ _ (by omega), w3 235 d (by decide) (by omega), k2, w2]
    exact r5.2.1 d hd
  · rw [k2, w2]
    exact r5.2.2 p hp
theorem sl_217_135 {x : Int} : ∀ (m j : Nat) (s : gx_S), 96 < m + j → j ≤ 96 → ∃ u : gx_S, gm_217_135 m x j s = some (x, u) ∧ u.2 = s.2 ∧ (∀ k i, k ≠ 216 → u.1 k i = s.1 k i) ∧ ∀ i, u.1 216 i = if 52 + j ≤ i ∧ i < 148 then s.1 216 (i + 96) else s.1 216 i := by
  intro m
  induction m with
  | zero => intro j s h; omega
  | succ m ih =>
    intro j s h hj
    rw [gm_217_135, if_pos (by omega)]
    by_cases q : j = 96
    · rw [if_pos (by omega)]
      exact ⟨s, rfl, rfl, fun _ _ _ => rfl, fun i => by rw [if_neg (by omega)]⟩
    · have ce : ((j : Int) + 1) = ((j + 1 : Nat) : Int) := rfl
      have i1 : (52 + (j : Int)).toNat = 52 + j := by omega
      have i2 : (148 + (j : Int)).toNat = 148 + j := by omega
      rw [if_neg (by omega), if_pos (by omega), if_pos (by omega), i1, i2, ce]
      obtain ⟨u, u1, u2, u3, u4⟩ := ih (j + 1) (gw1 s 216 (52 + j) (s.1 216 (148 + j))) (by omega) (by omega)
      refine ⟨u, u1, u2, fun k i h1 => by rw [u3 k i h1, gw1_1, if_neg (fun t => h1 t.1)], fun i => ?_⟩
      rw [u4, gw1_1, gw1_1]
      by_cases z : i = 52 + j
      · rw [if_neg (show ¬ (52 + (j + 1) ≤ i ∧ i < 148) by omega), if_pos (show (216 : Nat) = 216 ∧ i = 52 + j from ⟨rfl, z⟩), if_pos (show 52 + j ≤ i ∧ i < 148 by omega), z, show 148 + j = 52 + j + 96 by omega]
      · by_cases z2 : 52 + (j + 1) ≤ i ∧ i < 148
        · rw [if_pos z2, if_neg (show ¬ ((216 : Nat) = 216 ∧ i + 96 = 52 + j) by omega), if_pos (show 52 + j ≤ i ∧ i < 148 by omega)]
        · rw [if_neg z2, if_neg (show ¬ ((216 : Nat) = 216 ∧ i = 52 + j) from fun t => z t.2), if_neg (show ¬ (52 + j ≤ i ∧ i < 148) by omega)]
theorem sl_217_107 {x : Int} : ∀ (m j : Nat) (s : gx_S), 27 < m + j → j ≤ 27 → ∃ u : gx_S, gm_217_107 m x j s = gm_217_135 100000 x 0 u ∧ u.2 = s.2 ∧ (∀ k i, k ≠ 216 → u.1 k i = s.1 k i) ∧ ∀ i, u.1 216 i = if 5 + j ≤ i ∧ i < 32 then s.1 245 (i - 5) else s.1 216 i := by
  intro m
  induction m with
  | zero => intro j s h; omega
  | succ m ih =>
    intro j s h hj
    rw [gm_217_107, if_pos (by omega)]
    by_cases q : j = 27
    · rw [if_pos (by omega)]
      exact ⟨s, rfl, rfl, fun _ _ _ => rfl, fun i => by rw [if_neg (by omega)]⟩
    · have ce : ((j : Int) + 1) = ((j + 1 : Nat) : Int) := rfl
      have i1 : (5 + (j : Int)).toNat = 5 + j := by omega
      have i2 : ((j : Int)).toNat = j := by omega
      rw [if_neg (by omega), if_pos (by omega), if_pos (by omega), i1, i2, ce]
      obtain ⟨u, u1, u2, u3, u4⟩ := ih (j + 1) (gw1 s 216 (5 + j) (s.1 245 j)) (by omega) (by omega)
      refine ⟨u, u1, u2, fun k i h1 => by rw [u3 k i h1, gw1_1, if_neg (fun t => h1 t.1)], fun i => ?_⟩
      rw [u4, gw1_1, gw1_1]
      by_cases z : i = 5 + j
      · rw [if_neg (show ¬ (5 + (j + 1) ≤ i ∧ i < 32) by omega), if_pos (show (216 : Nat) = 216 ∧ i = 5 + j from ⟨rfl, z⟩), if_pos (show 5 + j ≤ i ∧ i < 32 by omega), z, show 5 + j - 5 = j by omega]
      · by_cases z2 : 5 + (j + 1) ≤ i ∧ i < 32
        · rw [if_pos z2, if_neg (show ¬ ((245 : Nat) = 216 ∧ i - 5 = 5 + j) by omega), if_pos (show 5 + j ≤ i ∧ i < 32 by omega)]
        · rw [if_neg z2, if_neg (show ¬ ((216 : Nat) = 216 ∧ i = 5 + j) from fun t => z t.2), if_neg (show ¬ (5 + j ≤ i ∧ i < 32) by omega)]
/-- the map behind adopt -/
def fa (f : Nat → Int) (R C i : Nat) : Int := if 5 ≤ i ∧ i < 32 then cn f R C ((i - 5) / 9) ((i - 5) % 9) else if 52 ≤ i ∧ i < 148 then f (i + 96) else f i
theorem cn_r {f : Nat → Int} {R C g : Nat} (M : MP f R C) (h7 : f 2 = 7) (hg : g < 3) : (∀ z, z < 9 → 0 ≤ cn f R C g z) ∧ sg (fun z => cn f R C g z) 9 ≤ 89991 := by
  obtain ⟨v1, v2, v3⟩ := GV_r M h7 hg
  obtain ⟨l1, l2⟩ := LV_r M hg
  have m := (M.2.2.2.2.1 g hg).2
  have u0 := UN_r M hg
  have as0 : 0 ≤ ASf f R C g := by
    unfold ASf
    split <;> omega
  obtain ⟨p1, p2⟩ := PA_mv M h7 hg
  obtain ⟨t1, t2⟩ := TB_0 (md := f 3) M.2.2.1 p1 (fun _ => p2)
  refine ⟨fun z hz => ?_, ?_⟩
  · have := (v3 z hz).1
    unfold cn
    split <;> omega
  · have e1 : sg (fun z => cn f R C g z) 9 = sg (fun z => sg (fun x => GV f R C g x z) 8) 9 + sg (fun z => if z = 8 then ASf f R C g else 0) 9 := sg_add _ _ 9
    have e2 : sg (fun z => if z = 8 then ASf f R C g else 0) 9 = ASf f R C g := (sg_single (i := 8) (by omega) fun c _ hn => if_neg hn).trans (if_pos rfl)
    have e3 : sg (fun z => sg (fun x => GV f R C g x z) 8) 9 = sg (fun x => sg (fun z => GV f R C g x z) 9) 8 := (sg_swap (fun x z => GV f R C g x z) 9 8).symm
    have e4 : sg (fun x => sg (fun z => GV f R C g x z) 9) 8 ≤ sg (LV f R C g) 8 := sg_le fun x hx => by
      have a := t2 x hx
      have b := l1 x hx
      have e : sg (fun z => GV f R C g x z) 9 = sg (fun y => TB (f 3) (LV f R C g) (PMV f R C g) x y) 9 := rfl
      rw [e, a]
      split <;> omega
    omega
theorem MP_fa {f : Nat → Int} {R C : Nat} (M : MP f R C) (h7 : f 2 = 7) : MP (fa f R C) R C := by
  obtain ⟨m1, m2, m3, m4, m5, m6, m7, m8, m10⟩ := id M
  have o : ∀ i, ¬ (5 ≤ i ∧ i < 32) → ¬ (52 ≤ i ∧ i < 148) → fa f R C i = f i := fun i h1 h2 => by
    unfold fa
    rw [if_neg h1, if_neg h2]
  have c : ∀ g z, g < 3 → z < 9 → fa f R C (5 + 9 * g + z) = cn f R C g z := fun g z hg hz => by
    unfold fa
    rw [if_pos (by omega), show (5 + 9 * g + z - 5) / 9 = g by omega, show (5 + 9 * g + z - 5) % 9 = z by omega]
  refine ⟨by rw [o 0 (by omega) (by omega), o 1 (by omega) (by omega)]; exact m1, by rw [o 2 (by omega) (by omega)]; exact m2, by rw [o 3 (by omega) (by omega)]; exact m3, by rw [o 4 (by omega) (by omega)]; exact m4, fun g hg => ⟨fun z hz => by rw [c g z hg hz]; exact (cn_r M h7 hg).1 z hz, ?_⟩, fun i hi => by rw [o _ (by omega) (by omega)]; exact m6 i hi, fun i hi => by rw [o _ (by omega) (by omega)]; exact m7 i hi, fun l hl b k hk => ?_, by rw [o 2 (by omega) (by omega)]; exact m10⟩
  · rw [sg_eq (g := fun z => cn f R C g z) fun z hz => c g z hg hz]
    exact (cn_r M h7 hg).2
  · have kk := (kC m1.2.2.1 m1.2.2.2 hk (show 2 < 3 by omega)).1
    by_cases e : l = 0
    · rw [e]
      have a := m8 1 (by omega) (by rw [h7]; rfl) k hk
      rw [if_neg (by omega)] at a ⊢
      have z : fa f R C (52 + 96 * 0 + 12 * (k / C) + k % C) = f (52 + 96 * 1 + 12 * (k / C) + k % C) := by
        unfold fa
        rw [if_neg (by omega), if_pos (by omega), show 52 + 96 * 0 + 12 * (k / C) + k % C + 96 = 52 + 96 * 1 + 12 * (k / C) + k % C by omega]
      rw [z]
      exact a
    · rw [o _ (by omega) (by omega)]
      exact m8 l hl (by rw [o 2 (by omega) (by omega)] at b; exact b) k hk
theorem inv_adopt {s : gx_S} (h : INV s) : two s gm_93 gm_217 := by
  obtain ⟨f, R, C, n, pf, L, tb, c, r, v⟩ := id h
  have e7 : s.1 1 6 = f 2 := c.1.2.2.1
  have c57 := sp_57 (s := s) (a := 1) (by decide +kernel) (by rw [e7]; exact v.1.2.1)
  have c50 : ∀ t : gx_S, t.1 216 = f → gm_150 t = some (decide (f 2 = 7), t) := fun t ht => by
    have := sp_150 (s := t) (by rw [ht]; exact v.1.2.1)
    rw [ht] at this
    exact this
  unfold two gm_93 gm_217
  rw [c57, Option.bind_some, e7]
  by_cases h7 : f 2 = 7
  · rw [if_pos (fun q => (gbD s).mp q h7)]
    obtain ⟨a, a1, a2, a3, a4⟩ := sl_93_14 v.1 h7 100000 0 s (by omega) (by omega) c fun g hg => absurd hg (by omega)
    have a1 : gm_93_14 100000 0 s = _ := a1
    obtain ⟨u, u1, u2, u3, u4, u5⟩ := act_pre2 a2 (RV_KC a3 r) v
    obtain ⟨b, b1, b2, b3, b4⟩ := sl_93_44 (f := f) (R := R) (C := C) 100000 0 0 u (by omega) (by omega) fun g hg => MV_o (fun k i q1 q2 q3 => u4 k i (by omega) (by omega)) (a4 g hg)
    have b1 : gm_93_44 100000 0 0 u = some (0 + (sg (inz f R C) 3 - sg (inz f R C) 0), gcp b 2 96 2 0 96) := b1
    obtain ⟨u', hu'⟩ : ∃ u', u' = gcp b 2 96 2 0 96 := ⟨_, rfl⟩
    rw [← hu'] at b1
    have k6 : ∀ k j, 6 ≤ k → u'.1 k j = u.1 k j := fun k j q => by
      rw [hu', gcp_1, if_neg (by omega), b3 k j (by omega)]
    have k2 : u'.2 = u.2 := by rw [hu']; exact b2
    obtain ⟨S, eu', _⟩ := u5 u' u' k6 k2 (KRw_rf u')
    obtain ⟨t, t1, t2, t3⟩ := sl_217_13 (f := f) (R := R) (C := C) v.1 h7 100000 0 0 u' (by omega) (by omega) eu' S fun g z hg => absurd hg (by omega)
    have t1 : gm_217_13 100000 0 0 u' = ((gm_132 t).bind fun q4 => gm_217_107 100000 (0 + (sg (inz f R C) 3 - sg (inz f R C) 0)) 0 q4) := t1
    obtain ⟨_, _, w, w1, w2, w3, w4⟩ := u5 u' t k6 k2 t2
    obtain ⟨d, d1, d2, d3, d4⟩ := sl_217_107 (x := 0 + (sg (inz f R C) 3 - sg (inz f R C) 0)) 100000 0 w (by omega) (by omega)
    have d1 : gm_217_107 100000 (0 + (sg (inz f R C) 3 - sg (inz f R C) 0)) 0 w = _ := d1
    obtain ⟨e, e1, e2, e3, e4⟩ := sl_217_135 (x := 0 + (sg (inz f R C) 3 - sg (inz f R C) 0)) 100000 0 d (by omega) (by omega)
    have e1 : gm_217_135 100000 (0 + (sg (inz f R C) 3 - sg (inz f R C) 0)) 0 d = _ := e1
    refine ⟨0 + (sg (inz f R C) 3 - sg (inz f R C) 0), u', e, by rw [a1, u1, Option.bind_some, b1], ?_, w4 e (fa f R C) R C (fun k j q => by rw [e3 k j q, d3 k j q]) (by rw [e2, d2]) (MP_fa v.1 h7) ?_ fun i hi => ?_⟩
    · rw [c50 u' eu', Option.bind_some, if_pos (fun q => (gbD u').mp q h7)]
      show gm_217_13 100000 0 0 u' = _
      rw [t1, w1, Option.bind_some, d1, e1]
    · obtain ⟨m1, m2, m3, m4, m5, m6, m7, m8, m9⟩ := u2
      have o : ∀ i, ¬ (5 ≤ i ∧ i < 32) → ¬ (52 ≤ i ∧ i < 148) → fa f R C i = f i := fun i h1 h2 => by
        unfold fa
        rw [if_neg h1, if_neg h2]
      have uk : ∀ k i, k ≠ 2 → k ≠ 3 → u'.1 k i = u.1 k i := fun k i q1 q2 => by rw [hu', gcp_1, if_neg (by omega), b3 k i q2]
      refine ⟨by rw [uk _ _ (by omega) (by omega), o 0 (by omega) (by omega)]; exact m1, by rw [uk _ _ (by omega) (by omega), o 1 (by omega) (by omega)]; exact m2, by rw [uk _ _ (by omega) (by omega), o 2 (by omega) (by omega)]; exact m3, by rw [uk _ _ (by omega) (by omega), o 3 (by omega) (by omega)]; exact m4, by rw [uk _ _ (by omega) (by omega), o 4 (by omega) (by omega)]; exact m5, fun i hi => ?_, fun i hi => by rw [uk _ _ (by omega) (by omega), o _ (by omega) (by omega)]; exact m7 i hi, fun i hi => by rw [uk _ _ (by omega) (by omega), o _ (by omega) (by omega)]; exact m8 i hi, fun l hl bb k hk => ?_⟩
      · rw [show (1 : Nat) + 2 = 3 from rfl, hu', gcp_1, if_neg (by omega), b4, if_pos (by omega)]
        unfold fa
        rw [if_pos (by omega), show 5 + i - 5 = i by omega]
      · have kk := (kC v.1.1.2.2.1 v.1.1.2.2.2 hk (show 2 < 3 by omega))
        rw [show (1 : Nat) + 1 = 2 from rfl] at m9 ⊢
        rw [hu', gcp_1, b3 2 _ (by omega), b3 2 _ (by omega)]
        by_cases z : l = 0
        · have zz : fa f R C (52 + 96 * 0 + 12 * (k / C) + k % C) = f (52 + 96 * 1 + 12 * (k / C) + k % C) := by
            unfold fa
            rw [if_neg (by omega), if_pos (by omega), show 52 + 96 * 0 + 12 * (k / C) + k % C + 96 = 52 + 96 * 1 + 12 * (k / C) + k % C by omega]
          rw [z, if_pos (by omega), zz, show 96 + (96 * 0 + k - 0) = 96 * 1 + k by omega]
          exact m9 1 (by omega) (by rw [h7]; rfl) k hk
        · rw [if_neg (by omega), o _ (by omega) (by omega)]
          exact m9 l hl (by rw [o 2 (by omega) (by omega)] at bb; exact bb) k hk
    · rw [e4, d4, d4]
      unfold fa
      by_cases z1 : 5 ≤ i ∧ i < 32
      · rw [if_neg (by omega), if_pos (by omega), if_pos z1, w3 245 _ (by decide) (by omega)]
        have := t3 ((i - 5) / 9) ((i - 5) % 9) (by omega) (by omega)
        rw [show 9 * ((i - 5) / 9) + (i - 5) % 9 = i - 5 by omega] at this
        exact this
      · have ef : (if 5 ≤ i ∧ i < 32 then cn f R C ((i - 5) / 9) ((i - 5) % 9) else if 52 ≤ i ∧ i < 148 then f (i + 96) else f i) = if 52 ≤ i ∧ i < 148 then f (i + 96) else f i := if_neg z1
        rw [ef]
        by_cases z2 : 52 ≤ i ∧ i < 148
        · rw [if_pos (show 52 + 0 ≤ i ∧ i < 148 by omega), if_neg (show ¬ (5 + 0 ≤ i + 96 ∧ i + 96 < 32) by omega), w2, if_pos z2]
        · rw [if_neg (show ¬ (52 + 0 ≤ i ∧ i < 148) by omega), if_neg (show ¬ (5 + 0 ≤ i ∧ i < 32) by omega), w2, if_neg z2]
  · rw [if_neg (fun q => q ((gbD s).mpr h7))]
    refine ⟨-1, s, s, rfl, ?_, h⟩
    rw [c50 s r.1, Option.bind_some, if_neg (fun q => q ((gbD s).mpr h7))]
