/-! CALLS: adopt -/
theorem CV_ready {s : gx_S} {f : Nat → Int} {R C n L g w : Nat} {pf : Nat → Nat → Int} {tb : Nat → Int} (hw : w = 2 ∨ w = 4 ∨ w = 8 ∨ w = 16 ∨ w = 32) (M : MP f R C) (h7 : f 2 = 7) (hg : g < 3) (c : CV s f R C n pf L tb) : ∃ (D : Nat) (u : gx_S), gm_19 (71 + 48 * g) w s = some u ∧ CV u f R C n pf L tb ∧ KG (71 + 48 * g) s u ∧ GGD u f R C g (71 + 48 * g) D ∧ D / w % 2 = 1 ∧ (w = 2 ∨ w = 4 ∨ w = 32 → D / 2 % 2 = 1 ∧ D / 1 % 2 = 1) := by
  obtain ⟨c1, c2, c3, c4, c5⟩ := c
  obtain ⟨D0, d0⟩ := c2 g hg
  have a := ga_of hg
  obtain ⟨D, u, u1, u2, u3, u4, u5⟩ := sp_19 hw c1 M h7 hg a d0
  refine ⟨D, u, u1, ⟨KG_MR a u2 c1, fun g' hg' => ?_, HC_o (fun k j q1 q2 => u2.2 k j (by omega) (by omega)) c3, (u2.2 _ _ (by omega) (by omega)).trans c4, fun i hi => (u2.2 _ _ (by omega) (by omega)).trans (c5 i hi)⟩, u2, u3, u4, u5⟩
  by_cases e : g' = g
  · rw [e]
    exact ⟨D, u3⟩
  · obtain ⟨D', d'⟩ := c2 g' hg'
    exact ⟨D', GGD_o (fun k j q1 q2 => u2.2 k j (by omega) (by omega)) d'⟩
/-- the moves and who is left aside are there -/
def MV (s : gx_S) (f : Nat → Int) (R C g : Nat) : Prop := TM s (71 + 48 * g + 3) f R C g ∧ s.1 (71 + 48 * g) 7 = ASf f R C g
theorem MV_o {s u : gx_S} {f : Nat → Int} {R C g : Nat} (o : ∀ k j, 71 + 48 * g ≤ k → k < 71 + 48 * g + 48 → ¬ (k = 71 + 48 * g ∧ j = 8) → u.1 k j = s.1 k j) (h : MV s f R C g) : MV u f R C g := ⟨TM_o (fun k j q1 q2 => o k j (by omega) (by omega) (by omega)) h.1, (o _ _ (by omega) (by omega) (by omega)).trans h.2⟩
theorem sl_93_14 {f : Nat → Int} {R C n L : Nat} {pf : Nat → Nat → Int} {tb : Nat → Int} (M : MP f R C) (h7 : f 2 = 7) : ∀ (m j : Nat) (s : gx_S), 3 < m + j → j ≤ 3 → CV s f R C n pf L tb → (∀ g, g < j → MV s f R C g) → ∃ u : gx_S, gm_93_14 m j s = ((gm_119 u).bind fun q4 => gm_93_44 100000 0 0 q4) ∧ CV u f R C n pf L tb ∧ KC s u ∧ ∀ g, g < 3 → MV u f R C g := by
  intro m
  induction m with
  | zero => intro j s h; omega
  | succ m ih =>
    intro j s h hj c hm
    rw [gm_93_14, if_pos (by omega)]
    by_cases q : j = 3
    · rw [if_pos (by omega)]
      exact ⟨s, rfl, c, KC_rf s, fun g hg => hm g (by omega)⟩
    · have hj' : j < 3 := by omega
      have ce : ((j : Int) + 1) = ((j + 1 : Nat) : Int) := rfl
      have i5 : ((j : Int)).toNat = j := by omega
      obtain ⟨D, t, t1, t2, t3, t4, t5, t6⟩ := CV_ready (w := 2) (.inl rfl) M h7 hj' c
      have t1 : gm_19 (71 + 48 * j) 2 s = some t := t1
      rw [if_neg (by omega), if_pos (by omega), i5, rf70 j hj', Option.bind_some, t1, Option.bind_some, ce]
      obtain ⟨_, _, _, g1, g2, _⟩ := t4
      have a := ga_of hj'
      obtain ⟨u, u1, u2, u3, u4⟩ := ih (j + 1) t (by omega) (by omega) t2 fun g hg => by
        by_cases e : g = j
        · rw [e]
          exact ⟨(g2 (t6 (.inl rfl)).1).2, (g1 (t6 (.inl rfl)).2).2.2⟩
        · exact MV_o (fun k j' q1 q2 _ => t3.2 k j' (by omega) (by omega)) (hm g (by omega))
      exact ⟨u, u1, u2, KC_tr (KG_KC a t3) u3, u4⟩
/-- what is counted behind adopt -/
def cn (f : Nat → Int) (R C g z : Nat) : Int := sg (fun x => GV f R C g x z) 8 + if z = 8 then ASf f R C g else 0
theorem sl_122 {f : Nat → Int} {R C g : Nat} (hg : g < 3) : ∀ (m j : Nat) (x : Int) (s : gx_S), 8 < m + j → j ≤ 8 → MV s f R C g → ∃ u : gx_S, gm_122_12 m g (71 + 48 * g) x j s = some (x + (sg (fun z => sg (fun x => GV f R C g x z) 8) 8 - sg (fun z => sg (fun x => GV f R C g x z) 8) j), u) ∧ u.2 = s.2 ∧ (∀ k i, k ≠ 3 → u.1 k i = s.1 k i) ∧ ∀ i, u.1 3 i = if 9 * g + j ≤ i ∧ i < 9 * g + 9 then cn f R C g (i - 9 * g) else s.1 3 i := by
  obtain ⟨_, t3, _⟩ := ga_g g hg
  intro m
  induction m with
  | zero => intro j x s h; omega
  | succ m ih =>
    intro j x s h hj V
    have col : ∀ y : Nat, y < 9 → gm_76 (71 + 48 * g + 3) y s = some (sg (fun x => GV f R C g x y) 8, s) := fun y hy => by
      rw [sp_76 t3 hy, sg_eq (g := fun x => GV f R C g x y) fun x hx => ((V.1.1 x hx).2.2 y hy).2.2.2]
    rw [gm_122_12, if_pos (by omega)]
    by_cases q : j = 8
    · have c8 := col 8 (by omega)
      have c8 : gm_76 (71 + 48 * g + 3) 8 s = _ := c8
      have i1 : (((g : Int) * 9) + 8).toNat = 9 * g + 8 := by omega
      rw [if_pos (by omega), c8, Option.bind_some, if_pos (by omega), i1]
      refine ⟨gw1 s 3 (9 * g + 8) (cn f R C g 8), ?_, rfl, fun k i h1 => by rw [gw1_1, if_neg (fun t => h1 t.1)], fun i => ?_⟩
      · have e : sg (fun x => GV f R C g x 8) 8 + s.1 (71 + 48 * g) 7 = cn f R C g 8 := by
          rw [V.2]
          rfl
        show some (x, gw1 s 3 (9 * g + 8) (sg (fun x => GV f R C g x 8) 8 + s.1 (71 + 48 * g) 7)) = _
        rw [e, q, Int.sub_self, Int.add_zero]
      · rw [gw1_1]
        by_cases z : i = 9 * g + 8
        · rw [if_pos ⟨rfl, z⟩, if_pos (by omega), z, show 9 * g + 8 - 9 * g = 8 by omega]
        · rw [if_neg (fun t => z t.2), if_neg (by omega)]
    · have ce : ((j : Int) + 1) = ((j + 1 : Nat) : Int) := rfl
      have i1 : (((g : Int) * 9) + (j : Int)).toNat = 9 * g + j := by omega
      rw [if_neg (by omega), col j (by omega), Option.bind_some, if_pos (by omega), i1, ce]
      have o : ∀ k i, k ≠ 3 → (gw1 s 3 (9 * g + j) (sg (fun x => GV f R C g x j) 8)).1 k i = s.1 k i := fun k i h1 => by rw [gw1_1, if_neg (fun t => h1 t.1)]
      obtain ⟨u, u1, u2, u3, u4⟩ := ih (j + 1) (x + sg (fun x => GV f R C g x j) 8) (gw1 s 3 (9 * g + j) (sg (fun x => GV f R C g x j) 8)) (by omega) (by omega) (MV_o (fun k i q1 q2 _ => o k i (by omega)) V)
      refine ⟨u, ?_, u2, fun k i h1 => (u3 k i h1).trans (o k i h1), fun i => ?_⟩
      · have e : sg (fun z => sg (fun x => GV f R C g x z) 8) (j + 1) = sg (fun z => sg (fun x => GV f R C g x z) 8) j + sg (fun x => GV f R C g x j) 8 := rfl
        rw [e] at u1
        show gm_122_12 m g (71 + 48 * g) (x + sg (fun x => GV f R C g x j) 8) ((j + 1 : Nat) : Int) (gw1 s 3 (9 * g + j) (sg (fun x => GV f R C g x j) 8)) = _
        rw [u1]
        congr 2
        omega
      · rw [u4, gw1_1]
        by_cases z : i = 9 * g + j
        · rw [if_neg (by omega), if_pos ⟨rfl, z⟩, if_pos (by omega), z, show 9 * g + j - 9 * g = j by omega]
          unfold cn
          rw [if_neg q, Int.add_zero]
        · by_cases z2 : 9 * g + (j + 1) ≤ i ∧ i < 9 * g + 9
          · rw [if_pos z2, if_pos (by omega)]
          · rw [if_neg z2, if_neg (fun t => z t.2), if_neg (by omega)]
/-- all who are moved into zones -/
def inz (f : Nat → Int) (R C g : Nat) : Int := sg (fun z => sg (fun x => GV f R C g x z) 8) 8
theorem sl_93_44 {f : Nat → Int} {R C : Nat} : ∀ (m j : Nat) (x : Int) (s : gx_S), 3 < m + j → j ≤ 3 → (∀ g, g < 3 → MV s f R C g) → ∃ u : gx_S, gm_93_44 m x j s = some (x + (sg (inz f R C) 3 - sg (inz f R C) j), gcp u 2 96 2 0 96) ∧ u.2 = s.2 ∧ (∀ k i, k ≠ 3 → u.1 k i = s.1 k i) ∧ ∀ i, u.1 3 i = if 9 * j ≤ i ∧ i < 27 then cn f R C (i / 9) (i % 9) else s.1 3 i := by
  intro m
  induction m with
  | zero => intro j x s h; omega
  | succ m ih =>
    intro j x s h hj V
    rw [gm_93_44, if_pos (by omega)]
    by_cases q : j = 3
    · rw [if_pos (by omega)]
      refine ⟨s, ?_, rfl, fun _ _ _ => rfl, fun i => by rw [if_neg (by omega)]⟩
      rw [q, Int.sub_self, Int.add_zero]
    · have hj' : j < 3 := by omega
      have ce : ((j : Int) + 1) = ((j + 1 : Nat) : Int) := rfl
      have i5 : ((j : Int)).toNat = j := by omega
      obtain ⟨t, t1, t2, t3, t4⟩ := sl_122 hj' 100000 0 0 s (by omega) (by omega) (V j hj')
      have t1 : gm_122_12 100000 j (71 + 48 * j) 0 0 s = some (0 + (inz f R C j - 0), t) := t1
      have st : gm_122 j s = some (inz f R C j, t) := by
        unfold gm_122
        rw [if_pos (by omega), i5, rf70 j hj', Option.bind_some, t1]
        congr 2
        omega
      rw [if_neg (by omega), st, Option.bind_some, ce]
      obtain ⟨u, u1, u2, u3, u4⟩ := ih (j + 1) (x + inz f R C j) t (by omega) (by omega) fun g hg => MV_o (fun k i q1 q2 _ => t3 k i (by omega)) (V g hg)
      refine ⟨u, ?_, u2.trans t2, fun k i h1 => (u3 k i h1).trans (t3 k i h1), fun i => ?_⟩
      · have e : sg (inz f R C) (j + 1) = sg (inz f R C) j + inz f R C j := rfl
        rw [e] at u1
        show gm_93_44 m (x + inz f R C j) ((j + 1 : Nat) : Int) t = _
        rw [u1]
        congr 2
        omega
      · rw [u4, t4]
        by_cases z : 9 * (j + 1) ≤ i ∧ i < 27
        · rw [if_pos z, if_pos (by omega)]
        · rw [if_neg z]
          by_cases z2 : 9 * j + 0 ≤ i ∧ i < 9 * j + 9
          · rw [if_pos z2, if_pos (by omega), show i / 9 = j by omega, show i % 9 = i - 9 * j by omega]
          · rw [if_neg z2, if_neg (by omega)]
theorem sp_176 {s : gx_S} {R C g : Nat} (M : MP (s.1 216) R C) (hg : g < 3) : gm_176 g s = some (ASf (s.1 216) R C g, s) := by
  obtain ⟨v, v1, v2⟩ := sp_175 M
  unfold gm_176 ASf
  rw [v1, Option.bind_some]
  cases v with
  | true => rw [if_neg (show ¬ gb (true, s).1 = 0 from (by decide : ¬ gb true = 0)), if_pos (v2.mp rfl)]
  | false =>
    rw [if_pos (show gb (false, s).1 = 0 from (by decide : gb false = 0)), if_neg (fun h => Bool.false_ne_true (v2.mpr h))]
    show ((gm_174 g s).bind _) = _
    rw [sp_174 M hg, Option.bind_some]
/-- the reference's cells of what is adopted alone, beside its scratch -/
theorem KR_245 (s : gx_S) (i : Nat) (v : Int) : KRw s (gw1 s 245 i v) := by
  have o : ∀ k j, k ≠ 245 → (gw1 s 245 i v).1 k j = s.1 k j := fun k j h => by rw [gw1_1, if_neg (fun t => h t.1)]
  refine ⟨fun k j q => o k j (by omega), fun _ _ _ => rfl, fun S => ⟨fun j hj => ?_, fun c hc => ?_, S.2.2⟩⟩
  · rw [o 232 j (by decide), o 233 j (by decide), o 234 j (by decide)]
    exact S.1 j hj
  · rw [o 235 c (by decide)]
    exact S.2.1 c hc
theorem sl_217_29 {f : Nat → Int} {R C g : Nat} (k : Int → Int → gx_S → Option (Int × gx_S)) (M : MP f R C) (hg : g < 3) : ∀ (m j : Nat) (x : Int) (s : gx_S), 9 < m + j → j ≤ 9 → s.1 216 = f → s.1 215 17 = 8 → (∀ x y, x < 8 → y < 9 → s.2 224 (9 * x + y) = GV f R C g x y) → (∀ z, z < j → s.1 245 (9 * g + z) = sg (fun x => GV f R C g x z) 8) → ∃ u : gx_S, gm_217_29 k m x g j s = k (x + (inz f R C g - sg (fun z => if z < 8 then sg (fun x => GV f R C g x z) 8 else 0) j)) ((g + 1 : Nat) : Int) u ∧ KRw s u ∧ (∀ z, z < 9 → u.1 245 (9 * g + z) = cn f R C g z) ∧ ∀ i, ¬ (9 * g ≤ i ∧ i < 9 * g + 9) → u.1 245 i = s.1 245 i := by
  intro m
  induction m with
  | zero => intro j x s h; omega
  | succ m ih =>
    intro j x s h hj ef e17 hT hz
    have col : ∀ (t : gx_S) (y : Nat), t.1 215 17 = 8 → t.2 = s.2 → y < 9 → gm_183 y t = some (sg (fun x => GV f R C g x y) 8, t) := fun t y e1 e2 hy => by
      rw [sp_183 (R := 8) e1 (by omega) hy, sg_eq (g := fun x => GV f R C g x y) fun x hx => by rw [e2]; exact hT x y hx hy]
    rw [gm_217_29, if_pos (by omega)]
    by_cases q : j = 9
    · have i1 : ((9 * (g : Int)) + 8).toNat = 9 * g + 8 := by omega
      have ce : ((g : Int) + 1) = ((g + 1 : Nat) : Int) := rfl
      have c76 := sp_176 (s := s) (R := R) (C := C) (by rw [ef]; exact M) hg
      rw [ef] at c76
      rw [if_pos (by omega), if_pos (by omega), c76, Option.bind_some, i1, ce, hz 8 (by omega)]
      refine ⟨gw1 s 245 (9 * g + 8) (sg (fun x => GV f R C g x 8) 8 + ASf f R C g), ?_, KR_245 s _ _, fun z hz' => ?_, fun i hi => by rw [gw1_1, if_neg (by omega)]⟩
      · have e : sg (fun z => if z < 8 then sg (fun x => GV f R C g x z) 8 else 0) 9 = inz f R C g := by
          rw [sg_cut0 (m := 8) (by omega) fun k h1 h2 => if_neg (by omega)]
          exact sg_eq fun z hz => if_pos hz
        rw [q, e, Int.sub_self, Int.add_zero]
      · unfold cn
        rw [gw1_1]
        by_cases z8 : z = 8
        · rw [if_pos ⟨rfl, by omega⟩, if_pos z8, z8]
        · rw [if_neg (by omega), if_neg z8, Int.add_zero]
          exact hz z (by omega)
    · have ce : ((j : Int) + 1) = ((j + 1 : Nat) : Int) := rfl
      have i1 : ((9 * (g : Int)) + (j : Int)).toNat = 9 * g + j := by omega
      rw [if_neg (by omega), col s j e17 rfl (by omega), Option.bind_some, if_pos (by omega), i1]
      obtain ⟨t, ht⟩ : ∃ t, t = gw1 s 245 (9 * g + j) (sg (fun x => GV f R C g x j) 8) := ⟨_, rfl⟩
      have to : ∀ k i, ¬ (k = 245 ∧ i = 9 * g + j) → t.1 k i = s.1 k i := fun k i h1 => by rw [ht, gw1_1, if_neg h1]
      have t2 : t.2 = s.2 := by rw [ht]; rfl
      have tk : KRw s t := by rw [ht]; exact KR_245 s _ _
      have tz : ∀ z, z < j + 1 → t.1 245 (9 * g + z) = sg (fun x => GV f R C g x z) 8 := fun z hz' => by
        by_cases e : z = j
        · rw [ht, e, gw1_1, if_pos ⟨rfl, rfl⟩]
        · rw [to _ _ (by omega)]
          exact hz z (by omega)
      have sgs : sg (fun z => if z < 8 then sg (fun x => GV f R C g x z) 8 else 0) (j + 1) = sg (fun z => if z < 8 then sg (fun x => GV f R C g x z) 8 else 0) j + if j < 8 then sg (fun x => GV f R C g x j) 8 else 0 := rfl
      have go : ∀ v : Int, v = (if j < 8 then sg (fun x => GV f R C g x j) 8 else 0) → ∃ u : gx_S, gm_217_67 (gm_217_29 k m) g j x v t = k (x + (inz f R C g - sg (fun z => if z < 8 then sg (fun x => GV f R C g x z) 8 else 0) j)) ((g + 1 : Nat) : Int) u ∧ KRw s u ∧ (∀ z, z < 9 → u.1 245 (9 * g + z) = cn f R C g z) ∧ ∀ i, ¬ (9 * g ≤ i ∧ i < 9 * g + 9) → u.1 245 i = s.1 245 i := fun v hv => by
        unfold gm_217_67
        rw [ce]
        obtain ⟨u, u1, u2, u3, u4⟩ := ih (j + 1) (x + v) t (by omega) (by omega) ((KRw_216 tk).trans ef) ((to _ _ (by omega)).trans e17) (fun x y hx hy => by rw [t2]; exact hT x y hx hy) tz
        refine ⟨u, ?_, KRw_tr tk u2, u3, fun i hi => (u4 i hi).trans (to _ _ (by omega))⟩
        rw [u1, sgs, ← hv]
        congr 1
        omega
      show ∃ u : gx_S, (if 8 ≤ (j : Int) then gm_217_67 (gm_217_29 k m) g j x 0 (gw1 s 245 (9 * g + j) (sg (fun x => GV f R C g x j) 8)) else ((gm_183 j (gw1 s 245 (9 * g + j) (sg (fun x => GV f R C g x j) 8))).bind fun q17 => gm_217_67 (gm_217_29 k m) g j x q17.1 q17.2)) = _ ∧ _
      rw [← ht]
      by_cases z8 : j = 8
      · rw [if_pos (by omega)]
        exact go 0 (by rw [if_neg (by omega)])
      · rw [if_neg (by omega), col t j ((to _ _ (by omega)).trans e17) t2 (by omega), Option.bind_some]
        exact go _ (by rw [if_pos (by omega)])
theorem sl_217_13 {f : Nat → Int} {R C : Nat} (M : MP f R C) (h7 : f 2 = 7) : ∀ (m j : Nat) (x : Int) (s : gx_S), 3 < m + j → j ≤ 3 → s.1 216 = f → SC s → (∀ g z, g < j → z < 9 → s.1 245 (9 * g + z) = cn f R C g z) → ∃ u : gx_S, gm_217_13 m x j s = ((gm_132 u).bind fun q4 => gm_217_107 100000 (x + (sg (inz f R C) 3 - sg (inz f R C) j)) 0 q4) ∧ KRw s u ∧ ∀ g z, g < 3 → z < 9 → u.1 245 (9 * g + z) = cn f R C g z := by
  intro m
  induction m with
  | zero => intro j x s h; omega
  | succ m ih =>
    intro j x s h hj ef S hz
    rw [gm_217_13, if_pos (by omega)]
    by_cases q : j = 3
    · rw [if_pos (by omega), q, Int.sub_self, Int.add_zero]
      exact ⟨s, rfl, KRw_rf s, fun g z hg hz' => hz g z (by omega) hz'⟩
    · have hj' : j < 3 := by omega
      obtain ⟨a, b, a1, b1, a2, b2, b3, b4, b5⟩ := sp_181f (s := s) (R := R) (C := C) (g := j) (by rw [ef]; exact M) (by rw [ef]; exact h7) hj' S
      rw [ef] at b5
      have bo : ∀ i, b.1 245 i = s.1 245 i := fun i => b2.1 245 i (by omega)
      rw [if_neg (by omega), a1, Option.bind_some, b1, Option.bind_some]
      obtain ⟨t, t1, t2, t3, t4⟩ := sl_217_29 (gm_217_13 m) M hj' 100000 0 x b (by omega) (by omega) ((KR_216 b2).trans ef) b3 (fun x y hx hy => ((b5 x hx).2.2 y hy).2) fun z hz => absurd hz (by omega)
      have t1 : gm_217_29 (gm_217_13 m) 100000 x j 0 b = gm_217_13 m (x + (inz f R C j - 0)) ((j + 1 : Nat) : Int) t := t1
      rw [t1]
      have Kt := KRw_tr (KR_w b2) t2
      obtain ⟨u, u1, u2, u3⟩ := ih (j + 1) (x + (inz f R C j - 0)) t (by omega) (by omega) ((KRw_216 Kt).trans ef) (Kt.2.2 S) fun g z hg hz' => by
        by_cases e : g = j
        · rw [e]
          exact t3 z hz'
        · rw [t4 _ (by omega), bo]
          exact hz g z (by omega) hz'
      refine ⟨u, ?_, KRw_tr Kt u2, u3⟩
      have e : sg (inz f R C) (j + 1) = sg (inz f R C) j + inz f R C j := rfl
      have e2 : x + (inz f R C j - 0) + (sg (inz f R C) 3 - sg (inz f R C) (j + 1)) = x + (sg (inz f R C) 3 - sg (inz f R C) j) := by rw [e]; omega
      rw [e2] at u1
      exact u1
