/-! BOTH SIDES beside one map, one past, one tape -/
def HRf (s : gx_S) (n : Nat) (pf : Nat → Nat → Int) : Prop := s.1 215 2 = n ∧ ∀ k, k < n → ∀ i, i < 340 → s.1 217 (340 * k + i) = pf k i
theorem sl_132_54 {n : Nat} (hn : n < 8) : ∀ (m j : Nat) (s : gx_S), 340 < m + j → j ≤ 340 → s.1 215 2 = n → ∃ u : gx_S, gm_132_54 m j s = some u ∧ u.2 = s.2 ∧ (∀ k i, k ≠ 217 → ¬ (k = 215 ∧ i = 2) → u.1 k i = s.1 k i) ∧ u.1 215 2 = ((n + 1 : Nat) : Int) ∧ ∀ i, u.1 217 i = if 340 * n + j ≤ i ∧ i < 340 * n + 340 then s.1 216 (i - 340 * n) else s.1 217 i := by
  intro m
  induction m with
  | zero => intro j s h; omega
  | succ m ih =>
    intro j s h hj e
    rw [gm_132_54, if_pos (by omega)]
    by_cases q : j = 340
    · rw [if_pos (by omega), e]
      refine ⟨gw1 s 215 2 ((n : Int) + 1), rfl, rfl, fun k i h1 h2 => by rw [gw1_1, if_neg h2], by rw [gw1_1, if_pos ⟨rfl, rfl⟩]; rfl, fun i => ?_⟩
      rw [if_neg (by omega), gw1_1, if_neg (by omega)]
    · have ce : ((j : Int) + 1) = ((j + 1 : Nat) : Int) := rfl
      have i5 : ((j : Int)).toNat = j := by omega
      have i6 : ((340 * (n : Int)) + (j : Int)).toNat = 340 * n + j := by omega
      rw [if_neg (by omega), if_pos (by omega), e, if_pos (by omega), i5, i6, ce]
      obtain ⟨u, u1, u2, u3, u4, u5⟩ := ih (j + 1) (gw1 s 217 (340 * n + j) (s.1 216 j)) (by omega) (by omega) (by rw [gw1_1, if_neg (by omega)]; exact e)
      refine ⟨u, u1, u2, fun k i h1 h2 => by rw [u3 k i h1 h2, gw1_1, if_neg (fun x => h1 x.1)], u4, fun i => ?_⟩
      rw [u5]
      by_cases z : i = 340 * n + j
      · rw [if_neg (show ¬ (340 * n + (j + 1) ≤ i ∧ i < 340 * n + 340) by omega), gw1_1, if_pos ⟨rfl, z⟩, if_pos (show 340 * n + j ≤ i ∧ i < 340 * n + 340 by omega), z, show 340 * n + j - 340 * n = j by omega]
      · by_cases z2 : 340 * n + (j + 1) ≤ i ∧ i < 340 * n + 340
        · rw [if_pos z2, if_pos (show 340 * n + j ≤ i ∧ i < 340 * n + 340 by omega), gw1_1, if_neg (by omega)]
        · rw [if_neg z2, if_neg (show ¬ (340 * n + j ≤ i ∧ i < 340 * n + 340) by omega), gw1_1, if_neg (fun x => z x.2)]
theorem sl_132_13 : ∀ (m j : Nat) (s : gx_S), 2720 < m + j → 340 ≤ j → j ≤ 2720 → ∃ u : gx_S, gm_132_13 m j s = gm_132_52 (gw1 u 215 2 (u.1 215 2 - 1)) ∧ u.2 = s.2 ∧ (∀ k i, k ≠ 217 → u.1 k i = s.1 k i) ∧ ∀ i, u.1 217 i = if j ≤ i + 340 ∧ i < 2380 then s.1 217 (i + 340) else s.1 217 i := by
  intro m
  induction m with
  | zero => intro j s h; omega
  | succ m ih =>
    intro j s h h3 hj
    rw [gm_132_13, if_pos (by omega)]
    by_cases q : j = 2720
    · rw [if_pos (by omega)]
      exact ⟨s, rfl, rfl, fun _ _ _ => rfl, fun i => by rw [if_neg (by omega)]⟩
    · have ce : ((j : Int) + 1) = ((j + 1 : Nat) : Int) := rfl
      have i5 : ((j : Int)).toNat = j := by omega
      have i6 : ((j : Int) - 340).toNat = j - 340 := by omega
      rw [if_neg (by omega), if_pos (by omega), if_pos (by omega), i5, i6, ce]
      obtain ⟨u, u1, u2, u3, u4⟩ := ih (j + 1) (gw1 s 217 (j - 340) (s.1 217 j)) (by omega) (by omega) (by omega)
      refine ⟨u, u1, u2, fun k i h1 => by rw [u3 k i h1, gw1_1, if_neg (fun x => h1 x.1)], fun i => ?_⟩
      rw [u4]
      by_cases z : i + 340 = j
      · rw [if_neg (show ¬ (j + 1 ≤ i + 340 ∧ i < 2380) by omega), gw1_1, if_pos ⟨rfl, by omega⟩, if_pos (show j ≤ i + 340 ∧ i < 2380 by omega), z]
      · by_cases z2 : j + 1 ≤ i + 340 ∧ i < 2380
        · rw [if_pos z2, if_pos (show j ≤ i + 340 ∧ i < 2380 by omega), gw1_1, if_neg (by omega)]
        · rw [if_neg z2, if_neg (show ¬ (j ≤ i + 340 ∧ i < 2380) by omega), gw1_1, if_neg (by omega)]
theorem sp_132 {s : gx_S} {n : Nat} {pf : Nat → Nat → Int} (hn : n ≤ 8) (H : HRf s n pf) : ∃ u : gx_S, gm_132 s = some u ∧ u.2 = s.2 ∧ (∀ k i, k ≠ 217 → ¬ (k = 215 ∧ i = 2) → u.1 k i = s.1 k i) ∧ HRf u (nn n) (pn n pf (s.1 216)) := by
  obtain ⟨e, hk⟩ := H
  unfold gm_132
  rw [e, if_pos (by omega)]
  by_cases z : n < 8
  · rw [if_pos (by omega)]
    obtain ⟨u, u1, u2, u3, u4, u5⟩ := sl_132_54 z 100000 0 s (by omega) (by omega) e
    have u1 : gm_132_54 100000 0 s = some u := u1
    unfold gm_132_52 nn
    rw [if_pos z]
    refine ⟨u, u1, u2, u3, u4, fun k hk' i hi => ?_⟩
    unfold pn
    rw [if_pos z, u5]
    by_cases q : k = n
    · rw [if_pos (by omega), if_pos q, q, show 340 * n + i - 340 * n = i by omega]
    · rw [if_neg (by omega), if_neg q]
      exact hk k (by omega) i hi
  · rw [if_neg (by omega)]
    have e8 : n = 8 := by omega
    obtain ⟨a, a1, a2, a3, a4⟩ := sl_132_13 100000 340 s (by omega) (by omega) (by omega)
    have a1 : gm_132_13 100000 340 s = _ := a1
    have ae : a.1 215 2 = 8 := by rw [a3 215 2 (by decide), e, e8]; rfl
    obtain ⟨b, hb⟩ : ∃ b, b = gw1 a 215 2 (a.1 215 2 - 1) := ⟨_, rfl⟩
    have b7 : b.1 215 2 = ((7 : Nat) : Int) := by rw [hb, gw1_1, if_pos ⟨rfl, rfl⟩, ae]; rfl
    have bk : ∀ k i, ¬ (k = 215 ∧ i = 2) → b.1 k i = a.1 k i := fun k i q => by rw [hb, gw1_1, if_neg q]
    obtain ⟨u, u1, u2, u3, u4, u5⟩ := sl_132_54 (n := 7) (by omega) 100000 0 b (by omega) (by omega) b7
    have u1 : gm_132_54 100000 0 b = some u := u1
    rw [a1, ← hb]
    unfold gm_132_52 nn
    rw [if_neg z]
    refine ⟨u, u1, by rw [u2, hb]; exact a2, fun k i h1 h2 => by rw [u3 k i h1 h2, bk k i h2, a3 k i h1], u4, fun k hk' i hi => ?_⟩
    unfold pn
    rw [if_neg z, u5]
    by_cases q : k = 7
    · rw [if_pos (by omega), if_pos q, bk 216 _ (by omega), a3 216 _ (by decide), show 340 * k + i - 340 * 7 = i by omega]
    · rw [if_neg (by omega), if_neg q, bk 217 _ (by omega), a4, if_pos (by omega)]
      rw [← hk (k + 1) (by omega) i hi, show 340 * k + i + 340 = 340 * (k + 1) + i by omega]
theorem sl_133_21 {n : Nat} (hn : n < 8) : ∀ (m j : Nat) (s : gx_S), 340 < m + j → j ≤ 340 → s.1 215 2 = n → ∃ u : gx_S, gm_133_21 m j s = some ((n : Int), u) ∧ u.2 = s.2 ∧ (∀ k i, k ≠ 216 → u.1 k i = s.1 k i) ∧ ∀ i, u.1 216 i = if j ≤ i ∧ i < 340 then s.1 217 (340 * n + i) else s.1 216 i := by
  intro m
  induction m with
  | zero => intro j s h; omega
  | succ m ih =>
    intro j s h hj e
    rw [gm_133_21, if_pos (by omega)]
    by_cases q : j = 340
    · rw [if_pos (by omega), e]
      exact ⟨s, rfl, rfl, fun _ _ _ => rfl, fun i => by rw [if_neg (by omega)]⟩
    · have ce : ((j : Int) + 1) = ((j + 1 : Nat) : Int) := rfl
      have i5 : ((j : Int)).toNat = j := by omega
      have i6 : ((340 * (n : Int)) + (j : Int)).toNat = 340 * n + j := by omega
      rw [if_neg (by omega), e, if_pos (by omega), if_pos (by omega), i5, i6, ce]
      obtain ⟨u, u1, u2, u3, u4⟩ := ih (j + 1) (gw1 s 216 j (s.1 217 (340 * n + j))) (by omega) (by omega) (by rw [gw1_1, if_neg (by omega)]; exact e)
      refine ⟨u, u1, u2, fun k i h1 => by rw [u3 k i h1, gw1_1, if_neg (fun x => h1 x.1)], fun i => ?_⟩
      rw [u4]
      by_cases z : i = j
      · rw [if_neg (show ¬ (j + 1 ≤ i ∧ i < 340) by omega), gw1_1, if_pos ⟨rfl, z⟩, if_pos (show j ≤ i ∧ i < 340 by omega), z]
      · by_cases z2 : j + 1 ≤ i ∧ i < 340
        · rw [if_pos z2, if_pos (show j ≤ i ∧ i < 340 by omega), gw1_1, if_neg (by omega)]
        · rw [if_neg z2, if_neg (show ¬ (j ≤ i ∧ i < 340) by omega), gw1_1, if_neg (fun x => z x.2)]
theorem sp_133 {s : gx_S} {n : Nat} {pf : Nat → Nat → Int} (hn : n ≤ 8) (h0 : 0 < n) (H : HRf s n pf) : ∃ u : gx_S, gm_133 s = some (((n - 1 : Nat) : Int), u) ∧ u.2 = s.2 ∧ (∀ k i, k ≠ 216 → ¬ (k = 215 ∧ i = 2) → u.1 k i = s.1 k i) ∧ (∀ i, i < 340 → u.1 216 i = pf (n - 1) i) ∧ HRf u (n - 1) pf := by
  obtain ⟨e, hk⟩ := H
  obtain ⟨a, ha⟩ : ∃ a, a = gw1 s 215 2 (((n - 1 : Nat) : Int)) := ⟨_, rfl⟩
  have a2 : a.1 215 2 = ((n - 1 : Nat) : Int) := by rw [ha, gw1_1, if_pos ⟨rfl, rfl⟩]
  have ak : ∀ k i, ¬ (k = 215 ∧ i = 2) → a.1 k i = s.1 k i := fun k i q => by rw [ha, gw1_1, if_neg q]
  obtain ⟨u, u1, u2, u3, u4⟩ := sl_133_21 (n := n - 1) (by omega) 100000 0 a (by omega) (by omega) a2
  have u1 : gm_133_21 100000 0 a = _ := u1
  refine ⟨u, ?_, by rw [u2, ha]; rfl, fun k i h1 h2 => by rw [u3 k i h1, ak k i h2], fun i hi => ?_, ?_, fun k hk' i hi => ?_⟩
  · unfold gm_133
    rw [e, if_pos (by omega), if_pos (by omega), show (n : Int) - 1 = ((n - 1 : Nat) : Int) by omega, ← ha, u1]
  · rw [u4, if_pos ⟨by omega, hi⟩, ak 217 _ (by omega)]
    exact hk (n - 1) (by omega) i hi
  · rw [u3 215 2 (by decide), a2]
  · rw [u3 217 _ (by decide), ak 217 _ (by omega)]
    exact hk k (by omega) i hi
/-- the class's side -/
def CV (s : gx_S) (f : Nat → Int) (R C n : Nat) (pf : Nat → Nat → Int) (L : Nat) (tb : Nat → Int) : Prop := MR s 1 f R C ∧ (∀ g, g < 3 → ∃ D, GGD s f R C g (71 + 48 * g) D) ∧ HC s n pf ∧ s.1 14 1 = L ∧ ∀ i, i < L → s.1 15 i = tb i
/-- the class's side behind an act -/
def CW (s : gx_S) (f : Nat → Int) (R C n : Nat) (pf : Nat → Nat → Int) (L : Nat) (tb : Nat → Int) : Prop := MR s 1 f R C ∧ G0 s ∧ HC s n pf ∧ s.1 14 1 = L ∧ ∀ i, i < L → s.1 15 i = tb i
/-- the reference's side -/
def RV (s : gx_S) (f : Nat → Int) (n : Nat) (pf : Nat → Nat → Int) (L : Nat) (tb : Nat → Int) : Prop := s.1 216 = f ∧ HRf s n pf ∧ s.1 215 4 = L ∧ (∀ i, i < L → (Int32.ofInt (s.1 218 i) &&& Int32.ofInt 255).toInt = tb i) ∧ SC s
/-- the map and the tape themselves -/
def AV (f : Nat → Int) (R C L : Nat) (tb : Nat → Int) : Prop := MP f R C ∧ L ≤ 200 ∧ ∀ i, i < L → 0 ≤ tb i ∧ tb i ≤ 255
def INV (s : gx_S) : Prop := ∃ (f : Nat → Int) (R C n : Nat) (pf : Nat → Nat → Int) (L : Nat) (tb : Nat → Int), CV s f R C n pf L tb ∧ RV s f n pf L tb ∧ AV f R C L tb
/-- only the class's cells change; only the reference's -/
def KC (s u : gx_S) : Prop := (∀ k j, 215 ≤ k → u.1 k j = s.1 k j) ∧ ∀ k j, 215 ≤ k → u.2 k j = s.2 k j
def KF (s u : gx_S) : Prop := (∀ k j, k < 215 → u.1 k j = s.1 k j) ∧ ∀ k j, k < 215 → u.2 k j = s.2 k j
theorem KC_tr {s t u : gx_S} (a : KC s t) (b : KC t u) : KC s u := ⟨fun k j h => (b.1 k j h).trans (a.1 k j h), fun k j h => (b.2 k j h).trans (a.2 k j h)⟩
theorem KF_tr {s t u : gx_S} (a : KF s t) (b : KF t u) : KF s u := ⟨fun k j h => (b.1 k j h).trans (a.1 k j h), fun k j h => (b.2 k j h).trans (a.2 k j h)⟩
theorem KC_rf (s : gx_S) : KC s s := ⟨fun _ _ _ => rfl, fun _ _ _ => rfl⟩
theorem KF_rf (s : gx_S) : KF s s := ⟨fun _ _ _ => rfl, fun _ _ _ => rfl⟩
theorem KR_KF {s u : gx_S} (a : KRw s u) : KF s u := ⟨fun k j h => a.1 k j (.inl h), a.2.1⟩
theorem KG_KC {a : Nat} {s u : gx_S} (ha : ga a) (x : KG a s u) : KC s u := ⟨fun k j h => x.2 k j (by omega) (by have := ha.2.1; omega), fun k j _ => by rw [x.1]⟩
theorem HC_o {s u : gx_S} {n : Nat} {pf : Nat → Nat → Int} (o : ∀ k j, 16 ≤ k → k ≤ 57 → u.1 k j = s.1 k j) (h : HC s n pf) : HC u n pf := by
  obtain ⟨h1, p, h2, h3, h4, h5⟩ := h
  refine ⟨h1, p, h2, (o _ _ (by omega) (by omega)).trans h3, (o _ _ (by omega) (by omega)).trans h4, fun k hk => ?_⟩
  obtain ⟨R, C, x, y⟩ := h5 k hk
  exact ⟨R, C, x, MR_o (fun k' j q1 q2 => o k' j (by omega) (by omega)) y⟩
theorem GGD_o {s u : gx_S} {f : Nat → Int} {R C g a D : Nat} (o : ∀ k j, a ≤ k → k < a + 48 → u.1 k j = s.1 k j) (h : GGD s f R C g a D) : GGD u f R C g a D := by
  obtain ⟨h1, h2, h3, g1, g2, g4, g8, g16, g32⟩ := h
  refine ⟨h1, (o _ _ (by omega) (by omega)).trans h2, (o _ _ (by omega) (by omega)).trans h3, fun h => ?_, fun h => ⟨(g2 h).1, TM_o (fun k j q1 q2 => o k j (by omega) (by omega)) (g2 h).2⟩, fun h => TR_o (fun k j q1 q2 => o k j (by omega) (by omega)) (g4 h), fun h => ⟨(g8 h).1, TR_o (fun k j q1 q2 => o k j (by omega) (by omega)) (g8 h).2⟩, fun h => TR_o (fun k j q1 q2 => o k j (by omega) (by omega)) (g16 h), fun h => ⟨(g32 h).1, fun k hk => by rw [o _ _ (by omega) (by omega)]; exact (g32 h).2 k hk⟩⟩
  obtain ⟨x1, x2, x3⟩ := g1 h
  exact ⟨fun z hz => (o _ _ (by omega) (by omega)).trans (x1 z hz), (o _ _ (by omega) (by omega)).trans x2, (o _ _ (by omega) (by omega)).trans x3⟩
theorem CV_o {s u : gx_S} {f : Nat → Int} {R C n L : Nat} {pf : Nat → Nat → Int} {tb : Nat → Int} (o : ∀ k j, (1 ≤ k ∧ k ≤ 5) ∨ (14 ≤ k ∧ k ≤ 57) ∨ (71 ≤ k ∧ k < 215) → u.1 k j = s.1 k j) (h : CV s f R C n pf L tb) : CV u f R C n pf L tb := by
  obtain ⟨h1, h2, h3, h4, h5⟩ := h
  refine ⟨MR_o (fun k j q1 q2 => o k j (by omega)) h1, fun g hg => ?_, HC_o (fun k j q1 q2 => o k j (by omega)) h3, (o _ _ (by omega)).trans h4, fun i hi => (o _ _ (by omega)).trans (h5 i hi)⟩
  obtain ⟨D, x⟩ := h2 g hg
  exact ⟨D, GGD_o (fun k j q1 q2 => o k j (by omega)) x⟩
theorem CV_KF {s u : gx_S} {f : Nat → Int} {R C n L : Nat} {pf : Nat → Nat → Int} {tb : Nat → Int} (k : KF s u) (h : CV s f R C n pf L tb) : CV u f R C n pf L tb := CV_o (fun k' j q => k.1 k' j (by omega)) h
theorem RV_KC {s u : gx_S} {f : Nat → Int} {n L : Nat} {pf : Nat → Nat → Int} {tb : Nat → Int} (k : KC s u) (h : RV s f n pf L tb) : RV u f n pf L tb := by
  obtain ⟨h1, ⟨h2, h3⟩, h4, h5, h6⟩ := h
  refine ⟨?_, ⟨(k.1 _ _ (by omega)).trans h2, fun k' hk i hi => (k.1 _ _ (by omega)).trans (h3 k' hk i hi)⟩, (k.1 _ _ (by omega)).trans h4, fun i hi => by rw [k.1 218 i (by omega)]; exact h5 i hi, ⟨fun j hj => ?_, fun c hc => ?_, fun i hi => ?_⟩⟩
  · funext i
    rw [k.1 216 i (by omega), h1]
  · rw [k.1 232 j (by omega), k.1 233 j (by omega), k.1 234 j (by omega), k.2 225 j (by omega)]
    exact h6.1 j hj
  · rw [k.1 235 c (by omega), k.2 229 c (by omega), k.2 230 c (by omega), k.2 227 c (by omega), k.2 228 c (by omega)]
    exact h6.2.1 c hc
  · rw [k.2 231 i (by omega)]
    exact h6.2.2 i hi
theorem RV_KR {s u : gx_S} {f : Nat → Int} {n L : Nat} {pf : Nat → Nat → Int} {tb : Nat → Int} (k : KRw s u) (h : RV s f n pf L tb) : RV u f n pf L tb := by
  obtain ⟨h1, ⟨h2, h3⟩, h4, h5, h6⟩ := h
  exact ⟨(KRw_216 k).trans h1, ⟨(k.1 215 2 (by omega)).trans h2, fun k' hk i hi => (k.1 217 _ (by omega)).trans (h3 k' hk i hi)⟩, (k.1 215 4 (by omega)).trans h4, fun i hi => by rw [k.1 218 i (by omega)]; exact h5 i hi, k.2.2 h6⟩
theorem CW_CV {s : gx_S} {f f' : Nat → Int} {R C n L : Nat} {pf : Nat → Nat → Int} {tb : Nat → Int} (M : MP f R C) (e : ∀ i, i < 340 → f' i = f i) (h : CW s f R C n pf L tb) : CV s f' R C n pf L tb := by
  obtain ⟨h1, h2, h3, h4, h5⟩ := h
  refine ⟨MR_c M.1.2.2.1 M.1.2.2.2 e h1, fun g hg => ⟨0, by omega, (h2 g hg).1, (h2 g hg).2, fun h => absurd h (by decide), fun h => absurd h (by decide), fun h => absurd h (by decide), fun h => absurd h (by decide), fun h => absurd h (by decide), fun h => absurd h (by decide)⟩, h3, h4, h5⟩
theorem CW_KF {s u : gx_S} {f : Nat → Int} {R C n L : Nat} {pf : Nat → Nat → Int} {tb : Nat → Int} (k : KF s u) (h : CW s f R C n pf L tb) : CW u f R C n pf L tb := by
  obtain ⟨h1, h2, h3, h4, h5⟩ := h
  exact ⟨MR_o (fun k' j q1 q2 => k.1 k' j (by omega)) h1, fun g hg => ⟨(k.1 _ _ (by omega)).trans (h2 g hg).1, (k.1 _ _ (by omega)).trans (h2 g hg).2⟩, HC_o (fun k' j q1 q2 => k.1 k' j (by omega)) h3, (k.1 _ _ (by omega)).trans h4, fun i hi => (k.1 _ _ (by omega)).trans (h5 i hi)⟩
/-- an act begins -/
theorem sp_119 {s : gx_S} {f : Nat → Int} {R C n L : Nat} {pf : Nat → Nat → Int} {tb : Nat → Int} (M : MP f R C) (h : CV s f R C n pf L tb) : ∃ u : gx_S, gm_119 s = some u ∧ CW u f R C (nn n) (pn n pf f) L tb ∧ u.2 = s.2 ∧ ∀ k j, ¬ (16 ≤ k ∧ k ≤ 57) → ¬ ((k = 71 ∨ k = 119 ∨ k = 167) ∧ j = 8) → u.1 k j = s.1 k j := by
  obtain ⟨h1, h2, h3, h4, h5⟩ := h
  obtain ⟨a, a1, a2, a3, a4⟩ := sp_31 h1 M h3
  obtain ⟨b, b1, b2, b3, b4, b5, b6⟩ := sp_120 a
  refine ⟨b, ?_, ⟨MR_o (fun k j q1 q2 => (b3 k j (by omega)).trans (a3 k j (by omega))) h1, fun g hg => ?_, HC_o (fun k j q1 q2 => b3 k j (by omega)) a4, ?_, fun i hi => ?_⟩, b2.trans a2, fun k j q1 q2 => (b3 k j q2).trans (a3 k j q1)⟩
  · unfold gm_119
    rw [a1, Option.bind_some, b1, Option.bind_some]
  · obtain ⟨D, x1, x2, x3, _⟩ := h2 g hg
    have e9 : b.1 (71 + 48 * g) 9 = g := by rw [b3 _ _ (by omega), a3 _ _ (by omega)]; exact x3
    refine ⟨?_, e9⟩
    rcases (show g = 0 ∨ g = 1 ∨ g = 2 by omega) with z | z | z
    · rw [z]; exact b4
    · rw [z]; exact b5
    · rw [z]; exact b6
  · rw [b3 _ _ (by omega), a3 _ _ (by omega)]
    exact h4
  · rw [b3 _ _ (by omega), a3 _ _ (by omega)]
    exact h5 i hi
/-- undo, on both sides -/
theorem inv_undo {s : gx_S} (h : INV s) : ∃ (r : Int) (u w : gx_S), gm_94 s = some (r, u) ∧ gm_133 u = some (r, w) ∧ INV w := by
  obtain ⟨f, R, C, n, pf, L, tb, c, r, v⟩ := h
  obtain ⟨c1, c2, c3, c4, c5⟩ := id c
  obtain ⟨n8, p, p8, e1, e2, e3⟩ := id c3
  unfold gm_94
  rw [e2, if_pos (by omega)]
  by_cases z : n = 0
  · rw [if_neg (by omega)]
    refine ⟨-1, s, s, rfl, ?_, f, R, C, n, pf, L, tb, c, r, v⟩
    unfold gm_133
    rw [r.2.1.1, if_pos (by omega), if_neg (by omega)]
  · rw [if_pos (by omega)]
    obtain ⟨a, a1, a2, a3, a4, a5, a6⟩ := sp_120 s
    have Ha : HC a n pf := HC_o (fun k j q1 q2 => a3 k j (by omega)) c3
    obtain ⟨b, R', C', b1, b2, b3, b4, b5, b6⟩ := sp_32 (by omega) Ha
    obtain ⟨_, p', _, _, b42, _⟩ := id b4
    have kc : KC s b := ⟨fun k j q => by rw [b3 k j (by omega) (by omega), a3 k j (by omega)], fun k j _ => by rw [b2, a2]⟩
    have rv := RV_KC kc r
    obtain ⟨w, w1, w2, w3, w4, w5⟩ := sp_133 n8 (by omega) rv.2.1
    rw [a1, Option.bind_some, b1, Option.bind_some]
    have ca : CW b (pf (n - 1)) R' C' (n - 1) pf L tb := by
      refine ⟨b6, fun g hg => ?_, b4, ?_, fun i hi => ?_⟩
      · obtain ⟨D, x1, x2, x3, _⟩ := c2 g hg
        refine ⟨?_, by rw [b3 _ _ (by omega) (by omega), a3 _ _ (by omega)]; exact x3⟩
        rw [b3 _ _ (by omega) (by omega)]
        rcases (show g = 0 ∨ g = 1 ∨ g = 2 by omega) with z | z | z
        · rw [z]; exact a4
        · rw [z]; exact a5
        · rw [z]; exact a6
      · rw [b3 _ _ (by omega) (by omega), a3 _ _ (by omega)]
        exact c4
      · rw [b3 _ _ (by omega) (by omega), a3 _ _ (by omega)]
        exact c5 i hi
    have kf : KF b w := ⟨fun k j q => w3 k j (by omega) (by omega), fun k j _ => by rw [w2]⟩
    refine ⟨((n - 1 : Nat) : Int), b, w, ?_, w1, w.1 216, R', C', n - 1, pf, L, tb, CW_CV b5 w4 (CW_KF kf ca), ⟨rfl, w5, by rw [w3 _ _ (by omega) (by omega)]; exact rv.2.2.1, fun i hi => by rw [w3 218 i (by omega) (by omega)]; exact rv.2.2.2.1 i hi, ⟨fun j hj => ?_, fun d hd => ?_, fun i hi => ?_⟩⟩, MP_c w4 b5, v.2⟩
    · rw [b42]
    · rw [w3 232 j (by omega) (by omega), w3 233 j (by omega) (by omega), w3 234 j (by omega) (by omega), w2]
      exact rv.2.2.2.2.1 j hj
    · rw [w3 235 d (by omega) (by omega), w2]
      exact rv.2.2.2.2.2.1 d hd
    · rw [w2]
      exact rv.2.2.2.2.2.2 i hi
