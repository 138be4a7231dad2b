/-! TEXTS of layers: the class's whole reading -/
theorem lyt_s (tb : Nat → Int) (L l M k p r c K w : Nat) (h : Nat → Nat → Int) : lyt tb L l M (k + 1) p r c K w h = if ¬ wr_ tb L l M p r c K w = 0 then (8 * (p : Int) + wr_ tb L l M p r c K w, r, c, h) else if ¬ lv_ l (sgn tb L p) = -1 then lyt tb L l M k (p + 1) r (c + 1) K w (up2 h r c (lv_ l (sgn tb L p))) else if sgn tb L p = 47 then lyt tb L l M k (p + 1) (r + 1) 0 1 c h else (-1, r + 1, c, h) := by
  rw [lyt]
  unfold wr_
  by_cases a : ¬ lv_ l (sgn tb L p) = -1
  · rw [if_pos a, if_pos a]
    by_cases b : w ≤ c
    · rw [if_pos b, if_pos b, if_pos (by omega)]
    · rw [if_neg b, if_neg b, if_neg (by omega), if_pos a]
  · rw [if_neg a, if_neg a]
    by_cases b : c = 0 ∨ ¬ (sgn tb L p = 47 ∨ sgn tb L p = -1)
    · rw [if_pos b, if_pos b, if_pos (by omega)]
    · rw [if_neg b, if_neg b]
      by_cases d : K = 1 ∧ c < w
      · rw [if_pos d, if_pos d, if_pos (by omega)]
      · rw [if_neg d, if_neg d]
        by_cases e : sgn tb L p = 47
        · rw [if_pos e, if_pos e]
          by_cases f : M ≤ r + 1
          · rw [if_pos f, if_pos f, if_pos (by omega)]
          · rw [if_neg f, if_neg f, if_neg (by omega), if_neg a, if_pos e]
        · rw [if_neg e, if_neg e]
          by_cases f : ¬ l = 0 ∧ r + 1 < M
          · rw [if_pos f, if_pos f, if_pos (by omega)]
          · rw [if_neg f, if_neg f, if_neg (by omega), if_neg a, if_neg e]
theorem wr_r {tb : Nat → Int} {L l M p r c K w : Nat} : (0 ≤ wr_ tb L l M p r c K w ∧ wr_ tb L l M p r c K w ≤ 4) ∧ (wr_ tb L l M p r c K w = 0 → (¬ lv_ l (sgn tb L p) = -1 → c < w) ∧ (lv_ l (sgn tb L p) = -1 → ¬ c = 0 ∧ (sgn tb L p = 47 ∨ sgn tb L p = -1) ∧ ¬ (K = 1 ∧ c < w) ∧ (sgn tb L p = 47 → r + 1 < M) ∧ (sgn tb L p = -1 → l = 0 ∨ M ≤ r + 1))) := by
  unfold wr_
  by_cases a : ¬ lv_ l (sgn tb L p) = -1
  · rw [if_pos a]
    by_cases b : w ≤ c
    · rw [if_pos b]
      exact ⟨by omega, fun h => by omega⟩
    · rw [if_neg b]
      exact ⟨by omega, fun _ => ⟨fun _ => by omega, fun h => absurd h a⟩⟩
  · rw [if_neg a]
    by_cases b : c = 0 ∨ ¬ (sgn tb L p = 47 ∨ sgn tb L p = -1)
    · rw [if_pos b]
      exact ⟨by omega, fun h => by omega⟩
    · rw [if_neg b]
      by_cases d : K = 1 ∧ c < w
      · rw [if_pos d]
        exact ⟨by omega, fun h => by omega⟩
      · rw [if_neg d]
        by_cases e : sgn tb L p = 47
        · rw [if_pos e]
          by_cases f : M ≤ r + 1
          · rw [if_pos f]
            exact ⟨by omega, fun h => by omega⟩
          · rw [if_neg f]
            exact ⟨by omega, fun _ => ⟨fun h => absurd h a, fun _ => ⟨by omega, by omega, d, fun _ => by omega, fun h => by omega⟩⟩⟩
        · rw [if_neg e]
          by_cases f : ¬ l = 0 ∧ r + 1 < M
          · rw [if_pos f]
            exact ⟨by omega, fun h => by omega⟩
          · rw [if_neg f]
            exact ⟨by omega, fun _ => ⟨fun h => absurd h a, fun _ => ⟨by omega, by omega, d, fun h => absurd h e, fun _ => by omega⟩⟩⟩
theorem LSt_58 {s u : gx_S} {l M r c K w : Nat} {h : Nat → Nat → Int} (o : ∀ k j, k = 58 ∨ k = 59 → u.1 k j = s.1 k j) (S : LSt s l M r c K w h) : LSt u l M r c K w h := by
  obtain ⟨s1, s2, s3, s4, s5, s6, s7⟩ := S
  exact ⟨(o _ _ (by omega)).trans s1, (o _ _ (by omega)).trans s2, (o _ _ (by omega)).trans s3, (o _ _ (by omega)).trans s4, (o _ _ (by omega)).trans s5, (o _ _ (by omega)).trans s6, fun i j q => (o _ _ (by omega)).trans (s7 i j q)⟩
theorem sl_34 {L l M : Nat} {tb : Nat → Int} (hl : l < 3) : ∀ (k p n r c K w : Nat) (h : Nat → Nat → Int) (s : gx_S), L < p + k → p ≤ L → k < n → TC s L tb → LSt s l M r c K w h → LI M r c K w → ∃ u : gx_S, gm_34_74 n l p s = some ((lyt tb L l M k p r c K w h).1, u) ∧ CLy s u ∧ ((lyt tb L l M k p r c K w h).1 = -1 → u.1 58 1 = (lyt tb L l M k p r c K w h).2.1 ∧ u.1 58 2 = (lyt tb L l M k p r c K w h).2.2.1 ∧ ∀ i j, i < (lyt tb L l M k p r c K w h).2.1 → j < (lyt tb L l M k p r c K w h).2.2.1 → u.1 59 (i * (lyt tb L l M k p r c K w h).2.2.1 + j) = (lyt tb L l M k p r c K w h).2.2.2 i j) := by
  intro k
  induction k with
  | zero => intro p n r c K w h s h1 h2; omega
  | succ k ih =>
    intro p n r c K w h s h1 h2 h3 hT S I
    obtain ⟨n, rfl⟩ : ∃ n', n = n' + 1 := ⟨n - 1, by omega⟩
    have hL := hT.1
    have sr := sgn_r hT p
    have vr := lvr_ l (sgn tb L p)
    obtain ⟨i1, i2, i3, i4, i5⟩ := id I
    have vr2 : -1 ≤ lv_ l (sgn tb L p) ∧ lv_ l (sgn tb L p) ≤ 8 := by
      by_cases q : l = 2
      · rw [if_pos q] at vr; omega
      · rw [if_neg q] at vr; omega
    have cp : ((p : Int) + 1) = ((p + 1 : Nat) : Int) := rfl
    obtain ⟨wa, wb⟩ := wr_r (tb := tb) (L := L) (l := l) (M := M) (p := p) (r := r) (c := c) (K := K) (w := w)
    -- one place
    have one : gm_34_74 (n + 1) l p s = gm_34_118 (gm_34_74 n) l p (lv_ l (sgn tb L p)) (wr_ tb L l M p r c K w) s := by
      rw [gm_34_74, if_pos (by omega), hT.2.1, if_pos (by omega), if_neg (by omega), sp_83 hT (by omega), Option.bind_some]
      show ((gm_35 (sgn tb L p) l s).bind fun q7 => if -2147483648 ≤ q7.1 ∧ q7.1 ≤ 2147483647 then (if ¬ q7.1 = -1 then ((gm_36 q7.2).bind fun q11 => gm_34_118 (gm_34_74 n) l p q7.1 q11.1 q11.2) else ((gm_37 (sgn tb L p) q7.2).bind fun q13 => gm_34_118 (gm_34_74 n) l p q7.1 q13.1 q13.2)) else none) = _
      rw [sp_35 s hl (by unfold i32; omega), Option.bind_some]
      show (if -2147483648 ≤ lv_ l (sgn tb L p) ∧ lv_ l (sgn tb L p) ≤ 2147483647 then (if ¬ lv_ l (sgn tb L p) = -1 then ((gm_36 s).bind fun q11 => gm_34_118 (gm_34_74 n) l p (lv_ l (sgn tb L p)) q11.1 q11.2) else ((gm_37 (sgn tb L p) s).bind fun q13 => gm_34_118 (gm_34_74 n) l p (lv_ l (sgn tb L p)) q13.1 q13.2)) else none) = _
      rw [if_pos (by omega), sp_36 S (by omega) i4, sp_37 S (by omega) i4 (by omega) i2 (by omega) (x := sgn tb L p) (by unfold i32; omega), Option.bind_some, Option.bind_some]
      unfold wr_
      by_cases a : ¬ lv_ l (sgn tb L p) = -1
      · rw [if_pos a, if_pos a]
      · rw [if_neg a, if_neg a]
    rw [one, lyt_s]
    unfold gm_34_118
    rw [if_pos (by omega)]
    by_cases z : wr_ tb L l M p r c K w = 0
    · obtain ⟨w1, w2⟩ := wb z
      rw [if_pos z, if_neg (show ¬ ¬ wr_ tb L l M p r c K w = 0 from fun t => t z), if_pos (by omega)]
      by_cases a : ¬ lv_ l (sgn tb L p) = -1
      · have cw := w1 a
        have hp : p < L := Classical.byContradiction fun q => by
          have e : sgn tb L p = -1 := if_neg q
          apply a
          unfold lv_
          rw [e]
          split <;> rfl
        obtain ⟨u, u1, u2, u3⟩ := sp_39 (v := lv_ l (sgn tb L p)) S I cw
        rw [if_pos a, if_pos a, u1, Option.bind_some]
        unfold gm_34_153
        rw [cp]
        obtain ⟨x, x1, x2, x3⟩ := ih (p + 1) n r (c + 1) K w (up2 h r c (lv_ l (sgn tb L p))) u (by omega) (by omega) (by omega) (CLy_TC u2 hT) u3 ⟨i1, i2, by omega, i4, i5⟩
        exact ⟨x, x1, CLy_tr u2 x2, x3⟩
      · obtain ⟨c0, x47, kw, d1, d2⟩ := w2 (by omega)
        obtain ⟨u, u1, u2, u3⟩ := sp_38 S I kw
        rw [if_neg a, if_neg a, u1, Option.bind_some]
        unfold gm_34_153
        rw [cp]
        by_cases e : sgn tb L p = 47
        · have hp : p < L := Classical.byContradiction fun q => by
            have e : sgn tb L p = -1 := if_neg q
            omega
          have := d1 e
          rw [if_pos e]
          obtain ⟨x, x1, x2, x3⟩ := ih (p + 1) n (r + 1) 0 1 c h u (by omega) (by omega) (by omega) (CLy_TC u2 hT) u3 ⟨by omega, i2, by omega, by omega, by omega⟩
          exact ⟨x, x1, CLy_tr u2 x2, x3⟩
        · have hp : ¬ p < L := fun q => by
            have e2 : sgn tb L p = tb p := if_pos q
            have := (hT.2.2 p q).2
            omega
          obtain ⟨n, rfl⟩ : ∃ n', n = n' + 1 := ⟨n - 1, by omega⟩
          have uT := CLy_TC u2 hT
          rw [if_neg e, gm_34_74, if_pos (by omega), uT.2.1, if_pos (by omega), if_pos (by omega)]
          obtain ⟨s1, s2, s3, s4, s5, s6, s7⟩ := u3
          exact ⟨u, rfl, u2, fun _ => ⟨s1, s2, fun i j hi hj => s7 i j (.inl ⟨hi, hj⟩)⟩⟩
    · rw [if_neg z, if_pos z]
      exact ⟨s, rfl, ⟨rfl, fun _ _ _ _ => rfl⟩, fun h => by
        have h : 8 * (p : Int) + wr_ tb L l M p r c K w = -1 := h
        omega⟩
theorem lyt_r {L l M : Nat} {tb : Nat → Int} {B : Int} (hb : ∀ x, ¬ lv_ l x = -1 → 0 ≤ lv_ l x ∧ lv_ l x ≤ B) : ∀ (k p r c K w : Nat) (h : Nat → Nat → Int), L < p + k → LI M r c K w → (∀ i j, (i < r ∧ j < w) ∨ (i = r ∧ j < c) → 0 ≤ h i j ∧ h i j ≤ B) → p ≤ L → L ≤ 200 → (∀ i, i < L → 0 ≤ tb i) → (-1 ≤ (lyt tb L l M k p r c K w h).1 ∧ (lyt tb L l M k p r c K w h).1 ≤ 2000) ∧ ((lyt tb L l M k p r c K w h).1 = -1 → (1 ≤ (lyt tb L l M k p r c K w h).2.1 ∧ (lyt tb L l M k p r c K w h).2.1 ≤ M) ∧ (1 ≤ (lyt tb L l M k p r c K w h).2.2.1 ∧ (lyt tb L l M k p r c K w h).2.2.1 ≤ 12) ∧ (¬ l = 0 → (lyt tb L l M k p r c K w h).2.1 = M) ∧ (K = 1 → (lyt tb L l M k p r c K w h).2.2.1 = w) ∧ ∀ i j, i < (lyt tb L l M k p r c K w h).2.1 → j < (lyt tb L l M k p r c K w h).2.2.1 → 0 ≤ (lyt tb L l M k p r c K w h).2.2.2 i j ∧ (lyt tb L l M k p r c K w h).2.2.2 i j ≤ B) := by
  intro k
  induction k with
  | zero => intro p r c K w h h1 I H hp; omega
  | succ k ih =>
    intro p r c K w h h1 I H hp hL hb0
    obtain ⟨i1, i2, i3, i4, i5⟩ := id I
    obtain ⟨wa, wb⟩ := wr_r (tb := tb) (L := L) (l := l) (M := M) (p := p) (r := r) (c := c) (K := K) (w := w)
    rw [lyt_s]
    by_cases z : wr_ tb L l M p r c K w = 0
    · obtain ⟨w1, w2⟩ := wb z
      rw [if_neg (show ¬ ¬ wr_ tb L l M p r c K w = 0 from fun t => t z)]
      by_cases a : ¬ lv_ l (sgn tb L p) = -1
      · have hp : p < L := Classical.byContradiction fun q => by
          have e : sgn tb L p = -1 := if_neg q
          apply a
          unfold lv_
          rw [e]
          split <;> rfl
        rw [if_pos a]
        exact ih (p + 1) r (c + 1) K w _ (by omega) ⟨i1, i2, by have := w1 a; omega, i4, i5⟩ (fun i j q => by
          unfold up2
          by_cases y : i = r ∧ j = c
          · rw [if_pos y]
            exact hb _ a
          · rw [if_neg y]
            exact H i j (by omega)) (by omega) hL hb0
      · obtain ⟨c0, x47, kw, d1, d2⟩ := w2 (by omega)
        have HH : ∀ i j, i < r + 1 → j < c → 0 ≤ h i j ∧ h i j ≤ B := fun i j hi hj => H i j (by omega)
        rw [if_neg a]
        by_cases e : sgn tb L p = 47
        · have hp : p < L := Classical.byContradiction fun q => by
            have e : sgn tb L p = -1 := if_neg q
            omega
          have := d1 e
          rw [if_pos e]
          obtain ⟨x1, x2⟩ := ih (p + 1) (r + 1) 0 1 c h (by omega) ⟨by omega, i2, by omega, by omega, by omega⟩ (fun i j q => HH i j (by omega) (by omega)) (by omega) hL hb0
          refine ⟨x1, fun q => ?_⟩
          obtain ⟨y1, y2, y3, y4, y5⟩ := x2 q
          exact ⟨y1, y2, y3, fun k1 => by
            have := y4 rfl
            omega, y5⟩
        · have := d2 (by omega)
          rw [if_neg e]
          exact ⟨by show (-1 : Int) ≤ -1 ∧ (-1 : Int) ≤ 2000; decide, fun _ => ⟨by show 1 ≤ r + 1 ∧ r + 1 ≤ M; omega, by show 1 ≤ c ∧ c ≤ 12; omega, fun q => by show r + 1 = M; omega, fun k1 => by show c = w; omega, HH⟩⟩
    · rw [if_pos z]
      refine ⟨?_, fun h => ?_⟩
      · show -1 ≤ 8 * (p : Int) + wr_ tb L l M p r c K w ∧ 8 * (p : Int) + wr_ tb L l M p r c K w ≤ 2000
        omega
      · have h : 8 * (p : Int) + wr_ tb L l M p r c K w = -1 := h
        omega
/-- a layer as a whole -/
def lyw (tb : Nat → Int) (L l R C : Nat) : Int × Nat × Nat × (Nat → Nat → Int) := lyt tb L l (if l = 0 then 8 else R) (L + 1) 0 0 0 (if l = 0 then 0 else 1) (if l = 0 then 12 else C) fun _ _ => 0
theorem sp_34 {L l R C : Nat} {tb : Nat → Int} {s : gx_S} (hl : l < 3) (hT : TC s L tb) (hR : s.1 1 4 = R) (hC : s.1 1 5 = C) (r8 : R ≤ 8) (c12 : C ≤ 12) (r1 : ¬ l = 0 → 1 ≤ R) : ∃ u : gx_S, gm_34 l 1 s = some ((lyw tb L l R C).1, u) ∧ CLy s u ∧ ((lyw tb L l R C).1 = -1 → u.1 58 1 = (lyw tb L l R C).2.1 ∧ u.1 58 2 = (lyw tb L l R C).2.2.1 ∧ ∀ i j, i < (lyw tb L l R C).2.1 → j < (lyw tb L l R C).2.2.1 → u.1 59 (i * (lyw tb L l R C).2.2.1 + j) = (lyw tb L l R C).2.2.2 i j) := by
  have hL := hT.1
  have st : ∃ t : gx_S, gm_34 l 1 s = gm_34_74 100000 l 0 t ∧ CLy s t ∧ LSt t l (if l = 0 then 8 else R) 0 0 (if l = 0 then 0 else 1) (if l = 0 then 12 else C) fun _ _ => 0 := by
    unfold gm_34
    rw [if_pos (by decide +kernel), if_pos (by omega)]
    by_cases a : l = 0
    · have aI : (l : Int) = 0 := by omega
      obtain ⟨t1, ht1⟩ : ∃ t1, t1 = gw1 s 58 6 0 := ⟨_, rfl⟩
      obtain ⟨t2, ht2⟩ : ∃ t2, t2 = gw1 t1 58 5 0 := ⟨_, rfl⟩
      obtain ⟨t3, ht3⟩ : ∃ t3, t3 = gw1 t2 58 2 12 := ⟨_, rfl⟩
      have e16 : t1.1 58 6 = 0 := by rw [ht1, gw1_1, if_pos ⟨rfl, rfl⟩]
      have e26 : t2.1 58 6 = 0 := by rw [ht2, gw1_1, if_neg (by omega)]; exact e16
      have e36 : t3.1 58 6 = 0 := by rw [ht3, gw1_1, if_neg (by omega)]; exact e26
      rw [if_pos aI]
      unfold gm_34_10
      rw [if_pos (show (0 : Int) = 0 ∨ (0 : Int) = 1 by decide), ← ht1, e16, if_pos (show (0 : Int) = 0 ∨ (0 : Int) = 1 by decide), ← ht2, e26, if_pos (show (-2147483648 : Int) ≤ 0 ∧ (0 : Int) ≤ 2147483647 by decide), if_pos rfl]
      unfold gm_34_38
      rw [← ht3, e36, if_pos (show (-2147483648 : Int) ≤ 0 ∧ (0 : Int) ≤ 2147483647 by decide), if_pos rfl]
      unfold gm_34_58
      rw [if_pos a, if_pos a, if_pos a]
      refine ⟨_, rfl, ⟨by rw [ht3, ht2, ht1]; rfl, fun k j q1 q2 => by rw [gw1_1, if_neg (by omega), gw1_1, if_neg (by omega), gw1_1, if_neg (by omega), ht3, gw1_1, if_neg (by omega), ht2, gw1_1, if_neg (by omega), ht1, gw1_1, if_neg (by omega)]⟩, ?_, ?_, ?_, ?_, ?_, ?_, fun i j q => by omega⟩
      · rw [gw1_1, if_neg (by omega), gw1_1, if_pos ⟨rfl, rfl⟩]; rfl
      · rw [gw1_1, if_neg (by omega), gw1_1, if_neg (by omega), gw1_1, if_neg (by omega), ht3, gw1_1, if_pos ⟨rfl, rfl⟩]; rfl
      · rw [gw1_1, if_pos ⟨rfl, rfl⟩]; rfl
      · rw [gw1_1, if_neg (by omega), gw1_1, if_neg (by omega), gw1_1, if_pos ⟨rfl, rfl⟩]; rfl
      · rw [gw1_1, if_neg (by omega), gw1_1, if_neg (by omega), gw1_1, if_neg (by omega), ht3, gw1_1, if_neg (by omega), ht2, gw1_1, if_pos ⟨rfl, rfl⟩]; rfl
      · rw [gw1_1, if_neg (by omega), gw1_1, if_neg (by omega), gw1_1, if_neg (by omega), e36, if_pos a]
    · have aI : ¬ (l : Int) = 0 := by omega
      obtain ⟨t1, ht1⟩ : ∃ t1, t1 = gw1 s 58 6 1 := ⟨_, rfl⟩
      obtain ⟨t2, ht2⟩ : ∃ t2, t2 = gw1 t1 58 5 1 := ⟨_, rfl⟩
      obtain ⟨t3, ht3⟩ : ∃ t3, t3 = gw1 t2 58 2 C := ⟨_, rfl⟩
      have e16 : t1.1 58 6 = 1 := by rw [ht1, gw1_1, if_pos ⟨rfl, rfl⟩]
      have e26 : t2.1 58 6 = 1 := by rw [ht2, gw1_1, if_neg (by omega)]; exact e16
      have e36 : t3.1 58 6 = 1 := by rw [ht3, gw1_1, if_neg (by omega)]; exact e26
      have e25 : t2.1 1 5 = C := by rw [ht2, gw1_1, if_neg (by omega), ht1, gw1_1, if_neg (by omega)]; exact hC
      have e34 : t3.1 1 4 = R := by rw [ht3, gw1_1, if_neg (by omega), ht2, gw1_1, if_neg (by omega), ht1, gw1_1, if_neg (by omega)]; exact hR
      rw [if_neg aI]
      unfold gm_34_10
      rw [if_pos (show (1 : Int) = 0 ∨ (1 : Int) = 1 by decide), ← ht1, e16, if_pos (show (1 : Int) = 0 ∨ (1 : Int) = 1 by decide), ← ht2, e26, if_pos (show (-2147483648 : Int) ≤ 1 ∧ (1 : Int) ≤ 2147483647 by decide), if_neg (show ¬ (1 : Int) = 0 by decide), e25]
      unfold gm_34_38
      rw [← ht3, e36, if_pos (show (-2147483648 : Int) ≤ 1 ∧ (1 : Int) ≤ 2147483647 by decide), if_neg (show ¬ (1 : Int) = 0 by decide), e34]
      unfold gm_34_58
      rw [if_neg a, if_neg a, if_neg a]
      refine ⟨_, rfl, ⟨by rw [ht3, ht2, ht1]; rfl, fun k j q1 q2 => by rw [gw1_1, if_neg (by omega), gw1_1, if_neg (by omega), gw1_1, if_neg (by omega), ht3, gw1_1, if_neg (by omega), ht2, gw1_1, if_neg (by omega), ht1, gw1_1, if_neg (by omega)]⟩, ?_, ?_, ?_, ?_, ?_, ?_, fun i j q => by omega⟩
      · rw [gw1_1, if_neg (by omega), gw1_1, if_pos ⟨rfl, rfl⟩]; rfl
      · rw [gw1_1, if_neg (by omega), gw1_1, if_neg (by omega), gw1_1, if_neg (by omega), ht3, gw1_1, if_pos ⟨rfl, rfl⟩]
      · rw [gw1_1, if_pos ⟨rfl, rfl⟩]; rfl
      · rw [gw1_1, if_neg (by omega), gw1_1, if_neg (by omega), gw1_1, if_pos ⟨rfl, rfl⟩]
      · rw [gw1_1, if_neg (by omega), gw1_1, if_neg (by omega), gw1_1, if_neg (by omega), ht3, gw1_1, if_neg (by omega), ht2, gw1_1, if_pos ⟨rfl, rfl⟩]; rfl
      · rw [gw1_1, if_neg (by omega), gw1_1, if_neg (by omega), gw1_1, if_neg (by omega), e36, if_neg a]
  obtain ⟨t, t1, t2, t3⟩ := st
  obtain ⟨u, u1, u2, u3⟩ := sl_34 hl (L + 1) 0 100000 0 0 _ _ _ t (by omega) (by omega) (by omega) (CLy_TC t2 hT) t3 (by
    by_cases a : l = 0
    · rw [if_pos a, if_pos a, if_pos a]
      exact ⟨by omega, by omega, by omega, by omega, by omega⟩
    · rw [if_neg a, if_neg a, if_neg a]
      have := r1 a
      exact ⟨by omega, by omega, by omega, by omega, by omega⟩)
  have u1 : gm_34_74 100000 l 0 t = _ := u1
  exact ⟨u, t1.trans u1, CLy_tr t2 u2, u3⟩
