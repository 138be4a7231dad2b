/-! TEXTS of layers: the reference's rows -/
theorem CX_tr {s t u : gx_S} (a : CX s t) (b : CX t u) : CX s u := ⟨b.1.trans a.1, fun k j h1 h2 h3 => (b.2 k j h1 h2 h3).trans (a.2 k j h1 h2 h3)⟩
theorem CX_rf (s : gx_S) : CX s s := ⟨rfl, fun _ _ _ _ _ => rfl⟩
theorem CX_TF {s u : gx_S} {L : Nat} {tb : Nat → Int} (a : CX s u) (T : TF s L tb) : TF u L tb := TF_o (a.2 _ _ (by omega) (by omega) (by omega)) (fun i => a.2 _ _ (by omega) (by omega) (by omega)) T
theorem CX_1 (s : gx_S) {j : Nat} (x : Int) (h : 5 ≤ j ∧ j ≤ 11) : CX s (gw1 s 215 j x) := ⟨rfl, fun k i q1 q2 q3 => by rw [gw1_1, if_neg (by omega)]⟩
theorem CX_219 (s : gx_S) (j : Nat) (x : Int) : CX s (gw1 s 219 j x) := ⟨rfl, fun k i q1 q2 q3 => by rw [gw1_1, if_neg (by omega)]⟩
theorem sp_140 (s : gx_S) {l : Nat} {x : Int} (hl : l < 3) (h : i32 x) : gm_140 l x s = some (decide (¬ lv_ l x = -1), s) := by
  have h' := h
  unfold i32 at h'
  unfold gm_140 lv_
  rw [if_pos (by omega)]
  by_cases a : l = 2
  · rw [if_neg (by omega), if_pos h', if_pos a, in_ s h (by omega) (by omega), Option.bind_some]
    by_cases b : 48 ≤ x ∧ x ≤ 51
    · rw [if_pos b]
      show some (decide (48 ≤ x ∧ x ≤ 51), s) = _
      rw [decide_eq_true b, decide_eq_true (by omega)]
    · rw [if_neg b]
      show some (decide (48 ≤ x ∧ x ≤ 51), s) = _
      rw [decide_eq_false b, decide_eq_false (by omega)]
  · rw [if_pos (by omega), if_pos h', if_neg a, in_ s h (by omega) (by omega), Option.bind_some]
    by_cases d : x = 46
    · rw [if_neg (fun q => q ((gbD s).mpr (by omega))), if_neg (fun t => t d), if_pos d, decide_eq_true (show ¬ (8 : Int) = -1 by decide)]
    · rw [if_neg d]
      by_cases b : 97 ≤ x ∧ x ≤ 104
      · rw [if_pos (fun q => (gbD s).mp q b), if_pos b, decide_eq_true (show ¬ x - 97 = -1 by omega)]
      · rw [if_neg (fun q => q ((gbD s).mpr b)), if_pos d, if_neg b, decide_eq_false (show ¬ ¬ (-1 : Int) = -1 from fun t => t rfl)]
theorem sp_141 (s : gx_S) {l : Nat} {x : Int} (hl : l < 3) (h : i32 x) (hv : ¬ lv_ l x = -1) : gm_141 l x s = some (lv_ l x, s) := by
  unfold i32 at h
  unfold lv_ at hv ⊢
  unfold gm_141
  rw [if_pos (by omega)]
  by_cases a : l = 2
  · rw [if_pos a] at hv
    rw [if_neg (by omega), if_pos a]
    by_cases b : 48 ≤ x ∧ x ≤ 51
    · rw [if_pos b]
    · rw [if_neg b] at hv
      exact absurd rfl hv
  · rw [if_neg a] at hv
    rw [if_pos (by omega), if_pos h, if_neg a]
    by_cases d : x = 46
    · rw [if_neg (fun t => t d), if_pos d]
    · rw [if_neg d] at hv
      rw [if_pos d, if_neg d]
      by_cases b : 97 ≤ x ∧ x ≤ 104
      · rw [if_pos b]
      · rw [if_neg b] at hv
        exact absurd rfl hv
/-- the reference's place in a row -/
def RS (s : gx_S) (p r : Nat) (c w : Nat) (h : Nat → Nat → Int) : Prop := s.1 215 6 = -1 ∧ s.1 215 5 = p ∧ s.1 215 8 = r ∧ ∀ i j, (i < r ∧ j < w) ∨ (i = r ∧ j < c) → s.1 219 (12 * i + j) = h i j
theorem sl_142_36 {L l M K w : Nat} {tb : Nat → Int} {x2 : Int} (hl : l < 3) : ∀ (k p n r c : Nat) (h : Nat → Nat → Int) (s : gx_S), L < p + k → p ≤ L → k < n → TF s L tb → RS s p r c w h → LI M r c K w → ∃ (u : gx_S) (k' p' c' : Nat) (h' : Nat → Nat → Int), gm_142_36 n l x2 w c s = gm_142_92 l x2 c' u ∧ CX s u ∧ lyt tb L l M k p r c K w h = lyt tb L l M k' p' r c' K w h' ∧ L < p' + k' ∧ p' ≤ L ∧ RS u p' r c' w h' ∧ LI M r c' K w ∧ c ≤ c' ∧ k' ≤ k ∧ (w ≤ c' ∨ lv_ l (sgn tb L p') = -1) ∧ (c < w → ¬ lv_ l (sgn tb L p) = -1 → 0 < c') := by
  intro k
  induction k with
  | zero => intro p n r c h s h1 h2; omega
  | succ k ih =>
    intro p n r c h s h1 h2 h3 hT S I
    obtain ⟨n, rfl⟩ : ∃ n', n = n' + 1 := ⟨n - 1, by omega⟩
    have hL := hT.1
    have sr := sgn_rf hT p
    obtain ⟨i1, i2, i3, i4, i5⟩ := id I
    obtain ⟨s1, s2, s3, s4⟩ := id S
    rw [gm_142_36, if_pos (by omega), if_pos (by omega)]
    by_cases a : w ≤ c
    · rw [if_pos (by omega)]
      exact ⟨s, k + 1, p, c, h, rfl, CX_rf s, rfl, h1, h2, S, I, Nat.le_refl c, Nat.le_refl _, .inl a, fun q => by omega⟩
    · rw [if_neg (by omega), sp_137 hT (by omega) s2, Option.bind_some]
      show ∃ (u : gx_S) (k' p' c' : Nat) (h' : Nat → Nat → Int), ((gm_140 l (sgn tb L p) s).bind _) = _ ∧ _
      rw [sp_140 s hl (by unfold i32; omega), Option.bind_some]
      by_cases b : ¬ lv_ l (sgn tb L p) = -1
      · have hp : p < L := Classical.byContradiction fun q => by
          have e : sgn tb L p = -1 := if_neg q
          apply b
          unfold lv_
          rw [e]
          split <;> rfl
        have e8 : 12 * (r : Int) + (c : Int) = ((12 * r + c : Nat) : Int) := by omega
        have cc : ((c : Int) + 1) = ((c + 1 : Nat) : Int) := rfl
        have cp : ((p : Int) + 1) = ((p + 1 : Nat) : Int) := rfl
        rw [if_neg (fun t => (gbD s).mp t b)]
        show ∃ (u : gx_S) (k' p' c' : Nat) (h' : Nat → Nat → Int), ((gm_137 s).bind _) = _ ∧ _
        rw [sp_137 hT (by omega) s2, Option.bind_some]
        show ∃ (u : gx_S) (k' p' c' : Nat) (h' : Nat → Nat → Int), ((gm_141 l (sgn tb L p) s).bind fun q12 => if 0 ≤ ((12 * (s.1 215 8)) + (c : Int)) ∧ ((12 * (s.1 215 8)) + (c : Int)) < 96 then gm_142_36 n l x2 w ((c : Int) + 1) (gw1 (gw1 q12.2 219 (((12 * (s.1 215 8)) + (c : Int))).toNat q12.1) 215 5 (((gw1 q12.2 219 (((12 * (s.1 215 8)) + (c : Int))).toNat q12.1).1 215 5) + 1)) else none) = _ ∧ _
        rw [sp_141 s hl (by unfold i32; omega) b, Option.bind_some, s3, e8, if_pos (by omega), cc]
        obtain ⟨t, ht⟩ : ∃ t, t = gw1 s 219 (12 * r + c) (lv_ l (sgn tb L p)) := ⟨_, rfl⟩
        have t5 : t.1 215 5 = p := by rw [ht, gw1_1, if_neg (by omega)]; exact s2
        show ∃ (u : gx_S) (k' p' c' : Nat) (h' : Nat → Nat → Int), gm_142_36 n l x2 w ((c + 1 : Nat) : Int) (gw1 (gw1 s 219 ((12 * r + c : Nat) : Int).toNat (lv_ l (sgn tb L p))) 215 5 (((gw1 s 219 ((12 * r + c : Nat) : Int).toNat (lv_ l (sgn tb L p))).1 215 5) + 1)) = _ ∧ _
        rw [show ((12 * r + c : Nat) : Int).toNat = 12 * r + c from rfl, ← ht, t5, cp]
        obtain ⟨v, hv⟩ : ∃ v, v = gw1 t 215 5 ((p + 1 : Nat) : Int) := ⟨_, rfl⟩
        rw [← hv]
        have vC : CX s v := CX_tr (t := t) (by rw [ht]; exact CX_219 s _ _) (by rw [hv]; exact CX_1 t _ (by omega))
        have vo : ∀ k j, ¬ (k = 219) → ¬ (k = 215 ∧ j = 5) → v.1 k j = s.1 k j := fun k j q1 q2 => by rw [hv, gw1_1, if_neg q2, ht, gw1_1, if_neg (by omega)]
        have vS : RS v (p + 1) r (c + 1) w (up2 h r c (lv_ l (sgn tb L p))) := ⟨by rw [vo _ _ (by omega) (by omega)]; exact s1, by rw [hv, gw1_1, if_pos ⟨rfl, rfl⟩], by rw [vo _ _ (by omega) (by omega)]; exact s3, fun i j q => by
          rw [hv, gw1_1, if_neg (by omega), ht, gw1_1]
          unfold up2
          by_cases y : i = r ∧ j = c
          · rw [if_pos ⟨rfl, by omega⟩, if_pos y]
          · rw [if_neg (by omega), if_neg y]
            exact s4 i j (by omega)⟩
        obtain ⟨u, k', p', c', h', u1, u2, u3, u4, u5, u6, u7, u8, uk, u9, u10⟩ := ih (p + 1) n r (c + 1) (up2 h r c (lv_ l (sgn tb L p))) v (by omega) (by omega) (by omega) (CX_TF vC hT) vS ⟨i1, i2, by omega, i4, i5⟩
        refine ⟨u, k', p', c', h', u1, CX_tr vC u2, ?_, u4, u5, u6, u7, by omega, by omega, u9, fun _ _ => by omega⟩
        rw [← u3, lyt, if_pos b, if_neg a]
      · rw [if_pos ((gbD s).mpr b)]
        exact ⟨s, k + 1, p, c, h, rfl, CX_rf s, rfl, h1, h2, S, I, Nat.le_refl c, Nat.le_refl _, .inr (by omega), fun _ q => absurd q b⟩
/-- a row ends -/
theorem sp_168r (s : gx_S) {c r : Nat} (e : s.1 215 8 = r) : ∃ u : gx_S, gm_142_168 c s = some u ∧ CX s u ∧ u.1 215 8 = ((r + 1 : Nat) : Int) ∧ u.1 215 9 = c ∧ ∀ k j, ¬ (k = 215 ∧ (j = 8 ∨ j = 9)) → u.1 k j = s.1 k j := by
  have x8 : (gw1 s 215 9 (c : Int)).1 215 8 = r := by rw [gw1_1, if_neg (by omega)]; exact e
  unfold gm_142_168
  rw [x8]
  exact ⟨_, rfl, CX_tr (CX_1 s _ (by omega)) (CX_1 _ _ (by omega)), by rw [gw1_1, if_pos ⟨rfl, rfl⟩]; rfl, by rw [gw1_1, if_neg (by omega), gw1_1, if_pos ⟨rfl, rfl⟩], fun k j q => by rw [gw1_1, if_neg (by omega), gw1_1, if_neg (by omega)]⟩
/-- what a row leaves -/
def RB_ (tb : Nat → Int) (L l M : Nat) (u : gx_S) (R : Int × Nat × Nat × (Nat → Nat → Int)) (r K w : Nat) : Prop :=
  (¬ u.1 215 6 = -1 ∧ i32 (u.1 215 6) ∧ R.1 = u.1 215 6) ∨ ∃ (k p c : Nat) (h : Nat → Nat → Int), R = lyt tb L l M k p r c K w h ∧ k < 1000 ∧ L < p + k ∧ p ≤ L ∧ LI M r c K w ∧ 0 < c ∧ ¬ (K = 1 ∧ c < w) ∧ lv_ l (sgn tb L p) = -1 ∧ (sgn tb L p = 47 ∨ sgn tb L p = -1) ∧ u.1 215 6 = -1 ∧ u.1 215 5 = p ∧ u.1 215 8 = ((r + 1 : Nat) : Int) ∧ u.1 215 9 = c ∧ ∀ i j, (i < r ∧ j < w) ∨ (i = r ∧ j < c) → u.1 219 (12 * i + j) = h i j
theorem sp_142_92 {L l M K w k p r c : Nat} {tb : Nat → Int} {x2 : Int} {h : Nat → Nat → Int} {s : gx_S} (hl : l < 3) (hx : x2 = if K = 0 then -1 else (w : Int)) (h1 : L < p + k) (h2 : p ≤ L) (hk : k < 1000) (hT : TF s L tb) (S : RS s p r c w h) (I : LI M r c K w) (c0 : 0 < c) (hb : w ≤ c ∨ lv_ l (sgn tb L p) = -1) : ∃ u : gx_S, gm_142_92 l x2 c s = some u ∧ CX s u ∧ RB_ tb L l M u (lyt tb L l M k p r c K w h) r K w := by
  have hL := hT.1
  have sr := sgn_rf hT p
  obtain ⟨i1, i2, i3, i4, i5⟩ := id I
  obtain ⟨s1, s2, s3, s4⟩ := id S
  obtain ⟨k, rfl⟩ : ∃ k', k = k' + 1 := ⟨k - 1, by omega⟩
  have f6 : i32 (s.1 215 6) := by rw [s1]; unfold i32; omega
  -- with a fault
  have flt : ∀ f : Int, 0 ≤ f → f ≤ 4 → (lyt tb L l M (k + 1) p r c K w h).1 = 8 * p + f → ∃ u : gx_S, ((gm_139 f (s.1 215 5) s).bind fun q => gm_142_168 c q) = some u ∧ CX s u ∧ RB_ tb L l M u (lyt tb L l M (k + 1) p r c K w h) r K w := fun f f1 f2 e => by
    obtain ⟨u, u1, u2, u3, u4, u5⟩ := sp_168r (gw1 s 215 6 (8 * (p : Int) + f)) (c := c) (r := r) (by rw [gw1_1, if_neg (by omega)]; exact s3)
    have u6 : u.1 215 6 = 8 * (p : Int) + f := by rw [u5 _ _ (by omega), gw1_1, if_pos ⟨rfl, rfl⟩]
    rw [sp_139 f6, if_pos s1, Option.bind_some, s2, u1]
    exact ⟨u, rfl, CX_tr (CX_1 s _ (by omega)) u2, .inl ⟨by omega, by rw [u6]; unfold i32; omega, by rw [e, u6]⟩⟩
  have two_ : gm_142_92 l x2 c s = if sgn tb L p = 47 ∨ sgn tb L p = -1 then gm_142_114 l x2 c 1 s else gm_142_114 l x2 c 0 s := by
    unfold gm_142_92
    rw [sp_137 hT (by omega) s2, Option.bind_some]
    show (if -2147483648 ≤ sgn tb L p ∧ sgn tb L p ≤ 2147483647 then (if sgn tb L p = 47 then gm_142_114 l x2 c 1 s else ((gm_137 s).bind fun q6 => if -2147483648 ≤ q6.1 ∧ q6.1 ≤ 2147483647 then (if ¬ q6.1 = -1 then gm_142_114 l x2 c 0 q6.2 else gm_142_114 l x2 c 1 q6.2) else none)) else none) = _
    rw [if_pos (by omega), sp_137 hT (by omega) s2, Option.bind_some]
    show (if sgn tb L p = 47 then gm_142_114 l x2 c 1 s else (if -2147483648 ≤ sgn tb L p ∧ sgn tb L p ≤ 2147483647 then (if ¬ sgn tb L p = -1 then gm_142_114 l x2 c 0 s else gm_142_114 l x2 c 1 s) else none)) = _
    rw [if_pos (show -2147483648 ≤ sgn tb L p ∧ sgn tb L p ≤ 2147483647 by omega)]
    by_cases a : sgn tb L p = 47
    · rw [if_pos a, if_pos (.inl a)]
    · rw [if_neg a]
      by_cases b : sgn tb L p = -1
      · rw [if_neg (fun t => t b), if_pos (.inr b)]
      · rw [if_pos b, if_neg (by omega)]
  rw [two_]
  by_cases a : sgn tb L p = 47 ∨ sgn tb L p = -1
  · have v1 : lv_ l (sgn tb L p) = -1 := by
      unfold lv_
      rcases a with a | a
      · rw [a]; split <;> rfl
      · rw [a]; split <;> rfl
    rw [if_pos a]
    unfold gm_142_114
    rw [if_pos (show (-2147483648 : Int) ≤ 1 ∧ (1 : Int) ≤ 2147483647 by decide), if_pos (show ¬ (1 : Int) = 0 by decide)]
    have ok : ¬ (K = 1 ∧ c < w) → ∃ u : gx_S, gm_142_168 c s = some u ∧ CX s u ∧ RB_ tb L l M u (lyt tb L l M (k + 1) p r c K w h) r K w := fun kw => by
      obtain ⟨u, u1, u2, u3, u4, u5⟩ := sp_168r s (c := c) s3
      exact ⟨u, u1, u2, .inr ⟨k + 1, p, c, h, rfl, hk, h1, h2, I, c0, kw, v1, a, by rw [u5 _ _ (by omega)]; exact s1, by rw [u5 _ _ (by omega)]; exact s2, u3, u4, fun i j q => by rw [u5 _ _ (by omega)]; exact s4 i j q⟩⟩
    rw [hx]
    by_cases b : K = 0
    · rw [if_pos b, if_pos (show (-2147483648 : Int) ≤ -1 ∧ (-1 : Int) ≤ 2147483647 by decide), if_pos rfl]
      exact ok (by omega)
    · rw [if_neg b, if_pos (show -2147483648 ≤ (w : Int) ∧ (w : Int) ≤ 2147483647 by omega), if_neg (show ¬ (w : Int) = -1 by omega), if_pos (show -2147483648 ≤ (c : Int) ∧ (c : Int) ≤ 2147483647 by omega)]
      by_cases d : w ≤ c
      · rw [if_pos (show (w : Int) ≤ (c : Int) by omega)]
        exact ok (by omega)
      · rw [if_neg (show ¬ (w : Int) ≤ (c : Int) by omega)]
        refine flt 2 (by omega) (by omega) ?_
        rw [lyt, if_neg (fun t => t v1), if_neg (by omega), if_pos (show K = 1 ∧ c < w by omega)]
  · rw [if_neg a]
    unfold gm_142_114
    rw [if_pos (show (-2147483648 : Int) ≤ 0 ∧ (0 : Int) ≤ 2147483647 by decide), if_neg (show ¬ ¬ (0 : Int) = 0 from fun t => t rfl), sp_137 hT (by omega) s2, Option.bind_some]
    show ∃ u : gx_S, ((gm_140 l (sgn tb L p) s).bind _) = _ ∧ _
    rw [sp_140 s hl (by unfold i32; omega), Option.bind_some]
    by_cases b : ¬ lv_ l (sgn tb L p) = -1
    · have wc : w ≤ c := by omega
      rw [if_neg (fun t => (gbD s).mp t b)]
      refine flt 3 (by omega) (by omega) ?_
      rw [lyt, if_pos b, if_pos wc]
    · rw [if_pos ((gbD s).mpr b)]
      refine flt 1 (by omega) (by omega) ?_
      rw [lyt, if_neg b, if_pos (.inr a)]
theorem sp_142 {L l M K w k p r : Nat} {tb : Nat → Int} {x2 : Int} {h : Nat → Nat → Int} {s : gx_S} (hl : l < 3) (hx : x2 = if K = 0 then -1 else (w : Int)) (h1 : L < p + k) (h2 : p ≤ L) (hk : k < 1000) (hT : TF s L tb) (S : RS s p r 0 w h) (I : LI M r 0 K w) (w0 : 0 < w) : ∃ u : gx_S, gm_142 l x2 s = some u ∧ CX s u ∧ RB_ tb L l M u (lyt tb L l M k p r 0 K w h) r K w := by
  have hL := hT.1
  have sr := sgn_rf hT p
  obtain ⟨i1, i2, i3, i4, i5⟩ := id I
  obtain ⟨s1, s2, s3, s4⟩ := id S
  have xr : i32 x2 := by
    rw [hx]
    unfold i32
    split <;> omega
  unfold i32 at xr
  unfold gm_142
  rw [sp_137 hT (by omega) s2, Option.bind_some]
  show ∃ u : gx_S, ((gm_140 l (sgn tb L p) s).bind _) = _ ∧ _
  rw [sp_140 s hl (by unfold i32; omega), Option.bind_some]
  by_cases b : ¬ lv_ l (sgn tb L p) = -1
  · have e : (if ¬ x2 = -1 then gm_142_32 l x2 x2 s else gm_142_32 l x2 12 s) = gm_142_36 100000 l x2 w 0 s := by
      unfold gm_142_32
      rw [hx]
      by_cases z : K = 0
      · rw [if_pos z, if_neg (show ¬ ¬ (-1 : Int) = -1 from fun t => t rfl), show w = 12 by omega]
        rfl
      · rw [if_neg z, if_pos (show ¬ (w : Int) = -1 by omega)]
    obtain ⟨u, k', p', c', h', u1, u2, u3, u4, u5, u6, u7, u8, uk, u9, u10⟩ := sl_142_36 (x2 := x2) hl k p 100000 r 0 h s h1 h2 (by omega) hT S I
    have u1 : gm_142_36 100000 l x2 w 0 s = _ := u1
    rw [if_pos (fun q => (gbD s).mp q b), if_pos xr]
    show ∃ v : gx_S, (if ¬ x2 = -1 then gm_142_32 l x2 x2 s else gm_142_32 l x2 12 s) = _ ∧ _
    rw [e, u1, u3]
    obtain ⟨v, v1, v2, v3⟩ := sp_142_92 hl hx u4 u5 (by omega) (CX_TF u2 hT) u6 u7 (u10 w0 b) u9
    exact ⟨v, v1, CX_tr u2 v2, v3⟩
  · rw [if_neg (fun q => q ((gbD s).mpr b))]
    show ∃ v : gx_S, ((gm_139 1 (s.1 215 5) s).bind _) = _ ∧ _
    rw [sp_139 (by rw [s1]; unfold i32; omega), if_pos s1, Option.bind_some, s2]
    obtain ⟨k, rfl⟩ : ∃ k', k = k' + 1 := ⟨k - 1, by omega⟩
    have x6 : (gw1 s 215 6 (8 * (p : Int) + 1)).1 215 6 = 8 * (p : Int) + 1 := by rw [gw1_1, if_pos ⟨rfl, rfl⟩]
    refine ⟨_, rfl, CX_1 s _ (by omega), .inl ⟨by rw [x6]; omega, by rw [x6]; unfold i32; omega, ?_⟩⟩
    rw [x6, lyt, if_neg b, if_pos (.inl rfl)]
