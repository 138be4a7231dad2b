/-! TEXTS of layers: the reference's whole reading -/
theorem fl_143 {n : Nat} {l : Nat} {x2 x3 : Int} {u : gx_S} (h : ¬ u.1 215 6 = -1) (h6 : i32 (u.1 215 6)) : gm_143_57 (n + 1) l x2 x3 u = some u := by
  rw [gm_143_57, sp_138 h6, Option.bind_some, if_pos ((gbD u).mpr h)]
  unfold gm_143_112
  rw [sp_138 h6, Option.bind_some, if_pos ((gbD u).mpr h)]
/-- what the whole reading leaves -/
def RW_ (u : gx_S) (Y : Int × Nat × Nat × (Nat → Nat → Int)) : Prop := u.1 215 6 = Y.1 ∧ (Y.1 = -1 → u.1 215 8 = Y.2.1 ∧ u.1 215 9 = Y.2.2.1 ∧ ∀ i j, i < Y.2.1 → j < Y.2.2.1 → u.1 219 (12 * i + j) = Y.2.2.2 i j)
theorem sl_143_57 {L l M : Nat} {tb : Nat → Int} (hl : l < 3) : ∀ (m n r k p c K w : Nat) (h : Nat → Nat → Int) (s : gx_S), M ≤ r + m → m < n → k < 1000 → L < p + k → p ≤ L → LI M r c K w → 0 < c → ¬ (K = 1 ∧ c < w) → lv_ l (sgn tb L p) = -1 → (sgn tb L p = 47 ∨ sgn tb L p = -1) → s.1 215 6 = -1 → s.1 215 5 = p → s.1 215 8 = ((r + 1 : Nat) : Int) → s.1 215 9 = c → (∀ i j, (i < r ∧ j < w) ∨ (i = r ∧ j < c) → s.1 219 (12 * i + j) = h i j) → TF s L tb → ∃ u : gx_S, gm_143_57 n l M c s = some u ∧ CX s u ∧ RW_ u (lyt tb L l M k p r c K w h) := by
  intro m
  induction m with
  | zero => intro n r k p c K w h s h1 h2 h3 h4 h5 I; obtain ⟨i1, _⟩ := I; omega
  | succ m ih =>
    intro n r k p c K w h s h1 h2 h3 h4 h5 I c0 kw v1 x47 s6 s5 s8 s9 sc hT
    obtain ⟨n, rfl⟩ : ∃ n', n = n' + 1 := ⟨n - 1, by omega⟩
    obtain ⟨k, rfl⟩ : ∃ k', k = k' + 1 := ⟨k - 1, by omega⟩
    have hL := hT.1
    have sr := sgn_rf hT p
    obtain ⟨i1, i2, i3, i4, i5⟩ := id I
    have f6 : i32 (s.1 215 6) := by rw [s6]; unfold i32; omega
    rw [gm_143_57, sp_138 f6, Option.bind_some, if_neg (fun q => (gbD s).mp q s6)]
    show ∃ u : gx_S, ((gm_137 s).bind _) = _ ∧ _
    rw [sp_137 hT (by omega) s5, Option.bind_some]
    show ∃ u : gx_S, (if -2147483648 ≤ sgn tb L p ∧ sgn tb L p ≤ 2147483647 then (if ¬ sgn tb L p = 47 then gm_143_112 l M s else (if -2147483648 ≤ (s.1 215 8) ∧ (s.1 215 8) ≤ 2147483647 then (if -2147483648 ≤ (M : Int) ∧ (M : Int) ≤ 2147483647 then (if ¬ (s.1 215 8) = (M : Int) then ((gm_142 l c (gw1 s 215 5 ((s.1 215 5) + 1))).bind fun q12 => gm_143_57 n l M c q12) else ((gm_139 3 (s.1 215 5) s).bind fun q14 => gm_143_57 n l M c q14)) else none) else none)) else none) = _ ∧ _
    rw [if_pos (by omega), lyt, if_neg (show ¬ ¬ lv_ l (sgn tb L p) = -1 from fun t => t v1), if_neg (show ¬ (c = 0 ∨ ¬ (sgn tb L p = 47 ∨ sgn tb L p = -1)) by omega), if_neg kw]
    by_cases a : sgn tb L p = 47
    · have hp : p < L := Classical.byContradiction fun q => by
        have e : sgn tb L p = -1 := if_neg q
        omega
      rw [if_neg (show ¬ ¬ sgn tb L p = 47 from fun t => t a), if_pos a, s8, if_pos (show -2147483648 ≤ ((r + 1 : Nat) : Int) ∧ ((r + 1 : Nat) : Int) ≤ 2147483647 by omega), if_pos (show -2147483648 ≤ (M : Int) ∧ (M : Int) ≤ 2147483647 by omega)]
      by_cases b : M ≤ r + 1
      · obtain ⟨n, rfl⟩ : ∃ n', n = n' + 1 := ⟨n - 1, by omega⟩
        rw [if_neg (show ¬ ¬ ((r + 1 : Nat) : Int) = (M : Int) by omega), if_pos b, sp_139 f6, if_pos s6, Option.bind_some, s5]
        have x6 : (gw1 s 215 6 (8 * (p : Int) + 3)).1 215 6 = 8 * (p : Int) + 3 := by rw [gw1_1, if_pos ⟨rfl, rfl⟩]
        rw [fl_143 (by rw [x6]; omega) (by rw [x6]; unfold i32; omega)]
        exact ⟨_, rfl, CX_1 s _ (by omega), x6, fun q => by
          have q : 8 * (p : Int) + 3 = -1 := q
          omega⟩
      · have cp : ((p : Int) + 1) = ((p + 1 : Nat) : Int) := rfl
        obtain ⟨t, ht⟩ : ∃ t, t = gw1 s 215 5 ((p + 1 : Nat) : Int) := ⟨_, rfl⟩
        have tC : CX s t := by rw [ht]; exact CX_1 s _ (by omega)
        have to : ∀ k j, ¬ (k = 215 ∧ j = 5) → t.1 k j = s.1 k j := fun k j q => by rw [ht, gw1_1, if_neg q]
        rw [if_pos (show ¬ ((r + 1 : Nat) : Int) = (M : Int) by omega), if_neg b, s5, cp, ← ht]
        obtain ⟨u, u1, u2, u3⟩ := sp_142 (K := 1) (w := c) (k := k) (p := p + 1) (r := r + 1) (M := M) (x2 := (c : Int)) (h := h) hl (by rw [if_neg (by omega)]) (by omega) (by omega) (by omega) (CX_TF tC hT) ⟨by rw [to _ _ (by omega)]; exact s6, by rw [ht, gw1_1, if_pos ⟨rfl, rfl⟩], by rw [to _ _ (by omega)]; exact s8, fun i j q => by rw [to _ _ (by omega)]; exact sc i j (by omega)⟩ ⟨by omega, i2, by omega, by omega, by omega⟩ c0
        rw [u1, Option.bind_some]
        rcases u3 with ⟨f1, f2, f3⟩ | ⟨k', p', c', h', e1, e2, e3, e4, e5, e6, e7, e8, e9, e10, e11, e12, e13, e14⟩
        · obtain ⟨n, rfl⟩ : ∃ n', n = n' + 1 := ⟨n - 1, by omega⟩
          rw [fl_143 f1 f2]
          exact ⟨u, rfl, CX_tr tC u2, f3.symm, fun q => absurd (f3.symm.trans q) f1⟩
        · have ec : c' = c := by
            obtain ⟨_, _, z3, _, _⟩ := e5
            omega
          rw [ec] at e5 e6 e7 e13 e14 e1
          rw [e1]
          obtain ⟨v, v1', v2, v3⟩ := ih n (r + 1) k' p' c 1 c h' u (by omega) (by omega) e2 e3 e4 e5 e6 e7 e8 e9 e10 e11 e12 e13 e14 (CX_TF u2 (CX_TF tC hT))
          exact ⟨v, v1', CX_tr tC (CX_tr u2 v2), v3⟩
    · rw [if_pos a, if_neg a]
      unfold gm_143_112
      rw [sp_138 f6, Option.bind_some, if_neg (fun q => (gbD s).mp q s6), if_pos (show -2147483648 ≤ (l : Int) ∧ (l : Int) ≤ 2147483647 by omega)]
      have dn : RW_ s (-1, r + 1, c, h) := ⟨s6, fun _ => ⟨s8, s9, fun i j hi hj => sc i j (by
        have hi : i < r + 1 := hi
        have hj : j < c := hj
        omega)⟩⟩
      by_cases b : l = 0
      · rw [if_pos (show (l : Int) = 0 by omega), if_neg (show ¬ (¬ l = 0 ∧ r + 1 < M) from fun q => q.1 b)]
        exact ⟨s, rfl, CX_rf s, dn⟩
      · rw [if_neg (show ¬ (l : Int) = 0 by omega)]
        show ∃ u : gx_S, (if -2147483648 ≤ (s.1 215 8) ∧ (s.1 215 8) ≤ 2147483647 then (if -2147483648 ≤ (M : Int) ∧ (M : Int) ≤ 2147483647 then (if (M : Int) ≤ (s.1 215 8) then some s else ((gm_139 4 (s.1 215 5) s).bind fun q10 => some q10)) else none) else none) = _ ∧ _
        rw [s8, if_pos (show -2147483648 ≤ ((r + 1 : Nat) : Int) ∧ ((r + 1 : Nat) : Int) ≤ 2147483647 by omega), if_pos (show -2147483648 ≤ (M : Int) ∧ (M : Int) ≤ 2147483647 by omega)]
        by_cases d : r + 1 < M
        · have x6 : (gw1 s 215 6 (8 * (p : Int) + 4)).1 215 6 = 8 * (p : Int) + 4 := by rw [gw1_1, if_pos ⟨rfl, rfl⟩]
          rw [if_neg (show ¬ (M : Int) ≤ ((r + 1 : Nat) : Int) by omega), if_pos (show ¬ l = 0 ∧ r + 1 < M from ⟨b, d⟩), sp_139 f6, if_pos s6, Option.bind_some, s5]
          exact ⟨_, rfl, CX_1 s _ (by omega), x6, fun q => by
            have q : 8 * (p : Int) + 4 = -1 := q
            omega⟩
        · rw [if_pos (show (M : Int) ≤ ((r + 1 : Nat) : Int) by omega), if_neg (show ¬ (¬ l = 0 ∧ r + 1 < M) from fun q => d q.2)]
          exact ⟨s, rfl, CX_rf s, dn⟩
theorem sp_143 {L l R C : Nat} {tb : Nat → Int} {s : gx_S} (hl : l < 3) (hT : TF s L tb) (hR : s.1 216 0 = R) (hC : s.1 216 1 = C) (r8 : R ≤ 8) (c12 : C ≤ 12) (r1 : ¬ l = 0 → 1 ≤ R ∧ 1 ≤ C) : ∃ u : gx_S, gm_143 l s = some u ∧ CX s u ∧ RW_ u (lyw tb L l R C) := by
  have hL := hT.1
  obtain ⟨t, ht⟩ : ∃ t, t = gw1 (gw1 (gw1 s 215 5 0) 215 6 (-1)) 215 8 0 := ⟨_, rfl⟩
  have tC : CX s t := by rw [ht]; exact CX_tr (CX_1 s _ (by omega)) (CX_tr (CX_1 _ _ (by omega)) (CX_1 _ _ (by omega)))
  have t5 : t.1 215 5 = ((0 : Nat) : Int) := by rw [ht, gw1_1, if_neg (by omega), gw1_1, if_neg (by omega), gw1_1, if_pos ⟨rfl, rfl⟩]; rfl
  have t6 : t.1 215 6 = -1 := by rw [ht, gw1_1, if_neg (by omega), gw1_1, if_pos ⟨rfl, rfl⟩]
  have t8 : t.1 215 8 = ((0 : Nat) : Int) := by rw [ht, gw1_1, if_pos ⟨rfl, rfl⟩]; rfl
  have tR : t.1 216 0 = R := by rw [tC.2 _ _ (by omega) (by omega) (by omega)]; exact hR
  have tK : t.1 216 1 = C := by rw [tC.2 _ _ (by omega) (by omega) (by omega)]; exact hC
  have tT := CX_TF tC hT
  have st : gm_143 l s = ((gm_142 l (if (if l = 0 then 0 else 1) = 0 then -1 else ((if l = 0 then 12 else C : Nat) : Int)) t).bind fun q2 => gm_143_57 100000 l (if l = 0 then 8 else R : Nat) (q2.1 215 9) q2) := by
    unfold gm_143
    rw [if_pos (by omega), ← ht, tR]
    by_cases a : l = 0
    · rw [if_neg (show ¬ ¬ (l : Int) = 0 by omega)]
      unfold gm_143_30
      rw [if_pos (show -2147483648 ≤ (l : Int) ∧ (l : Int) ≤ 2147483647 by omega), if_neg (show ¬ ¬ (l : Int) = 0 by omega)]
      unfold gm_143_45
      rw [if_pos a, if_pos rfl, if_pos a]
      rfl
    · rw [if_pos (show ¬ (l : Int) = 0 by omega)]
      unfold gm_143_30
      rw [if_pos (show -2147483648 ≤ (l : Int) ∧ (l : Int) ≤ 2147483647 by omega), if_pos (show ¬ (l : Int) = 0 by omega), tK]
      unfold gm_143_45
      rw [if_neg a, if_neg (show ¬ (1 : Nat) = 0 by omega), if_neg a, if_neg a]
  have w0 : 0 < (if l = 0 then 12 else C) := by
    by_cases a : l = 0
    · rw [if_pos a]; omega
    · rw [if_neg a]; exact (r1 a).2
  have I : LI (if l = 0 then 8 else R) 0 0 (if l = 0 then 0 else 1) (if l = 0 then 12 else C) := by
    by_cases a : l = 0
    · rw [if_pos a, if_pos a, if_pos a]
      exact ⟨by omega, by omega, by omega, by omega, by omega⟩
    · rw [if_neg a, if_neg a, if_neg a]
      have := r1 a
      exact ⟨by omega, by omega, by omega, by omega, by omega⟩
  obtain ⟨u, u1, u2, u3⟩ := sp_142 (M := if l = 0 then 8 else R) (K := if l = 0 then 0 else 1) (w := if l = 0 then 12 else C) (k := L + 1) (p := 0) (r := 0) (x2 := if (if l = 0 then 0 else 1) = 0 then -1 else ((if l = 0 then 12 else C : Nat) : Int)) (h := fun _ _ => 0) hl rfl (by omega) (by omega) (by omega) tT ⟨t6, t5, t8, fun i j q => by omega⟩ I w0
  rw [st, u1, Option.bind_some]
  unfold lyw
  rcases u3 with ⟨f1, f2, f3⟩ | ⟨k', p', c', h', e1, e2, e3, e4, e5, e6, e7, e8, e9, e10, e11, e12, e13, e14⟩
  · rw [show (100000 : Nat) = 99999 + 1 from rfl, fl_143 f1 f2]
    exact ⟨u, rfl, CX_tr tC u2, f3.symm, fun q => absurd (f3.symm.trans q) f1⟩
  · obtain ⟨v, v1, v2, v3⟩ := sl_143_57 hl 8 100000 0 k' p' c' _ _ h' u (by have := I.2.1; omega) (by omega) e2 e3 e4 e5 e6 e7 e8 e9 e10 e11 e12 e13 e14 (CX_TF u2 tT)
    rw [e1, e13, v1]
    exact ⟨v, rfl, CX_tr tC (CX_tr u2 v2), v3⟩
