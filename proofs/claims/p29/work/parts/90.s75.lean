/-! CALLS: counts -/
theorem sl_147_49 {L : Nat} {tb : Nat → Int} : ∀ (k p n : Nat) (T : Int) (h : Nat → Int) (s : gx_S), L < p + 4 * k → p ≤ L → k < n → TF s L tb → s.1 215 5 = p → s.1 215 6 = -1 → s.1 215 11 = T → (∀ j, j < 9 → s.1 220 j = h j) → ∃ u : gx_S, gm_147_49 n 1 s = some u ∧ CR s u ∧ u.1 215 6 = (cts tb L k T p h).1 ∧ ((cts tb L k T p h).1 = -1 → ∀ j, j < 9 → u.1 220 j = (cts tb L k T p h).2 j) := by
  intro k
  induction k with
  | zero => intro p n T h s h1 h2; omega
  | succ k ih =>
    intro p n T h s h1 h2 h3 hT e5 e6 e11 eh
    obtain ⟨n, rfl⟩ : ∃ n', n = n' + 1 := ⟨n - 1, by omega⟩
    have hL := hT.1
    have sr := sgn_rf hT
    obtain ⟨pr1, pr2⟩ := prt_r (T := T) (fun q => (sr q).1) h2 hL
    obtain ⟨u, u1, uC, u2, u3⟩ := sp_146 hT h2 e5 e6 e11
    have ui : i32 (u.1 215 6) := by rw [u2]; unfold i32; omega
    have uT := CR_TF uC hT
    rw [gm_147_49, if_pos (show (-2147483648 : Int) ≤ 1 ∧ (1 : Int) ≤ 2147483647 by decide), if_neg (show ¬ (1 : Int) = 0 by decide), u1, Option.bind_some, sp_138 ui, Option.bind_some, cts_s]
    have st : ∀ y, u.1 215 5 = y → gm_147_78 (gm_147_49 n) 0 u = gm_147_49 n 0 (gw1 u 215 5 y) := fun y hy => by
      unfold gm_147_78
      rw [sp_131 (.inl rfl) u, Option.bind_some]
      show gm_147_49 n 0 (gw1 u 215 5 (u.1 215 5 + 0)) = _
      rw [hy, show y + 0 = y by omega]
    by_cases z : prt tb L T p = -1
    · obtain ⟨p1, p2, p3, p4⟩ := pr2 z
      obtain ⟨v1, v2, v3⟩ := u3 z
      have sq := sr (pe tb L p)
      rw [if_neg (fun t => (gbD u).mp t (u2.trans z)), if_neg (show ¬ ¬ prt tb L T p = -1 from fun t => t z)]
      show ∃ v : gx_S, ((gm_137 u).bind _) = _ ∧ _
      rw [sp_137 uT (by omega) v1, Option.bind_some]
      show ∃ v : gx_S, (if -2147483648 ≤ sgn tb L (pe tb L p) ∧ sgn tb L (pe tb L p) ≤ 2147483647 then (if ¬ sgn tb L (pe tb L p) = 44 then gm_147_78 (gm_147_49 n) 0 u else gm_147_78 (gm_147_49 n) 1 u) else none) = _ ∧ _
      rw [if_pos (by omega)]
      by_cases c : sgn tb L (pe tb L p) = 44
      · have hq : pe tb L p < L := Classical.byContradiction fun h => by
          have : sgn tb L (pe tb L p) = -1 := if_neg h
          omega
        have cp : ((pe tb L p : Int) + 1) = ((pe tb L p + 1 : Nat) : Int) := rfl
        rw [if_neg (fun t => t c), if_pos c]
        unfold gm_147_78
        rw [sp_131 (.inr rfl) u, Option.bind_some]
        show ∃ v : gx_S, (gm_147_49 n 1 (gw1 u 215 5 (u.1 215 5 + 1))) = _ ∧ _
        rw [v1, cp]
        have o : ∀ k j, ¬ (k = 215 ∧ j = 5) → (gw1 u 215 5 ((pe tb L p + 1 : Nat) : Int)).1 k j = u.1 k j := fun k j q => by rw [gw1_1, if_neg q]
        have oC : CR u (gw1 u 215 5 ((pe tb L p + 1 : Nat) : Int)) := CR_1 u _ (by omega)
        obtain ⟨w, w1, w2, w3, w4⟩ := ih (pe tb L p + 1) n (bset T (sl (sgn tb L p))) (uph h (sl (sgn tb L p)) (pv tb L p)) (gw1 u 215 5 ((pe tb L p + 1 : Nat) : Int)) (by omega) (by omega) (by omega) (CR_TF oC uT) (by rw [gw1_1, if_pos ⟨rfl, rfl⟩]) (by rw [o _ _ (by omega), u2, z]) (by rw [o _ _ (by omega), v2]) (fun j hj => by rw [o _ _ (by omega), v3 j]; exact uph_c (eh j hj) _ _)
        exact ⟨w, w1, CR_tr uC (CR_tr oC w2), w3, w4⟩
      · obtain ⟨n, rfl⟩ : ∃ n', n = n' + 1 := ⟨n - 1, by omega⟩
        obtain ⟨t, ht⟩ : ∃ t, t = gw1 u 215 5 (pe tb L p : Int) := ⟨_, rfl⟩
        have to : ∀ k j, ¬ (k = 215 ∧ j = 5) → t.1 k j = u.1 k j := fun k j q => by rw [ht, gw1_1, if_neg q]
        have tC : CR u t := by rw [ht]; exact CR_1 u _ (by omega)
        have t6 : t.1 215 6 = -1 := by rw [to _ _ (by omega), u2, z]
        have t5 : t.1 215 5 = (pe tb L p : Int) := by rw [ht, gw1_1, if_pos ⟨rfl, rfl⟩]
        rw [if_pos c, st _ v1, if_neg c, ← ht, gm_147_49, if_pos (show (-2147483648 : Int) ≤ 0 ∧ (0 : Int) ≤ 2147483647 by decide), if_pos rfl, sp_138 (by rw [t6]; unfold i32; omega), Option.bind_some, if_neg (fun q => (gbD u).mp q t6)]
        show ∃ v : gx_S, ((gm_137 t).bind _) = _ ∧ _
        rw [sp_137 (CR_TF tC uT) (by omega) t5, Option.bind_some]
        show ∃ v : gx_S, (if -2147483648 ≤ sgn tb L (pe tb L p) ∧ sgn tb L (pe tb L p) ≤ 2147483647 then (if sgn tb L (pe tb L p) = -1 then some t else ((gm_139 1 (t.1 215 5) t).bind fun q11 => some q11)) else none) = _ ∧ _
        rw [if_pos (by omega), sp_139 (by rw [t6]; unfold i32; omega), if_pos t6, Option.bind_some, t5]
        by_cases d : sgn tb L (pe tb L p) = -1
        · rw [if_pos d, if_pos d]
          exact ⟨t, rfl, CR_tr uC tC, t6, fun _ j hj => by rw [to _ _ (by omega), v3 j]; exact uph_c (eh j hj) _ _⟩
        · rw [if_neg d, if_neg d]
          exact ⟨_, rfl, CR_tr uC (CR_tr tC (CR_1 t _ (by omega))), by rw [gw1_1, if_pos ⟨rfl, rfl⟩], fun h => by omega⟩
    · obtain ⟨n, rfl⟩ : ∃ n', n = n' + 1 := ⟨n - 1, by omega⟩
      obtain ⟨t, ht⟩ : ∃ t, t = gw1 u 215 5 (u.1 215 5) := ⟨_, rfl⟩
      have tC : CR u t := by rw [ht]; exact CR_1 u _ (by omega)
      have t6 : t.1 215 6 = prt tb L T p := by rw [ht, gw1_1, if_neg (by omega)]; exact u2
      rw [if_pos ((gbD u).mpr (by rw [u2]; exact z)), if_pos z]
      show ∃ v : gx_S, gm_147_78 (gm_147_49 (n + 1)) 0 u = _ ∧ _
      rw [st _ rfl, ← ht, gm_147_49, if_pos (show (-2147483648 : Int) ≤ 0 ∧ (0 : Int) ≤ 2147483647 by decide), if_pos rfl, sp_138 (by rw [t6]; unfold i32; omega), Option.bind_some, if_pos ((gbD u).mpr (by rw [t6]; exact z))]
      exact ⟨t, rfl, CR_tr uC tC, t6, fun h => absurd h z⟩
theorem sl_147_17 : ∀ (m j : Nat) (s : gx_S), 9 < m + j → j ≤ 9 → s.1 215 4 ≤ 200 → 0 ≤ s.1 215 4 → ∃ u : gx_S, gm_147_17 m j s = gm_147_48 (if s.1 215 4 = 0 then 0 else 1) u ∧ u.2 = s.2 ∧ (∀ k i, k ≠ 220 → u.1 k i = s.1 k i) ∧ ∀ i, u.1 220 i = if j ≤ i ∧ i < 9 then 0 else s.1 220 i := by
  intro m
  induction m with
  | zero => intro j s h; omega
  | succ m ih =>
    intro j s h hj e1 e2
    rw [gm_147_17, if_pos (by omega)]
    by_cases q : j = 9
    · rw [if_pos (by omega), if_pos (by omega)]
      refine ⟨s, ?_, rfl, fun _ _ _ => rfl, fun i => by rw [if_neg (by omega)]⟩
      by_cases z : s.1 215 4 = 0
      · rw [if_pos (by omega), if_pos z]
      · rw [if_neg (by omega), if_neg z]
    · have ce : ((j : Int) + 1) = ((j + 1 : Nat) : Int) := rfl
      have i5 : ((j : Int)).toNat = j := by omega
      have x4 : (gw1 s 220 j 0).1 215 4 = s.1 215 4 := by rw [gw1_1, if_neg (by omega)]
      rw [if_neg (by omega), if_pos (by omega), i5, ce]
      obtain ⟨u, u1, u2, u3, u4⟩ := ih (j + 1) (gw1 s 220 j 0) (by omega) (by omega) (by rw [x4]; exact e1) (by rw [x4]; exact e2)
      rw [x4] at u1
      refine ⟨u, u1, u2, fun k i h1 => by rw [u3 k i h1, gw1_1, if_neg (fun x => h1 x.1)], fun i => ?_⟩
      rw [u4, gw1_1]
      by_cases y : i = j
      · rw [if_neg (show ¬ (j + 1 ≤ i ∧ i < 9) by omega), if_pos ⟨rfl, y⟩, if_pos (show j ≤ i ∧ i < 9 by omega)]
      · by_cases y2 : j + 1 ≤ i ∧ i < 9
        · rw [if_pos y2, if_pos (show j ≤ i ∧ i < 9 by omega)]
        · rw [if_neg y2, if_neg (show ¬ (220 = 220 ∧ i = j) from fun x => y x.2), if_neg (show ¬ (j ≤ i ∧ i < 9) by omega)]
theorem sp_147 {L : Nat} {tb : Nat → Int} {s : gx_S} (hT : TF s L tb) : ∃ u : gx_S, gm_147 s = some u ∧ CR s u ∧ u.1 215 6 = (ctw tb L).1 ∧ ((ctw tb L).1 = -1 → ∀ j, j < 9 → u.1 220 j = (ctw tb L).2 j) := by
  have hL := hT.1
  obtain ⟨b, hb⟩ : ∃ b, b = gw1 (gw1 (gw1 s 215 5 0) 215 6 (-1)) 215 11 0 := ⟨_, rfl⟩
  have bC : CR s b := by rw [hb]; exact CR_tr (CR_1 s _ (by omega)) (CR_tr (CR_1 _ _ (by omega)) (CR_1 _ _ (by omega)))
  have b5 : b.1 215 5 = ((0 : Nat) : Int) := by rw [hb, gw1_1, if_neg (by omega), gw1_1, if_neg (by omega), gw1_1, if_pos ⟨rfl, rfl⟩]; rfl
  have b6 : b.1 215 6 = -1 := by rw [hb, gw1_1, if_neg (by omega), gw1_1, if_pos ⟨rfl, rfl⟩]
  have b11 : b.1 215 11 = 0 := by rw [hb, gw1_1, if_pos ⟨rfl, rfl⟩]
  have bT := CR_TF bC hT
  obtain ⟨a, a1, a2, a3, a4⟩ := sl_147_17 100000 0 b (by omega) (by omega) (by rw [bT.2.1]; omega) (by rw [bT.2.1]; omega)
  have a1 : gm_147_17 100000 0 b = _ := a1
  have aC : CR b a := ⟨a2, fun k j q1 q2 => a3 k j q1⟩
  have aT := CR_TF aC bT
  have a220 : ∀ j, j < 9 → a.1 220 j = 0 := fun j hj => by rw [a4, if_pos (by omega)]
  have a5 : a.1 215 5 = ((0 : Nat) : Int) := by rw [a3 _ _ (by decide)]; exact b5
  have a6 : a.1 215 6 = -1 := by rw [a3 _ _ (by decide)]; exact b6
  have a11 : a.1 215 11 = 0 := by rw [a3 _ _ (by decide)]; exact b11
  unfold gm_147 ctw
  rw [← hb, a1, bT.2.1]
  by_cases z : L = 0
  · rw [if_pos (show (L : Int) = 0 by omega), if_pos z]
    refine ⟨a, ?_, CR_tr bC aC, a6, fun _ j hj => a220 j hj⟩
    have sg0 : sgn tb L 0 = -1 := if_neg (by omega)
    unfold gm_147_48
    rw [gm_147_49, if_pos (show (-2147483648 : Int) ≤ 0 ∧ (0 : Int) ≤ 2147483647 by decide), if_pos rfl, sp_138 (by rw [a6]; unfold i32; omega), Option.bind_some, if_neg (fun q => (gbD a).mp q a6)]
    show ((gm_137 a).bind _) = _
    rw [sp_137 aT (by omega) a5, Option.bind_some, sg0, if_pos (show (-2147483648 : Int) ≤ -1 ∧ (-1 : Int) ≤ 2147483647 by decide), if_pos rfl]
  · obtain ⟨u, u1, u2, u3, u4⟩ := sl_147_49 51 0 100000 0 (fun _ => 0) a (by omega) (by omega) (by omega) aT a5 a6 a11 a220
    rw [if_neg (show ¬ (L : Int) = 0 by omega), if_neg z]
    exact ⟨u, u1, CR_tr bC (CR_tr aC u2), u3, u4⟩
