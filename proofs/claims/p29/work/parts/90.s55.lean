/-! THE CLASS: who lives where -/
theorem gm_41_74 {t : Nat} {s v u : gx_S} (ht : fx_oc t 7 = true) (h : gm_70 t s = some v) (h' : gm_41 t 0 s = some u) : gm_74 t v = some u := by
  unfold gm_41 at h'
  rw [if_pos ht, h, Option.bind_some, if_pos (by decide), if_neg (by decide)] at h'
  cases e : gm_74 t v with
  | none =>
    rw [e] at h'
    cases h'
  | some w =>
    rw [e, Option.bind_some] at h'
    exact h'
theorem sl_22_13 {f : Nat → Int} {R C g a : Nat} (M : MP f R C) (hg : g < 3) (h71 : 71 ≤ a) (ho : fx_oc a 2 = true) (ht : fx_oc (a + 39) 7 = true) : ∀ (n j : Nat) (s : gx_S), 8 < n + j → j ≤ 8 → MR s 1 f R C → s.1 a 9 = g → ∃ (n' : Nat) (u : gx_S), gm_22_13 n a (sg (L0 f R C g) j) (sg (fun z => NC f R C 0 z) j) j s = gm_22_13 (n' + 1) a (sg (L0 f R C g) 8) (sg (fun z => NC f R C 0 z) 8) 8 u ∧ u.2 = s.2 ∧ (∀ k i, k ≠ a + 1 → k ≠ a + 39 + 4 → k ≠ a + 39 + 5 → u.1 k i = s.1 k i) ∧ (∀ i, u.1 (a + 1) i = if j ≤ i ∧ i < 8 then L0 f R C g i else s.1 (a + 1) i) ∧ (∀ i, u.1 (a + 39 + 4) i = s.1 (a + 39 + 4) i + if j ≤ i ∧ i < 8 then L0 f R C g i else 0) ∧ ∀ i, u.1 (a + 39 + 5) i = s.1 (a + 39 + 5) i + if j ≤ i ∧ i < 8 then NC f R C 0 i else 0 := by
  intro n
  induction n with
  | zero => intro j s h; omega
  | succ n ih =>
    intro j s h hj m e9
    by_cases q : j = 8
    · rw [q]
      exact ⟨n, s, rfl, rfl, fun _ _ _ _ _ => rfl, fun i => by rw [if_neg (by omega)], fun i => by rw [if_neg (by omega)]; omega, fun i => by rw [if_neg (by omega)]; omega⟩
    · have ce : ((j : Int) + 1) = ((j + 1 : Nat) : Int) := rfl
      have i5 : ((j : Int)).toNat = j := by omega
      have c62 := sp_62g m M 0 j (by omega) (by omega)
      have c62 : gm_62 1 0 j s = _ := c62
      obtain ⟨p1, p2⟩ := gx_a_p (ga_2_0 ho)
      have nn := NC_nn f R C 0 j
      have hRC := RC_96 M.1.2.2.1 M.1.2.2.2
      rw [← Int.natCast_mul] at nn
      have st : ∀ v : Int, gm_22_61 (gm_22_13 n) a (sg (L0 f R C g) j) (sg (fun z => NC f R C 0 z) j) j (NC f R C 0 j) (a + 1) j v s = gm_22_13 n a (sg (L0 f R C g) j + v) (sg (fun z => NC f R C 0 z) j + NC f R C 0 j) ((j + 1 : Nat) : Int) (adt (gw1 s (a + 1) j v) (a + 39) 0 j v (NC f R C 0 j)) := fun v => by
        have x1 : (gw1 s (a + 1) j v).1 (a + 1) j = v := by rw [gw1_1, if_pos ⟨rfl, rfl⟩]
        have x2 : (adt (gw1 s (a + 1) j v) (a + 39) 0 j v (NC f R C 0 j)).1 (a + 1) j = v := by rw [adt_o _ _ _ _ _ _ _ _ (by omega) (by omega), x1]
        have c69 := sp_69 (t := a + 39) (x := 0) (y := j) (v := v) (w := NC f R C 0 j) (gw1 s (a + 1) j v) ht (by omega) (by omega)
        have c69 : gm_69 (a + 39) 0 j v (NC f R C 0 j) (gw1 s (a + 1) j v) = _ := c69
        unfold gm_22_61
        rw [if_pos p1, if_pos (by rw [p2]; omega), if_pos (by omega), i5, x1, c69, Option.bind_some, x2, ce]
      have one : gm_22_13 (n + 1) a (sg (L0 f R C g) j) (sg (fun z => NC f R C 0 z) j) j s = gm_22_13 n a (sg (L0 f R C g) (j + 1)) (sg (fun z => NC f R C 0 z) (j + 1)) ((j + 1 : Nat) : Int) (adt (gw1 s (a + 1) j (L0 f R C g j)) (a + 39) 0 j (L0 f R C g j) (NC f R C 0 j)) := by
        have s1 : sg (L0 f R C g) (j + 1) = sg (L0 f R C g) j + L0 f R C g j := rfl
        have s2 : sg (fun z => NC f R C 0 z) (j + 1) = sg (fun z => NC f R C 0 z) j + NC f R C 0 j := rfl
        rw [s1, s2, ← st, gm_22_13, if_pos (by omega), if_neg (by omega), c62, Option.bind_some, if_pos (by omega)]
        by_cases z : NC f R C 0 j ≤ 0
        · rw [if_pos z, show L0 f R C g j = 0 from if_neg (by omega)]
        · have e3 : s.1 3 (9 * g + j) = f (5 + 9 * g + j) := by
            have := m.2.2.2.2.2.1 (9 * g + j) (by omega)
            rw [show (1 : Nat) + 2 = 3 from rfl] at this
            rw [this]
            congr 1
            omega
          have i3 : (((g : Int) * 9) + (j : Int)).toNat = 9 * g + j := by omega
          rw [if_neg z, e9, if_pos (by omega), i3, e3, show L0 f R C g j = f (5 + 9 * g + j) from if_pos (by omega)]
      obtain ⟨t, ht'⟩ : ∃ t, t = adt (gw1 s (a + 1) j (L0 f R C g j)) (a + 39) 0 j (L0 f R C g j) (NC f R C 0 j) := ⟨_, rfl⟩
      rw [← ht'] at one
      have to : ∀ k i, k ≠ a + 1 → k ≠ a + 39 + 4 → k ≠ a + 39 + 5 → t.1 k i = s.1 k i := fun k i h1 h2 h3 => by
        rw [ht', adt_o _ _ _ _ _ _ _ _ h2 h3, gw1_1, if_neg (fun x => h1 x.1)]
      have t2 : t.2 = s.2 := by rw [ht']; rfl
      have tm : MR t 1 f R C := by
        obtain ⟨m1, m2, m3, m4, m5, m6, m7, m8, m9⟩ := m
        refine ⟨by rw [to _ _ (by omega) (by omega) (by omega)]; exact m1, by rw [to _ _ (by omega) (by omega) (by omega)]; exact m2, by rw [to _ _ (by omega) (by omega) (by omega)]; exact m3, by rw [to _ _ (by omega) (by omega) (by omega)]; exact m4, by rw [to _ _ (by omega) (by omega) (by omega)]; exact m5, fun i hi => by rw [to _ _ (by omega) (by omega) (by omega)]; exact m6 i hi, fun i hi => by rw [to _ _ (by omega) (by omega) (by omega)]; exact m7 i hi, fun i hi => by rw [to _ _ (by omega) (by omega) (by omega)]; exact m8 i hi, fun l hl b k hk => by rw [to _ _ (by omega) (by omega) (by omega)]; exact m9 l hl b k hk⟩
      have t1 : ∀ i, t.1 (a + 1) i = if i = j then L0 f R C g j else s.1 (a + 1) i := fun i => by
        rw [ht', adt_o _ _ _ _ _ _ _ _ (by omega) (by omega), gw1_1]
        by_cases e : i = j
        · rw [if_pos ⟨rfl, e⟩, if_pos e]
        · rw [if_neg (fun h => e h.2), if_neg e]
      have t4 : ∀ i, t.1 (a + 39 + 4) i = s.1 (a + 39 + 4) i + if i = j then L0 f R C g j else 0 := fun i => by
        rw [ht', adt_4, gw1_1, if_neg (by omega)]
        by_cases e : i = j
        · rw [if_pos (by omega), if_pos e]
        · rw [if_neg (by omega), if_neg e]
      have t5 : ∀ i, t.1 (a + 39 + 5) i = s.1 (a + 39 + 5) i + if i = j then NC f R C 0 j else 0 := fun i => by
        rw [ht', adt_5, gw1_1, if_neg (by omega)]
        by_cases e : i = j
        · rw [if_pos (by omega), if_pos e]
        · rw [if_neg (by omega), if_neg e]
      obtain ⟨n', u, u1, u2, u3, u4, u5, u6⟩ := ih (j + 1) t (by omega) (by omega) tm (by rw [to _ _ (by omega) (by omega) (by omega)]; exact e9)
      refine ⟨n', u, one.trans u1, u2.trans t2, fun k i h1 h2 h3 => (u3 k i h1 h2 h3).trans (to k i h1 h2 h3), fun i => ?_, fun i => ?_, fun i => ?_⟩
      · rw [u4, t1]
        by_cases e : i = j
        · rw [if_neg (by omega), if_pos e, if_pos (by omega), e]
        · rw [if_neg e]
          by_cases e2 : j + 1 ≤ i ∧ i < 8
          · rw [if_pos e2, if_pos (by omega)]
          · rw [if_neg e2, if_neg (by omega)]
      · rw [u5, t4]
        by_cases e : i = j
        · rw [if_neg (show ¬ (j + 1 ≤ i ∧ i < 8) by omega), if_pos e, if_pos (show j ≤ i ∧ i < 8 by omega), e]
          omega
        · rw [if_neg e]
          by_cases e2 : j + 1 ≤ i ∧ i < 8
          · rw [if_pos e2, if_pos (by omega)]
            omega
          · rw [if_neg e2, if_neg (by omega)]
            omega
      · rw [u6, t5]
        by_cases e : i = j
        · rw [if_neg (show ¬ (j + 1 ≤ i ∧ i < 8) by omega), if_pos e, if_pos (show j ≤ i ∧ i < 8 by omega), e]
          omega
        · rw [if_neg e]
          by_cases e2 : j + 1 ≤ i ∧ i < 8
          · rw [if_pos e2, if_pos (by omega)]
            omega
          · rw [if_neg e2, if_neg (by omega)]
            omega
theorem sl_22_176 {a : Nat} : ∀ (n j : Nat) (t : gx_S), 8 < n + j → j ≤ 8 → ∃ u : gx_S, gm_22_176 n a j t = some u ∧ u.2 = t.2 ∧ (∀ k i, k ≠ a + 1 → u.1 k i = t.1 k i) ∧ ∀ i, u.1 (a + 1) i = t.1 (a + 1) i + if j ≤ i ∧ i < 8 then t.1 (a + 39 + 8) i else 0 := by
  intro n
  induction n with
  | zero => intro j t h; omega
  | succ n ih =>
    intro j t h hj
    rw [gm_22_176, if_pos (by omega)]
    by_cases q : j = 8
    · rw [if_pos (by omega)]
      exact ⟨t, rfl, rfl, fun _ _ _ => rfl, fun i => by rw [if_neg (by omega)]; omega⟩
    · have ce : ((j : Int) + 1) = ((j + 1 : Nat) : Int) := rfl
      have i5 : ((j : Int)).toNat = j := by omega
      rw [if_neg (by omega), if_pos (by omega), if_pos (by omega), i5, ce]
      obtain ⟨u, u1, u2, u3, u4⟩ := ih (j + 1) (gw1 t (a + 1) j (t.1 (a + 1) j + t.1 (a + 39 + 8) j)) (by omega) (by omega)
      refine ⟨u, u1, u2, fun k i h1 => ?_, fun i => ?_⟩
      · rw [u3 k i h1, gw1_1, if_neg (fun x => h1 x.1)]
      · rw [u4, gw1_1, gw1_1 _ _ _ _ (a + 39 + 8) i, if_neg (show ¬ (a + 39 + 8 = a + 1 ∧ i = j) by omega)]
        by_cases e : i = j
        · rw [if_pos ⟨rfl, e⟩, if_neg (by omega), if_pos (by omega), e]
          omega
        · rw [if_neg (fun x => e x.2)]
          by_cases e2 : j + 1 ≤ i ∧ i < 8
          · rw [if_pos e2, if_pos (by omega)]
          · rw [if_neg e2, if_neg (by omega)]
