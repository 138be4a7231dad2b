/-! THE CLASS's SEARCH: what is spread from a column; the whole search -/
theorem sl_49 {st u : Nat} (hu : u < 9) : ∀ (n c : Nat) (s : gx_S) (q j : Nat), BF s st q → RG s → j < q → s.1 13 j = ((8 + u : Nat) : Int) → 8 < n + c → c ≤ 8 → (∀ v, arc s (8 + u) v → (v < c ∨ v = 17) → s.1 12 v ≠ -1) → ∃ (t : gx_S) (q' : Nat), gm_49_27 n u c s = some t ∧ BF t st q' ∧ q ≤ q' ∧ ext s t ∧ ∀ v, arc s (8 + u) v → t.1 12 v ≠ -1 := by
  intro n
  induction n with
  | zero => intro c s q j B R hj hq hn hc hd; omega
  | succ n ih =>
    intro c s q j B R hj hq hn hc hd
    by_cases e : c = 8
    · refine ⟨s, q, ?_, B, Nat.le_refl _, ext_rf s, fun v hv => hd v hv (by unfold arc at hv; omega)⟩
      rw [gm_49_27]
      simp (disch := omega) only [if_pos]
    · have i1 : ((c : Int) * 9 + u).toNat = 9 * c + u := by omega
      have i2 : (8 : Int) + u = ((8 + u : Nat) : Int) := by omega
      have i3 : ((c : Int) + 1) = ((c + 1 : Nat) : Int) := by omega
      have i4 : 8 + u - 8 = u := by omega
      obtain ⟨r1, r2⟩ := R.1 (9 * c + u) (by omega)
      have ae : arc s (8 + u) c ↔ s.1 7 (9 * c + u) = 1 ∧ s.1 8 (9 * c + u) = 1 := by
        unfold arc
        rw [i4]
        constructor
        · rintro (h | ⟨_, _, _, h1, h2⟩ | h | h)
          · omega
          · exact ⟨h1, h2⟩
          · omega
          · omega
        · intro h
          exact .inr (.inl ⟨by omega, by omega, by omega, h.1, h.2⟩)
      by_cases a : arc s (8 + u) c
      · obtain ⟨a7, a8⟩ := ae.mp a
        obtain ⟨t, q', t1, t2, t3, t4, t5⟩ := sp_47 (v := c) B (by omega) (by omega) hj hq a
        obtain ⟨w, q2, w1, w2, w3, w4, w5⟩ := ih (c + 1) t q' j t2 (RG_ext t4 R) (by omega) ((t4.2.2.2 j (by rw [B.1]; omega)).trans hq) (by omega) (by omega) (fun v hv h => by
          by_cases ev : v = c
          · rw [ev]; exact t5
          · have hv1 := (arc_ext t4 (8 + u) v).mp hv
            have h1 := hd v hv1 (by omega)
            rw [t4.2.2.1 v (by unfold arc at hv1; omega) h1]
            exact h1)
        refine ⟨w, q2, ?_, w2, by omega, ext_tr t4 w4 (by rw [B.1, t2.1]; omega), fun v hv => w5 v ((arc_ext t4 (8 + u) v).mpr hv)⟩
        rw [gm_49_27, i1, a7, a8, i2, t1]
        simp (disch := omega) only [if_pos, if_neg, Option.bind_some, gm_49_69, i3]
        exact w1
      · obtain ⟨w, q2, w1, w2, w3, w4, w5⟩ := ih (c + 1) s q j B R hj hq (by omega) (by omega) (fun v hv h => by
          by_cases ev : v = c
          · rw [ev] at hv; exact absurd hv a
          · exact hd v hv (by omega))
        refine ⟨w, q2, ?_, w2, w3, w4, w5⟩
        rw [gm_49_27, i1]
        by_cases a7 : s.1 7 (9 * c + u) = 1
        · have a8 : s.1 8 (9 * c + u) = 0 := by
            have : ¬ s.1 8 (9 * c + u) = 1 := fun h => a (ae.mpr ⟨a7, h⟩)
            omega
          rw [a7, a8]
          simp (disch := omega) only [if_pos, if_neg, Option.bind_some, gm_49_69, i3]
          exact w1
        · simp (disch := omega) only [if_pos, if_neg, Option.bind_some, gm_49_69, i3]
          exact w1
theorem sp_49 {s : gx_S} {st q u j : Nat} (B : BF s st q) (R : RG s) (hu : u < 9) (hj : j < q) (hq : s.1 13 j = ((8 + u : Nat) : Int)) : ∃ (t : gx_S) (q' : Nat), gm_49 u s = some t ∧ BF t st q' ∧ q ≤ q' ∧ ext s t ∧ ∀ v, arc s (8 + u) v → t.1 12 v ≠ -1 := by
  have i2 : (8 : Int) + u = ((8 + u : Nat) : Int) := by omega
  have i4 : 8 + u - 8 = u := by omega
  have i5 : ((u : Int)).toNat = u := by omega
  obtain ⟨r1, r2, r3⟩ := R.2 u hu
  unfold i32 at r1 r2 r3
  have ae : arc s (8 + u) 17 ↔ s.1 11 u < s.1 10 u := by
    unfold arc
    rw [i4]
    omega
  by_cases a : arc s (8 + u) 17
  · have a7 := ae.mp a
    obtain ⟨t, q', t1, t2, t3, t4, t5⟩ := sp_47 (v := 17) B (by omega) (by omega) hj hq a
    obtain ⟨w, q2, w1, w2, w3, w4, w5⟩ := sl_49 hu 100000 0 t q' j t2 (RG_ext t4 R) (by omega) ((t4.2.2.2 j (by rw [B.1]; omega)).trans hq) (by omega) (by omega) (fun v hv h => by
      have : v = 17 := by omega
      rw [this]
      exact t5)
    refine ⟨w, q2, ?_, w2, by omega, ext_tr t4 w4 (by rw [B.1, t2.1]; omega), fun v hv => w5 v ((arc_ext t4 (8 + u) v).mpr hv)⟩
    unfold gm_49
    rw [i5, i2]
    simp (disch := omega) only [if_pos, if_neg]
    rw [show (17 : Int) = ((17 : Nat) : Int) from rfl, t1]
    simp only [Option.bind_some, gm_49_25]
    exact w1
  · have a7 : ¬ s.1 11 u < s.1 10 u := fun h => a (ae.mpr h)
    obtain ⟨w, q2, w1, w2, w3, w4, w5⟩ := sl_49 hu 100000 0 s q j B R hj hq (by omega) (by omega) (fun v hv h => by
      have : v = 17 := by omega
      rw [this] at hv
      exact absurd hv a)
    refine ⟨w, q2, ?_, w2, w3, w4, w5⟩
    unfold gm_49
    rw [i5]
    simp (disch := omega) only [if_pos, if_neg, gm_49_25]
    exact w1
/-- any found node is spread by one of the three -/
theorem sp_spread {s : gx_S} {st q u j : Nat} (B : BF s st q) (R : RG s) (hu : u < 18) (hj : j < q) (hq : s.1 13 j = u) : ∃ (t : gx_S) (q' : Nat), (if 8 ≤ (u : Int) then (if 17 ≤ (u : Int) then gm_50 s else gm_49 ((u : Int) - 8) s) else gm_48 u s) = some t ∧ BF t st q' ∧ q ≤ q' ∧ ext s t ∧ ∀ v, arc s u v → t.1 12 v ≠ -1 := by
  by_cases h1 : u < 8
  · obtain ⟨t, q', h⟩ := sp_48 B R h1 hj hq
    exact ⟨t, q', by rw [if_neg (by omega)]; exact h.1, h.2⟩
  · by_cases h2 : u = 17
    · subst h2
      obtain ⟨t, q', h⟩ := sp_50 B R hj hq
      exact ⟨t, q', by rw [if_pos (by omega), if_pos (by omega)]; exact h.1, h.2⟩
    · obtain ⟨c, rfl⟩ : ∃ c, u = 8 + c := ⟨u - 8, by omega⟩
      obtain ⟨t, q', h⟩ := sp_49 (u := c) B R (by omega) hj hq
      exact ⟨t, q', by rw [if_pos (by omega), if_neg (by omega), show ((8 + c : Nat) : Int) - 8 = c by omega]; exact h.1, h.2⟩
theorem sl_46 {st g : Nat} (hg : g < 18) : ∀ (n i : Nat) (s : gx_S) (q : Nat), BF s st q → RG s → 18 < n + i → i ≤ q → (∀ j (u : Nat), j < i → s.1 13 j = (u : Int) → ∀ v, arc s u v → s.1 12 v ≠ -1) → ∃ (t : gx_S) (q' : Nat) (b : Bool), gm_46_21 n g i s = some (b, t) ∧ BF t st q' ∧ q ≤ q' ∧ ext s t ∧ (b = true ↔ t.1 12 g ≠ -1) ∧ (b = false → ∀ u v : Nat, u < 18 → t.1 12 u ≠ -1 → arc s u v → t.1 12 v ≠ -1) := by
  intro n
  induction n with
  | zero =>
    intro i s q B R hn hi
    have : (q : Int) ≤ 18 := by
      rw [B.2.1]
      exact sg_le (f := fun v => bi (s.1 12 v ≠ -1)) (g := fun _ => 1) (n := 18) fun k _ => (bi_r _).2
    omega
  | succ n ih =>
    intro i s q B R hn hi hd
    have q18 : (q : Int) ≤ 18 := by
      rw [B.2.1]
      exact sg_le (f := fun v => bi (s.1 12 v ≠ -1)) (g := fun _ => 1) (n := 18) fun k _ => (bi_r _).2
    obtain ⟨g1, g2⟩ := B.2.2.1 g hg
    have i5 : ((g : Int)).toNat = g := by omega
    have e92 : gm_46_92 g s = some (decide (s.1 12 g ≠ -1), s) := by
      unfold gm_46_92
      rw [i5]
      by_cases h : s.1 12 g = -1
      · rw [h]
        simp (disch := omega) only [if_pos]
        rfl
      · simp (disch := omega) only [if_pos, if_neg]
        rw [decide_eq_true h]
    by_cases e : i = q
    · refine ⟨s, q, decide (s.1 12 g ≠ -1), ?_, B, Nat.le_refl _, ext_rf s, decide_eq_true_iff, fun _ u v hu h a => ?_⟩
      · rw [gm_46_21, B.1]
        simp (disch := omega) only [if_pos]
        exact e92
      · obtain ⟨j, j1, j2⟩ := B.2.2.2.2.1 u hu h
        exact hd j u (by omega) j2 v a
    · by_cases h : s.1 12 g = -1
      · obtain ⟨u, u1, u2, u3⟩ := B.2.2.2.1 i (by omega)
        obtain ⟨t, q', t1, t2, t3, t4, t5⟩ := sp_spread B R u1 (j := i) (by omega) u2
        obtain ⟨w, q2, b, w1, w2, w3, w4, w5, w6⟩ := ih (i + 1) t q' t2 (RG_ext t4 R) (by omega) (by omega) (fun j x hj hx v hv => by
          have hv1 := (arc_ext t4 x v).mp hv
          rw [t4.2.2.2 j (by rw [B.1]; omega)] at hx
          by_cases ej : j = i
          · rw [ej, u2] at hx
            have : u = x := by omega
            subst this
            exact t5 v hv1
          · have h1 := hd j x (by omega) hx v hv1
            rw [t4.2.2.1 v (by unfold arc at hv1; omega) h1]
            exact h1)
        refine ⟨w, q2, b, ?_, w2, by omega, ext_tr t4 w4 (by rw [B.1, t2.1]; omega), w5, fun hb x v hx h a => w6 hb x v hx h ((arc_ext t4 x v).mpr a)⟩
        have i6 : ((i : Int)).toNat = i := by omega
        have i3 : ((i : Int) + 1) = ((i + 1 : Nat) : Int) := by omega
        rw [gm_46_21, B.1, i5, i6, h, u2]
        rw [← i3] at w1
        by_cases c1 : u < 8
        · rw [if_neg (by omega)] at t1
          rw [t1]
          simp (disch := omega) only [if_pos, if_neg, Option.bind_some, gm_46_86]
          exact w1
        · rw [if_pos (by omega)] at t1
          by_cases c2 : u = 17
          · rw [if_pos (by omega)] at t1
            rw [t1]
            simp (disch := omega) only [if_pos, if_neg, Option.bind_some, gm_46_86]
            exact w1
          · rw [if_neg (by omega)] at t1
            rw [t1]
            simp (disch := omega) only [if_pos, if_neg, Option.bind_some, gm_46_86]
            exact w1
      · refine ⟨s, q, true, ?_, B, Nat.le_refl _, ext_rf s, ⟨fun _ => h, fun _ => rfl⟩, fun h => absurd h (by decide)⟩
        rw [decide_eq_true h] at e92
        rw [gm_46_21, B.1, i5]
        simp (disch := omega) only [if_pos, if_neg]
        exact e92
