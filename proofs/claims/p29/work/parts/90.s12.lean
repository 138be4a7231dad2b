/-! THE CLASS's SEARCH: what is spread from a row, a column, the hub -/
def i32 (x : Int) : Prop := -2147483648 ≤ x ∧ x ≤ 2147483647
def RG (s : gx_S) : Prop := (∀ j, j < 72 → (s.1 7 j = 0 ∨ s.1 7 j = 1) ∧ (s.1 8 j = 0 ∨ s.1 8 j = 1)) ∧ ∀ c, c < 9 → i32 (s.1 9 c) ∧ i32 (s.1 10 c) ∧ i32 (s.1 11 c)
theorem RG_ext {s t : gx_S} (h : ext s t) (R : RG s) : RG t := by
  refine ⟨fun j hj => ?_, fun c hc => ?_⟩
  · rw [h.2.1 7 _ (by omega) (by omega) (by omega), h.2.1 8 _ (by omega) (by omega) (by omega)]
    exact R.1 j hj
  · rw [h.2.1 9 _ (by omega) (by omega) (by omega), h.2.1 10 _ (by omega) (by omega) (by omega), h.2.1 11 _ (by omega) (by omega) (by omega)]
    exact R.2 c hc
theorem sl_48 {st u : Nat} (hu : u < 8) : ∀ (n c : Nat) (s : gx_S) (q j : Nat), BF s st q → RG s → j < q → s.1 13 j = u → 9 < n + c → c ≤ 9 → (∀ v, arc s u v → v < 8 + c → s.1 12 v ≠ -1) → ∃ (t : gx_S) (q' : Nat), gm_48_2 n u c s = some t ∧ BF t st q' ∧ q ≤ q' ∧ ext s t ∧ ∀ v, arc s u v → t.1 12 v ≠ -1 := by
  intro n
  induction n with
  | zero => intro c s q j B R hj hq hn hc hd; omega
  | succ n ih =>
    intro c s q j B R hj hq hn hc hd
    by_cases e : c = 9
    · refine ⟨s, q, ?_, B, Nat.le_refl _, ext_rf s, fun v hv => hd v hv (by unfold arc at hv; omega)⟩
      rw [gm_48_2]
      simp (disch := omega) only [if_pos]
    · have i1 : ((u : Int) * 9 + c).toNat = 9 * u + c := by omega
      have i2 : (8 : Int) + c = ((8 + c : Nat) : Int) := by omega
      have i3 : ((c : Int) + 1) = ((c + 1 : Nat) : Int) := by omega
      have i4 : 8 + c - 8 = c := by omega
      obtain ⟨r1, r2⟩ := R.1 (9 * u + c) (by omega)
      have ae : arc s u (8 + c) ↔ s.1 7 (9 * u + c) = 1 ∧ s.1 8 (9 * u + c) = 0 := by
        unfold arc
        rw [i4]
        constructor
        · rintro (⟨_, _, _, h1, h2⟩ | h | h | h)
          · exact ⟨h1, h2⟩
          · omega
          · omega
          · omega
        · intro h
          exact .inl ⟨hu, by omega, by omega, h.1, h.2⟩
      by_cases a : arc s u (8 + c)
      · obtain ⟨a7, a8⟩ := ae.mp a
        obtain ⟨t, q', t1, t2, t3, t4, t5⟩ := sp_47 (v := 8 + c) B (by omega) (by omega) hj hq a
        obtain ⟨w, q2, w1, w2, w3, w4, w5⟩ := ih (c + 1) t q' j t2 (RG_ext t4 R) (by omega) ((t4.2.2.2 j (by rw [B.1]; omega)).trans hq) (by omega) (by omega) (fun v hv h => by
          by_cases ev : v = 8 + c
          · rw [ev]; exact t5
          · have h1 := hd v ((arc_ext t4 u v).mp hv) (by omega)
            rw [t4.2.2.1 v (by omega) h1]
            exact h1)
        refine ⟨w, q2, ?_, w2, by omega, ext_tr t4 w4 (by rw [B.1, t2.1]; omega), fun v hv => w5 v ((arc_ext t4 u v).mpr hv)⟩
        rw [gm_48_2, i1, a7, a8, i2, t1]
        simp (disch := omega) only [if_pos, if_neg, Option.bind_some, gm_48_43, i3]
        exact w1
      · obtain ⟨w, q2, w1, w2, w3, w4, w5⟩ := ih (c + 1) s q j B R hj hq (by omega) (by omega) (fun v hv h => by
          by_cases ev : v = 8 + c
          · rw [ev] at hv; exact absurd hv a
          · exact hd v hv (by omega))
        refine ⟨w, q2, ?_, w2, w3, w4, w5⟩
        rw [gm_48_2, i1]
        by_cases a7 : s.1 7 (9 * u + c) = 1
        · have a8 : s.1 8 (9 * u + c) = 1 := by
            have : ¬ s.1 8 (9 * u + c) = 0 := fun h => a (ae.mpr ⟨a7, h⟩)
            omega
          rw [a7, a8]
          simp (disch := omega) only [if_pos, if_neg, Option.bind_some, gm_48_43, i3]
          exact w1
        · simp (disch := omega) only [if_pos, if_neg, Option.bind_some, gm_48_43, i3]
          exact w1
theorem sp_48 {s : gx_S} {st q u j : Nat} (B : BF s st q) (R : RG s) (hu : u < 8) (hj : j < q) (hq : s.1 13 j = u) : ∃ (t : gx_S) (q' : Nat), gm_48 u s = some t ∧ BF t st q' ∧ q ≤ q' ∧ ext s t ∧ ∀ v, arc s u v → t.1 12 v ≠ -1 := sl_48 hu 100000 0 s q j B R hj hq (by omega) (by omega) (fun v hv h => by unfold arc at hv; omega)
theorem sl_50 {st : Nat} : ∀ (n c : Nat) (s : gx_S) (q j : Nat), BF s st q → RG s → j < q → s.1 13 j = 17 → 9 < n + c → c ≤ 9 → (∀ v, arc s 17 v → v < 8 + c → s.1 12 v ≠ -1) → ∃ (t : gx_S) (q' : Nat), gm_50_2 n c s = some t ∧ BF t st q' ∧ q ≤ q' ∧ ext s t ∧ ∀ v, arc s 17 v → t.1 12 v ≠ -1 := by
  intro n
  induction n with
  | zero => intro c s q j B R hj hq hn hc hd; omega
  | succ n ih =>
    intro c s q j B R hj hq hn hc hd
    by_cases e : c = 9
    · refine ⟨s, q, ?_, B, Nat.le_refl _, ext_rf s, fun v hv => hd v hv (by unfold arc at hv; omega)⟩
      rw [gm_50_2]
      simp (disch := omega) only [if_pos]
    · have i2 : (8 : Int) + c = ((8 + c : Nat) : Int) := by omega
      have i3 : ((c : Int) + 1) = ((c + 1 : Nat) : Int) := by omega
      have i4 : 8 + c - 8 = c := by omega
      have i5 : ((c : Int)).toNat = c := by omega
      obtain ⟨r1, r2, r3⟩ := R.2 c (by omega)
      unfold i32 at r1 r2 r3
      have ae : arc s 17 (8 + c) ↔ s.1 9 c < s.1 11 c := by
        unfold arc
        rw [i4]
        omega
      by_cases a : arc s 17 (8 + c)
      · have a7 := ae.mp a
        obtain ⟨t, q', t1, t2, t3, t4, t5⟩ := sp_47 (v := 8 + c) (u := 17) B (by omega) (by omega) hj hq a
        obtain ⟨w, q2, w1, w2, w3, w4, w5⟩ := ih (c + 1) t q' j t2 (RG_ext t4 R) (by omega) ((t4.2.2.2 j (by rw [B.1]; omega)).trans hq) (by omega) (by omega) (fun v hv h => by
          by_cases ev : v = 8 + c
          · rw [ev]; exact t5
          · have h1 := hd v ((arc_ext t4 17 v).mp hv) (by omega)
            rw [t4.2.2.1 v (by omega) h1]
            exact h1)
        refine ⟨w, q2, ?_, w2, by omega, ext_tr t4 w4 (by rw [B.1, t2.1]; omega), fun v hv => w5 v ((arc_ext t4 17 v).mpr hv)⟩
        rw [gm_50_2, i5, i2, show ((17 : Nat) : Int) = 17 from rfl] at *
        simp (disch := omega) only [if_pos, if_neg]
        rw [t1]
        simp only [Option.bind_some, gm_50_33, i3]
        exact w1
      · have a7 : ¬ s.1 9 c < s.1 11 c := fun h => a (ae.mpr h)
        obtain ⟨w, q2, w1, w2, w3, w4, w5⟩ := ih (c + 1) s q j B R hj hq (by omega) (by omega) (fun v hv h => by
          by_cases ev : v = 8 + c
          · rw [ev] at hv; exact absurd hv a
          · exact hd v hv (by omega))
        refine ⟨w, q2, ?_, w2, w3, w4, w5⟩
        rw [gm_50_2, i5]
        simp (disch := omega) only [if_pos, if_neg, gm_50_33, i3]
        exact w1
theorem sp_50 {s : gx_S} {st q j : Nat} (B : BF s st q) (R : RG s) (hj : j < q) (hq : s.1 13 j = 17) : ∃ (t : gx_S) (q' : Nat), gm_50 s = some t ∧ BF t st q' ∧ q ≤ q' ∧ ext s t ∧ ∀ v, arc s 17 v → t.1 12 v ≠ -1 := sl_50 100000 0 s q j B R hj hq (by omega) (by omega) (fun v hv h => by unfold arc at hv; omega)
