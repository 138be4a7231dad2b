/-! THE CLASS's SEARCH for a way: nodes 0 .. 7 rows, 8 .. 16 columns, 17 the hub; 12 from, 13 queue, (6, 7) queued; 7 free, 8 more, 9 least, 10 most, 11 come -/
def arc (s : gx_S) (u v : Nat) : Prop := (u < 8 ∧ 8 ≤ v ∧ v < 17 ∧ s.1 7 (9 * u + (v - 8)) = 1 ∧ s.1 8 (9 * u + (v - 8)) = 0) ∨ (8 ≤ u ∧ u < 17 ∧ v < 8 ∧ s.1 7 (9 * v + (u - 8)) = 1 ∧ s.1 8 (9 * v + (u - 8)) = 1) ∨ (8 ≤ u ∧ u < 17 ∧ v = 17 ∧ s.1 11 (u - 8) < s.1 10 (u - 8)) ∨ (u = 17 ∧ 8 ≤ v ∧ v < 17 ∧ s.1 9 (v - 8) < s.1 11 (v - 8))
/-- what has been found: q nodes -/
def BF (s : gx_S) (st q : Nat) : Prop := s.1 6 7 = q ∧ (q : Int) = sg (fun v => bi (s.1 12 v ≠ -1)) 18 ∧ (∀ v, v < 18 → -1 ≤ s.1 12 v ∧ s.1 12 v < 18) ∧ (∀ i, i < q → ∃ v : Nat, v < 18 ∧ s.1 13 i = (v : Int) ∧ s.1 12 v ≠ -1) ∧ (∀ v : Nat, v < 18 → s.1 12 v ≠ -1 → ∃ i : Nat, i < q ∧ s.1 13 i = (v : Int)) ∧ (∀ i j, i < q → j < q → s.1 13 i = s.1 13 j → i = j) ∧ 0 < q ∧ s.1 13 0 = st ∧ (∀ i, 0 < i → i < q → ∃ j u v : Nat, j < i ∧ u < 18 ∧ v < 18 ∧ s.1 13 j = u ∧ s.1 13 i = v ∧ s.1 12 v = u ∧ arc s u v)
/-- found so far stays; all else is as it was -/
def ext (s t : gx_S) : Prop := t.2 = s.2 ∧ (∀ k j, k ≠ 12 → k ≠ 13 → ¬ (k = 6 ∧ j = 7) → t.1 k j = s.1 k j) ∧ (∀ v, v < 18 → s.1 12 v ≠ -1 → t.1 12 v = s.1 12 v) ∧ ∀ i : Nat, (i : Int) < s.1 6 7 → t.1 13 i = s.1 13 i
theorem ext_rf (s : gx_S) : ext s s := ⟨rfl, fun _ _ _ _ _ => rfl, fun _ _ _ => rfl, fun _ _ => rfl⟩
theorem ext_tr {s t u : gx_S} (a : ext s t) (b : ext t u) (h : s.1 6 7 ≤ t.1 6 7) : ext s u := ⟨b.1.trans a.1, fun k j h1 h2 h3 => (b.2.1 k j h1 h2 h3).trans (a.2.1 k j h1 h2 h3), fun v hv h1 => (b.2.2.1 v hv (by rw [a.2.2.1 v hv h1]; exact h1)).trans (a.2.2.1 v hv h1), fun i hi => (b.2.2.2 i (by omega)).trans (a.2.2.2 i hi)⟩
theorem arc_ext {s t : gx_S} (h : ext s t) (u v : Nat) : arc t u v ↔ arc s u v := by
  unfold arc
  rw [h.2.1 7 _ (by omega) (by omega) (by omega), h.2.1 8 _ (by omega) (by omega) (by omega), h.2.1 7 _ (by omega) (by omega) (by omega), h.2.1 8 _ (by omega) (by omega) (by omega), h.2.1 11 _ (by omega) (by omega) (by omega), h.2.1 10 _ (by omega) (by omega) (by omega), h.2.1 9 _ (by omega) (by omega) (by omega), h.2.1 11 _ (by omega) (by omega) (by omega)]
/-- reach(v, by u): u found, an arc from u to v -/
theorem sp_47 {s : gx_S} {st q u v j : Nat} (B : BF s st q) (hv : v < 18) (hu : u < 18) (hj : j < q) (hq : s.1 13 j = u) (ha : arc s u v) : ∃ (t : gx_S) (q' : Nat), gm_47 v u s = some t ∧ BF t st q' ∧ q ≤ q' ∧ ext s t ∧ t.1 12 v ≠ -1 := by
  obtain ⟨b1, b2, b3, b4, b5, b6, b7, b8, b9⟩ := id B
  have cle : ∀ f : Nat → Int, (∀ k, k < 18 → f k ≤ 1) → sg f 18 ≤ 18 := by
    intro f hf
    have a := sg_le (f := f) (g := fun _ => 1) (n := 18) hf
    exact a
  have q18 : (q : Int) ≤ 18 := by rw [b2]; exact cle _ fun k _ => (bi_r _).2
  obtain ⟨f1, f2⟩ := b3 v hv
  unfold gm_47
  by_cases g : s.1 12 v = -1
  · have b0 : bi (s.1 12 v ≠ -1) = 0 := if_neg fun h => h g
    have bu : bi ((u : Int) ≠ -1) = 1 := if_pos (by omega)
    have q17 : (q : Int) < 18 := by
      rw [b2]
      have a := sg_upd (f := fun v => bi (s.1 12 v ≠ -1)) (g := fun w => if w = v then 1 else bi (s.1 12 w ≠ -1)) (i := v) (x := 1) (by
        show (if v = v then 1 else bi (s.1 12 v ≠ -1)) = bi (s.1 12 v ≠ -1) + 1
        rw [if_pos rfl, b0]
        rfl) (fun c hc => if_neg hc) (n := 18) hv
      have c := cle (fun w => if w = v then 1 else bi (s.1 12 w ≠ -1)) fun k _ => by
        have := (bi_r (s.1 12 k ≠ -1)).2
        show (if k = v then 1 else bi (s.1 12 k ≠ -1)) ≤ 1
        split <;> omega
      omega
    have x12 : (gw1 s 12 v u).1 6 7 = q := by rw [gw1_1, if_neg (by omega), b1]
    have x13 : (gw1 (gw1 s 12 v u) 13 q v).1 6 7 = q := by rw [gw1_1, if_neg (by omega), x12]
    refine ⟨gw1 (gw1 (gw1 s 12 v u) 13 q v) 6 7 ((q : Int) + 1), q + 1, ?_, ?_, by omega, ?_, ?_⟩
    · simp (disch := first | omega | assumption) only [Int.toNat_natCast, if_pos, if_neg, b1, x12, x13]
    · have t12 : ∀ w, (gw1 (gw1 (gw1 s 12 v u) 13 q v) 6 7 ((q : Int) + 1)).1 12 w = if w = v then (u : Int) else s.1 12 w := by
        intro w
        rw [gw1_1, if_neg (by omega), gw1_1, if_neg (by omega), gw1_1]
        by_cases e : w = v
        · rw [if_pos ⟨rfl, e⟩, if_pos e]
        · rw [if_neg (fun h => e h.2), if_neg e]
      have t13 : ∀ w, (gw1 (gw1 (gw1 s 12 v u) 13 q v) 6 7 ((q : Int) + 1)).1 13 w = if w = q then (v : Int) else s.1 13 w := by
        intro w
        rw [gw1_1, if_neg (by omega), gw1_1]
        by_cases e : w = q
        · rw [if_pos ⟨rfl, e⟩, if_pos e]
        · rw [if_neg (fun h => e h.2), if_neg e, gw1_1, if_neg (by omega)]
      have ex : ext s (gw1 (gw1 (gw1 s 12 v u) 13 q v) 6 7 ((q : Int) + 1)) := by
        refine ⟨rfl, fun k j h1 h2 h3 => ?_, fun w hw h1 => ?_, fun i hi => ?_⟩
        · rw [gw1_1, if_neg h3, gw1_1, if_neg (fun h => h2 h.1), gw1_1, if_neg (fun h => h1 h.1)]
        · rw [t12, if_neg (fun h => h1 (by rw [h]; exact g))]
        · rw [t13, if_neg (by omega)]
      refine ⟨?_, ?_, fun w hw => ?_, fun i hi => ?_, fun w hw h1 => ?_, fun i k hi hk h => ?_, by omega, ?_, fun i hi hi2 => ?_⟩
      · rw [gw1_1, if_pos ⟨rfl, rfl⟩]
        omega
      · have a := sg_upd (f := fun v => bi (s.1 12 v ≠ -1)) (g := fun w => bi ((gw1 (gw1 (gw1 s 12 v u) 13 q v) 6 7 ((q : Int) + 1)).1 12 w ≠ -1)) (i := v) (x := 1) (by
          show bi ((gw1 (gw1 (gw1 s 12 v u) 13 q v) 6 7 ((q : Int) + 1)).1 12 v ≠ -1) = bi (s.1 12 v ≠ -1) + 1
          rw [t12, if_pos rfl, b0, bu]
          rfl) (fun c hc => by
          show bi ((gw1 (gw1 (gw1 s 12 v u) 13 q v) 6 7 ((q : Int) + 1)).1 12 c ≠ -1) = bi (s.1 12 c ≠ -1)
          rw [t12, if_neg hc]) (n := 18) hv
        omega
      · rw [t12]
        split
        · omega
        · exact b3 w hw
      · by_cases e : i = q
        · refine ⟨v, hv, by rw [t13, if_pos e], by rw [t12, if_pos rfl]; omega⟩
        · obtain ⟨w, w1, w2, w3⟩ := b4 i (by omega)
          refine ⟨w, w1, by rw [t13, if_neg e]; exact w2, ?_⟩
          rw [t12]
          split
          · omega
          · exact w3
      · by_cases e : w = v
        · exact ⟨q, by omega, by rw [t13, if_pos rfl, e]⟩
        · rw [t12, if_neg e] at h1
          obtain ⟨i, i1, i2⟩ := b5 w hw h1
          exact ⟨i, by omega, by rw [t13, if_neg (by omega)]; exact i2⟩
      · rw [t13, t13] at h
        by_cases e1 : i = q
        · by_cases e2 : k = q
          · omega
          · rw [if_pos e1, if_neg e2] at h
            obtain ⟨w, w1, w2, w3⟩ := b4 k (by omega)
            rw [← h] at w2
            have : v = w := by omega
            subst this
            exact absurd g w3
        · by_cases e2 : k = q
          · rw [if_neg e1, if_pos e2] at h
            obtain ⟨w, w1, w2, w3⟩ := b4 i (by omega)
            rw [h] at w2
            have : v = w := by omega
            subst this
            exact absurd g w3
          · rw [if_neg e1, if_neg e2] at h
            exact b6 i k (by omega) (by omega) h
      · rw [t13, if_neg (by omega)]
        exact b8
      · by_cases e : i = q
        · refine ⟨j, u, v, by omega, hu, hv, by rw [t13, if_neg (by omega)]; exact hq, by rw [t13, if_pos e], by rw [t12, if_pos rfl], (arc_ext ex u v).mpr ha⟩
        · obtain ⟨j', u', v', w1, w2, w3, w4, w5, w6, w7⟩ := b9 i hi (by omega)
          refine ⟨j', u', v', w1, w2, w3, by rw [t13, if_neg (by omega)]; exact w4, by rw [t13, if_neg e]; exact w5, ?_, (arc_ext ex u' v').mpr w7⟩
          rw [t12, if_neg (fun h => ?_)]
          · exact w6
          · rw [h, g] at w6
            omega
    · refine ⟨rfl, fun k j h1 h2 h3 => ?_, fun w hw h1 => ?_, fun i hi => ?_⟩
      · rw [gw1_1, if_neg h3, gw1_1, if_neg (fun h => h2 h.1), gw1_1, if_neg (fun h => h1 h.1)]
      · rw [gw1_1, if_neg (by omega), gw1_1, if_neg (by omega), gw1_1, if_neg (fun h => h1 (by rw [h.2]; exact g))]
      · rw [gw1_1, if_neg (by omega), gw1_1, if_neg (by omega), gw1_1, if_neg (by omega)]
    · rw [gw1_1, if_neg (by omega), gw1_1, if_neg (by omega), gw1_1, if_pos ⟨rfl, rfl⟩]
      omega
  · refine ⟨s, q, ?_, B, Nat.le_refl q, ext_rf s, g⟩
    simp (disch := first | omega | assumption) only [Int.toNat_natCast, if_pos, if_neg]
