/-! THE CLASS's BALANCED TABLE: fix; what is fixed is the first of all that come right -/
/-- T comes right: free entries' ones, the rows' numbers W, the columns' between L and O -/
def FE (L O F0 W T : Nat → Int) : Prop := (∀ i, i < 72 → (T i = 0 ∨ T i = 1) ∧ T i ≤ F0 i) ∧ (∀ r, r < 8 → sg (fun c => T (9 * r + c)) 9 = W r) ∧ ∀ c, c < 9 → L c ≤ sg (fun r => T (9 * r + c)) 8 ∧ sg (fun r => T (9 * r + c)) 8 ≤ O c
def FX (L O F0 W : Nat → Int) (s : gx_S) (e : Nat) : Prop := FL s ∧ (∀ c, c < 9 → s.1 9 c = L c ∧ s.1 10 c = O c ∧ L c ≤ s.1 11 c) ∧ (∀ r, r < 8 → ph s r = W r) ∧ (∀ i, i < 72 → s.1 8 i ≤ F0 i) ∧ (∀ i, i < 72 → e ≤ i → s.1 7 i = F0 i) ∧ (∀ i, i < 72 → i < e → s.1 7 i = 0) ∧ ∀ T, FE L O F0 W T → ∀ j, j < 72 → j < e → (∀ i, i < j → T i = s.1 8 i) → T j ≤ s.1 8 j
/-- an entry that isn't free is fixed as it is -/
theorem FX_skip {L O F0 W : Nat → Int} {s : gx_S} {e : Nat} (X : FX L O F0 W s e) (he : e < 72) (h0 : s.1 7 e = 0) : FX L O F0 W s (e + 1) := by
  obtain ⟨x1, x2, x3, x4, x5, x6, x7⟩ := X
  refine ⟨x1, x2, x3, x4, fun i hi h => x5 i hi (by omega), fun i hi h => ?_, fun T hT j hj h hi => ?_⟩
  · by_cases q : i = e
    · rw [q]; exact h0
    · exact x6 i hi (by omega)
  · by_cases q : j = e
    · have a := (hT.1 e he).2
      have b := x5 e he (Nat.le_refl e)
      have c := (x1.1 e he).2
      rw [q]
      omega
    · exact x7 T hT j hj (by omega) hi
/-- all but the search's own cells, free, more and come stay -/
def sc7 (s t : gx_S) : Prop := t.2 = s.2 ∧ ∀ k j, k ≠ 7 → k ≠ 8 → k ≠ 11 → k ≠ 12 → k ≠ 13 → ¬ (k = 6 ∧ j = 7) → t.1 k j = s.1 k j
theorem sc7_rf (s : gx_S) : sc7 s s := ⟨rfl, fun _ _ _ _ _ _ _ _ => rfl⟩
theorem sc7_tr {s t u : gx_S} (a : sc7 s t) (b : sc7 t u) : sc7 s u := ⟨b.1.trans a.1, fun k j h0 h1 h2 h3 h4 h5 => (b.2 k j h0 h1 h2 h3 h4 h5).trans (a.2 k j h0 h1 h2 h3 h4 h5)⟩
theorem scr_sc7 {s t : gx_S} (a : scr s t) : sc7 s t := ⟨a.1, fun k j _ h1 h2 h3 h4 h5 => a.2 k j h1 h2 h3 h4 h5⟩
theorem sp_45 {L O F0 W : Nat → Int} {s : gx_S} {e : Nat} (X : FX L O F0 W s e) (he : e < 72) (hf : s.1 7 e = 1) : ∃ t : gx_S, gm_45 e s = some t ∧ FX L O F0 W t (e + 1) ∧ sc7 s t ∧ ∀ i, i < e → t.1 8 i = s.1 8 i := by
  obtain ⟨x1, x2, x3, x4, x5, x6, x7⟩ := id X
  obtain ⟨r0, c0, hr, hc, rfl⟩ : ∃ r0 c0, r0 < 8 ∧ c0 < 9 ∧ e = 9 * r0 + c0 := ⟨e / 9, e % 9, by omega, by omega, by omega⟩
  have i1 : (((9 * r0 + c0 : Nat) : Int)).toNat = 9 * r0 + c0 := by omega
  have i2 : (8 : Int) + ((9 * r0 + c0 : Nat) : Int) % 9 = ((8 + c0 : Nat) : Int) := by omega
  have i3 : ((9 * r0 + c0 : Nat) : Int) / 9 = (r0 : Int) := by omega
  have g : ∀ k j, k ≠ 7 → (gw1 s 7 (9 * r0 + c0) 0).1 k j = s.1 k j := fun k j h => by rw [gw1_1, if_neg (fun x => h x.1)]
  have g7 : ∀ j, (gw1 s 7 (9 * r0 + c0) 0).1 7 j = if j = 9 * r0 + c0 then 0 else s.1 7 j := fun j => by
    rw [gw1_1]
    by_cases q : j = 9 * r0 + c0
    · rw [if_pos ⟨rfl, q⟩, if_pos q]
    · rw [if_neg (fun h => q h.2), if_neg q]
  have pg : ∀ v, ph (gw1 s 7 (9 * r0 + c0) 0) v = ph s v := fun v => ph_eq (fun j => g 8 j (by omega)) (fun j => g 11 j (by omega)) v
  have F0' : FL (gw1 s 7 (9 * r0 + c0) 0) := by
    refine ⟨fun j hj => ?_, fun c h => ?_, fun c h => by rw [pg]; exact x1.2.2 c h⟩
    · rw [g7, g 8 j (by omega)]
      have := x1.1 j hj
      split <;> omega
    · rw [g 9 c (by omega), g 10 c (by omega), g 11 c (by omega)]
      exact x1.2.1 c h
  have o7 : sc7 s (gw1 s 7 (9 * r0 + c0) 0) := ⟨rfl, fun k j h _ _ _ _ _ => g k j h⟩
  have q01 := (x1.1 (9 * r0 + c0) he).2
  have m1 : 1 ≤ F0 (9 * r0 + c0) := by rw [← x5 _ he (Nat.le_refl _), hf]; omega
  unfold gm_45
  rw [i1, i2, i3, g 8 (9 * r0 + c0) (by omega)]
  by_cases h8 : s.1 8 (9 * r0 + c0) = 0
  · obtain ⟨t, q, b, t1, t2, t3, t4, t5, t6⟩ := sp_46 (st := 8 + c0) (g := r0) (FL_RG F0') (by omega) (by omega)
    have y7 : ∀ j, t.1 7 j = if j = 9 * r0 + c0 then 0 else s.1 7 j := fun j => (t3.2 7 j (by omega) (by omega) (by omega)).trans (g7 j)
    have y8 : ∀ j, t.1 8 j = s.1 8 j := fun j => (t3.2 8 j (by omega) (by omega) (by omega)).trans (g 8 j (by omega))
    have y9 : ∀ j, t.1 9 j = s.1 9 j := fun j => (t3.2 9 j (by omega) (by omega) (by omega)).trans (g 9 j (by omega))
    have y10 : ∀ j, t.1 10 j = s.1 10 j := fun j => (t3.2 10 j (by omega) (by omega) (by omega)).trans (g 10 j (by omega))
    have y11 : ∀ j, t.1 11 j = s.1 11 j := fun j => (t3.2 11 j (by omega) (by omega) (by omega)).trans (g 11 j (by omega))
    have pt : ∀ v, ph t v = ph s v := fun v => (ph_oth t3 v).trans (pg v)
    have Ft := FL_oth t3 F0'
    have ot : sc7 s t := sc7_tr o7 (scr_sc7 (oth_scr t3))
    cases b with
    | true =>
      obtain ⟨u, u1, u2, u3, u4⟩ := sp_51 t2 (g := r0) (by omega) (t5.mp rfl)
      have z8 : ∀ i, i < 72 → i ≤ 9 * r0 + c0 → u.1 8 i = s.1 8 i := fun i hi h => by
        have a := u2.2.2.1 i hi
        rw [y7, y8] at a
        by_cases q : i = 9 * r0 + c0
        · rw [if_pos q] at a
          omega
        · rw [if_neg q, x6 i hi (by omega)] at a
          omega
      have zu : (1 : Int) = u.1 8 (9 * r0 + c0) + 1 := by rw [z8 _ he (Nat.le_refl _), h8]; rfl
      have pu : ∀ v, v < 18 → ph (gw1 u 8 (9 * r0 + c0) 1) v = ph s v := fun v hv => by
        rw [ph_w8 (d := 1) hr hc zu v, u3 v hv, pt]
        split <;> split <;> omega
      have k : ∀ k j, k ≠ 8 → (gw1 u 8 (9 * r0 + c0) 1).1 k j = u.1 k j := fun k j h => by rw [gw1_1, if_neg (fun x => h x.1)]
      have k8 : ∀ j, (gw1 u 8 (9 * r0 + c0) 1).1 8 j = if j = 9 * r0 + c0 then 1 else u.1 8 j := fun j => by
        rw [gw1_1]
        by_cases q : j = 9 * r0 + c0
        · rw [if_pos ⟨rfl, q⟩, if_pos q]
        · rw [if_neg (fun h => q h.2), if_neg q]
      have w7 : ∀ j, (gw1 u 8 (9 * r0 + c0) 1).1 7 j = if j = 9 * r0 + c0 then 0 else s.1 7 j := fun j => by
        rw [k 7 j (by omega), u2.2.1 7 j (by omega) (by omega), y7]
      have w9 : ∀ j, (gw1 u 8 (9 * r0 + c0) 1).1 9 j = s.1 9 j := fun j => by
        rw [k 9 j (by omega), u2.2.1 9 j (by omega) (by omega), y9]
      have w10 : ∀ j, (gw1 u 8 (9 * r0 + c0) 1).1 10 j = s.1 10 j := fun j => by
        rw [k 10 j (by omega), u2.2.1 10 j (by omega) (by omega), y10]
      have w11 : ∀ c, c < 9 → L c ≤ (gw1 u 8 (9 * r0 + c0) 1).1 11 c ∧ (gw1 u 8 (9 * r0 + c0) 1).1 11 c ≤ O c := fun c h => by
        rw [k 11 c (by omega)]
        have a := u2.2.2.2 c h
        rw [y9, y10, y11] at a
        have b := x2 c h
        have d := x1.2.1 c h
        omega
      have w8 : ∀ j, j < 72 → (gw1 u 8 (9 * r0 + c0) 1).1 8 j = s.1 8 j ∨ (s.1 7 j = 1 ∧ ((gw1 u 8 (9 * r0 + c0) 1).1 8 j = 0 ∨ (gw1 u 8 (9 * r0 + c0) 1).1 8 j = 1)) := fun j hj => by
        rw [k8]
        by_cases q : j = 9 * r0 + c0
        · rw [if_pos q, q]
          exact .inr ⟨hf, .inr rfl⟩
        · have a := u2.2.2.1 j hj
          rw [y7, y8, if_neg q] at a
          rw [if_neg q]
          exact a
      have w8e : ∀ i, i < 9 * r0 + c0 → (gw1 u 8 (9 * r0 + c0) 1).1 8 i = s.1 8 i := fun i h => by
        rw [k8, if_neg (by omega)]
        exact z8 i (by omega) (by omega)
      refine ⟨gw1 u 8 (9 * r0 + c0) 1, ?_, ⟨⟨fun j hj => ?_, fun c h => ?_, fun c h => by rw [pu _ (by omega)]; exact x1.2.2 c h⟩, fun c h => ?_, fun r h => by rw [pu _ (by omega)]; exact x3 r h, fun i hi => ?_, fun i hi h => ?_, fun i hi h => ?_, fun T hT j hj h hi => ?_⟩, sc7_tr ot (sc7_tr (scr_sc7 (tn_scr u2)) ⟨rfl, fun a b _ h1 _ _ _ _ => k a b h1⟩), w8e⟩
      · rw [h8, t1]
        simp (disch := first | omega | decide) only [if_pos, if_neg, Option.bind_some, u1]
      · have a := w8 j hj
        have b := x1.1 j hj
        refine ⟨?_, by omega⟩
        rw [w7]
        split
        · exact .inl rfl
        · exact b.1
      · have a := w11 c h
        have b := x2 c h
        have d := x1.2.1 c h
        rw [w9, w10]
        omega
      · have a := w11 c h
        have b := x2 c h
        rw [w9, w10]
        exact ⟨b.1, b.2.1, a.1⟩
      · have a := w8 i hi
        have b := x4 i hi
        by_cases q : i < 9 * r0 + c0
        · rw [w8e i q]
          exact b
        · have := x5 i hi (by omega)
          omega
      · rw [w7, if_neg (by omega)]
        exact x5 i hi (by omega)
      · rw [w7]
        split
        · rfl
        · exact x6 i hi (by omega)
      · by_cases q : j = 9 * r0 + c0
        · have a := (hT.1 j hj).1
          rw [k8, if_pos q]
          omega
        · rw [w8e j (by omega)]
          exact x7 T hT j hj (by omega) fun i h' => by rw [hi i h', w8e i (by omega)]
    | false =>
      have cl := t6 rfl
      have hg : ¬ t.1 12 r0 ≠ -1 := fun h => absurd (t5.mpr h) (by decide)
      have a7 : ∀ j, j ≠ 9 * r0 + c0 → (gw1 s 7 (9 * r0 + c0) 0).1 7 j = s.1 7 j := fun j h => by rw [g7, if_neg h]
      refine ⟨t, ?_, ⟨Ft, fun c h => ?_, fun r h => by rw [pt]; exact x3 r h, fun i hi => by rw [y8]; exact x4 i hi, fun i hi h => ?_, fun i hi h => ?_, fun T hT j hj h hi => ?_⟩, ot, fun i _ => y8 i⟩
      · rw [h8, t1]
        simp (disch := first | omega | decide) only [if_pos, if_neg, Option.bind_some]
      · rw [y9, y10, y11]
        exact x2 c h
      · rw [y7, if_neg (by omega)]
        exact x5 i hi (by omega)
      · rw [y7]
        split
        · rfl
        · exact x6 i hi (by omega)
      · rw [y8]
        have hi' : ∀ i, i < j → T i = s.1 8 i := fun i h => by rw [hi i h, y8]
        by_cases q : j = 9 * r0 + c0
        · subst q
          have z := cut_hub (y := fun r c => T (9 * r + c) - s.1 8 (9 * r + c)) (k := fun c => sg (fun r => T (9 * r + c)) 8 - s.1 11 c) (R := fun r => decide (t.1 12 r ≠ -1)) (C := fun c => decide (t.1 12 (8 + c) ≠ -1)) (hub := decide (t.1 12 17 ≠ -1)) (m := 8) (n := 9) (fun r h => by
            have a := hT.2.1 r h
            have b := x3 r h
            rw [ph_r h] at b
            have d := sg_add (fun c => T (9 * r + c)) (fun c => - s.1 8 (9 * r + c)) 9
            rw [sg_neg] at d
            have f : sg (fun c => T (9 * r + c) - s.1 8 (9 * r + c)) 9 = sg (fun c => T (9 * r + c) + - s.1 8 (9 * r + c)) 9 := sg_eq fun c _ => by omega
            show sg (fun c => T (9 * r + c) - s.1 8 (9 * r + c)) 9 = 0
            omega) (fun c h => by
            have b := x1.2.2 c h
            rw [ph_c h] at b
            have d := sg_add (fun r => T (9 * r + c)) (fun r => - s.1 8 (9 * r + c)) 8
            rw [sg_neg] at d
            have f : sg (fun r => T (9 * r + c) - s.1 8 (9 * r + c)) 8 = sg (fun r => T (9 * r + c) + - s.1 8 (9 * r + c)) 8 := sg_eq fun c _ => by omega
            show sg (fun r => T (9 * r + c) - s.1 8 (9 * r + c)) 8 = sg (fun r => T (9 * r + c)) 8 - s.1 11 c
            omega) (fun r c h1 h2 h3 h4 => by
            have h3 := of_decide_eq_true h3
            have h4 := of_decide_eq_false h4
            show T (9 * r + c) - s.1 8 (9 * r + c) ≤ 0
            have e1 := hT.1 (9 * r + c) (by omega)
            have e2 := x1.1 (9 * r + c) (by omega)
            have ne : 9 * r + c ≠ 9 * r0 + c0 := fun h => by
              have : r = r0 := by omega
              rw [this] at h3
              exact hg h3
            by_cases e3 : 9 * r + c < 9 * r0 + c0
            · have := hi' _ e3
              omega
            · have e4 := x5 (9 * r + c) (by omega) (by omega)
              by_cases e5 : s.1 7 (9 * r + c) = 1
              · by_cases e6 : s.1 8 (9 * r + c) = 0
                · refine absurd (cl r (8 + c) (by omega) h3 (.inl ⟨h1, by omega, by omega, ?_, ?_⟩)) h4
                  · rw [show 8 + c - 8 = c by omega, a7 _ ne]
                    exact e5
                  · rw [show 8 + c - 8 = c by omega, g 8 _ (by omega)]
                    exact e6
                · omega
              · omega) (fun r c h1 h2 h3 h4 => by
            have h3 := of_decide_eq_false h3
            have h4 := of_decide_eq_true h4
            show 0 ≤ T (9 * r + c) - s.1 8 (9 * r + c)
            have e1 := hT.1 (9 * r + c) (by omega)
            have e2 := x1.1 (9 * r + c) (by omega)
            by_cases ne : 9 * r + c = 9 * r0 + c0
            · rw [ne] at e1
              rw [ne, h8]
              omega
            · by_cases e3 : 9 * r + c < 9 * r0 + c0
              · have := hi' _ e3
                omega
              · have e4 := x5 (9 * r + c) (by omega) (by omega)
                have e7 := x4 (9 * r + c) (by omega)
                by_cases e6 : s.1 8 (9 * r + c) = 1
                · refine absurd (cl (8 + c) r (by omega) h4 (.inr (.inl ⟨by omega, by omega, h1, ?_, ?_⟩))) h3
                  · rw [show 8 + c - 8 = c by omega, a7 _ ne]
                    omega
                  · rw [show 8 + c - 8 = c by omega, g 8 _ (by omega)]
                    exact e6
                · omega) (fun hh c h h4 => by
            have hh := of_decide_eq_false hh
            have h4 := of_decide_eq_true h4
            have a := (hT.2.2 c h).2
            have b := x2 c h
            show sg (fun r => T (9 * r + c)) 8 - s.1 11 c ≤ 0
            by_cases e6 : s.1 11 c < s.1 10 c
            · refine absurd (cl (8 + c) 17 (by omega) h4 (.inr (.inr (.inl ⟨by omega, by omega, rfl, ?_⟩)))) hh
              rw [show 8 + c - 8 = c by omega, g 11 _ (by omega), g 10 _ (by omega)]
              exact e6
            · omega) (fun hh c h h4 => by
            have hh := of_decide_eq_true hh
            have h4 := of_decide_eq_false h4
            have a := (hT.2.2 c h).1
            have b := x2 c h
            show 0 ≤ sg (fun r => T (9 * r + c)) 8 - s.1 11 c
            by_cases e6 : s.1 9 c < s.1 11 c
            · refine absurd (cl 17 (8 + c) (by omega) hh (.inr (.inr (.inr ⟨rfl, by omega, by omega, ?_⟩)))) h4
              rw [show 8 + c - 8 = c by omega, g 11 _ (by omega), g 9 _ (by omega)]
              exact e6
            · omega) r0 c0 hr hc (decide_eq_false hg) (decide_eq_true (by rw [t4]; omega))
          omega
        · exact x7 T hT j hj (by omega) hi'
  · have m : s.1 8 (9 * r0 + c0) = 1 := by omega
    refine ⟨gw1 s 7 (9 * r0 + c0) 0, ?_, ⟨F0', fun c h => ?_, fun r h => by rw [pg]; exact x3 r h, fun i hi => by rw [g 8 i (by omega)]; exact x4 i hi, fun i hi h => ?_, fun i hi h => ?_, fun T hT j hj h hi => ?_⟩, o7, fun i _ => g 8 i (by omega)⟩
    · rw [m]
      simp (disch := omega) only [if_pos, if_neg]
    · rw [g 9 c (by omega), g 10 c (by omega), g 11 c (by omega)]
      exact x2 c h
    · rw [g7, if_neg (by omega)]
      exact x5 i hi (by omega)
    · rw [g7]
      split
      · rfl
      · exact x6 i hi (by omega)
    · rw [g 8 j (by omega)]
      have hi' : ∀ i, i < j → T i = s.1 8 i := fun i h => by rw [hi i h, g 8 i (by omega)]
      by_cases q : j = 9 * r0 + c0
      · have a := (hT.1 j hj).1
        rw [q] at a ⊢
        omega
      · exact x7 T hT j hj (by omega) hi'
