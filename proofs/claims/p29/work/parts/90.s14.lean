/-! THE CLASS's SEARCH: findWay -/
/-- only the search's own cells (12, 13, (6, 7)) change -/
def oth (s t : gx_S) : Prop := t.2 = s.2 ∧ ∀ k j, k ≠ 12 → k ≠ 13 → ¬ (k = 6 ∧ j = 7) → t.1 k j = s.1 k j
theorem oth_tr {s t u : gx_S} (a : oth s t) (b : oth t u) : oth s u := ⟨b.1.trans a.1, fun k j h1 h2 h3 => (b.2 k j h1 h2 h3).trans (a.2 k j h1 h2 h3)⟩
theorem ext_oth {s t : gx_S} (h : ext s t) : oth s t := ⟨h.1, h.2.1⟩
theorem arc_oth {s t : gx_S} (h : oth s t) (u v : Nat) : arc t u v ↔ arc s u v := by
  unfold arc
  rw [h.2 7 _ (by omega) (by omega) (by omega), h.2 8 _ (by omega) (by omega) (by omega), h.2 7 _ (by omega) (by omega) (by omega), h.2 8 _ (by omega) (by omega) (by omega), h.2 11 _ (by omega) (by omega) (by omega), h.2 10 _ (by omega) (by omega) (by omega), h.2 9 _ (by omega) (by omega) (by omega), h.2 11 _ (by omega) (by omega) (by omega)]
theorem RG_oth {s t : gx_S} (h : oth s t) (R : RG s) : RG t := by
  refine ⟨fun j hj => ?_, fun c hc => ?_⟩
  · rw [h.2 7 _ (by omega) (by omega) (by omega), h.2 8 _ (by omega) (by omega) (by omega)]
    exact R.1 j hj
  · rw [h.2 9 _ (by omega) (by omega) (by omega), h.2 10 _ (by omega) (by omega) (by omega), h.2 11 _ (by omega) (by omega) (by omega)]
    exact R.2 c hc
theorem sl_235 : ∀ (n i : Nat) (s : gx_S), 18 < n + i → i ≤ 18 → ∃ t : gx_S, gm_235_5 n 12 (-1) i 18 s = some t ∧ t.2 = s.2 ∧ (∀ k j, k ≠ 12 → t.1 k j = s.1 k j) ∧ (∀ j, j < 18 → i ≤ j → t.1 12 j = -1) ∧ ∀ j, j < i → t.1 12 j = s.1 12 j := by
  intro n
  induction n with
  | zero => intro i s hn hi; omega
  | succ n ih =>
    intro i s hn hi
    by_cases e : i = 18
    · refine ⟨s, ?_, rfl, fun _ _ _ => rfl, fun j h1 h2 => by omega, fun _ _ => rfl⟩
      rw [gm_235_5]
      simp (disch := omega) only [if_pos]
    · obtain ⟨t, t1, t2, t3, t4, t5⟩ := ih (i + 1) (gw1 s 12 i (-1)) (by omega) (by omega)
      have i3 : ((i : Int) + 1) = ((i + 1 : Nat) : Int) := by omega
      have i5 : ((i : Int)).toNat = i := by omega
      have p : gx_p 12 = true := by decide
      have z : (fx_sh 12).2 = 18 := by decide
      refine ⟨t, ?_, t2, fun k j h => (t3 k j h).trans (by rw [gw1_1, if_neg (fun x => h x.1)]), fun j h1 h2 => ?_, fun j h => (t5 j (by omega)).trans (by rw [gw1_1, if_neg (by omega)])⟩
      · rw [gm_235_5, z, i5, i3]
        simp (disch := first | omega | assumption) only [if_pos, if_neg]
        exact t1
      · by_cases ej : j = i
        · rw [t5 j (by omega), gw1_1, if_pos ⟨rfl, ej⟩]
        · exact t4 j h1 (by omega)
theorem sp_235 (s : gx_S) : ∃ t : gx_S, gm_235 12 (-1) s = some t ∧ t.2 = s.2 ∧ (∀ k j, k ≠ 12 → t.1 k j = s.1 k j) ∧ ∀ j, j < 18 → t.1 12 j = -1 := by
  obtain ⟨t, t1, t2, t3, t4, t5⟩ := sl_235 100000 0 s (by omega) (by omega)
  have z : (fx_sh 12).2 = 18 := by decide
  refine ⟨t, ?_, t2, t3, fun j h => t4 j h (by omega)⟩
  unfold gm_235
  rw [if_pos (by decide), z]
  exact t1
theorem sg_z {f : Nat → Int} : ∀ {n : Nat}, (∀ k, k < n → f k = 0) → sg f n = 0 := by
  intro n h
  have a := sg_le (f := f) (g := fun _ => 0) (n := n) fun k hk => by rw [h k hk]; exact Int.le_refl 0
  have b := sg_nn (f := f) (n := n) fun k hk => by rw [h k hk]; exact Int.le_refl 0
  have c : ∀ n, sg (fun _ => (0 : Int)) n = 0 := by
    intro n
    induction n with
    | zero => rfl
    | succ n ih => show sg (fun _ => (0 : Int)) n + 0 = 0; rw [ih]; rfl
  rw [c] at a
  omega
/-- findWay: the way's end is found, or what is found is closed -/
theorem sp_46 {s : gx_S} {st g : Nat} (R : RG s) (hs : st < 18) (hg : g < 18) : ∃ (t : gx_S) (q : Nat) (b : Bool), gm_46 st g s = some (b, t) ∧ BF t st q ∧ oth s t ∧ t.1 12 st = st ∧ (b = true ↔ t.1 12 g ≠ -1) ∧ (b = false → ∀ u v : Nat, u < 18 → t.1 12 u ≠ -1 → arc s u v → t.1 12 v ≠ -1) := by
  obtain ⟨a, a1, a2, a3, a4⟩ := sp_235 s
  have x6 : ∀ j, (gw1 a 6 7 0).1 12 j = a.1 12 j := fun j => by rw [gw1_1, if_neg (by omega)]
  have b1 : (gw1 a 6 7 0).1 6 7 = 0 := by rw [gw1_1, if_pos ⟨rfl, rfl⟩]
  have b2 : (gw1 a 6 7 0).1 12 st = -1 := by rw [x6]; exact a4 st hs
  have x12 : (gw1 (gw1 a 6 7 0) 12 st st).1 6 7 = 0 := by rw [gw1_1, if_neg (by omega), b1]
  have x13 : (gw1 (gw1 (gw1 a 6 7 0) 12 st st) 13 0 st).1 6 7 = 0 := by rw [gw1_1, if_neg (by omega), x12]
  have e47 : gm_47 st st (gw1 a 6 7 0) = some (gw1 (gw1 (gw1 (gw1 a 6 7 0) 12 st st) 13 0 st) 6 7 1) := by
    unfold gm_47
    rw [show ((st : Int)).toNat = st by omega, b2, b1]
    simp (disch := omega) only [if_pos, if_neg, x12, x13, show (0 : Int).toNat = 0 from rfl, show (0 : Int) + 1 = 1 from rfl]
    exact if_neg (fun h => h trivial)
  have t12 : ∀ w, w < 18 → (gw1 (gw1 (gw1 (gw1 a 6 7 0) 12 st st) 13 0 st) 6 7 1).1 12 w = if w = st then (st : Int) else -1 := by
    intro w hw
    rw [gw1_1, if_neg (by omega), gw1_1, if_neg (by omega), gw1_1]
    by_cases e : w = st
    · rw [if_pos ⟨rfl, e⟩, if_pos e]
    · rw [if_neg (fun h => e h.2), if_neg e, x6, a4 w hw]
  have t13 : (gw1 (gw1 (gw1 (gw1 a 6 7 0) 12 st st) 13 0 st) 6 7 1).1 13 0 = (st : Int) := by
    rw [gw1_1, if_neg (by omega), gw1_1, if_pos ⟨rfl, rfl⟩]
  have B : BF (gw1 (gw1 (gw1 (gw1 a 6 7 0) 12 st st) 13 0 st) 6 7 1) st 1 := by
    refine ⟨by rw [gw1_1, if_pos ⟨rfl, rfl⟩]; rfl, ?_, fun v hv => ?_, fun i hi => ⟨st, hs, ?_, ?_⟩, fun v hv h => ⟨0, by omega, ?_⟩, fun i j hi hj _ => by omega, by omega, t13, fun i h1 h2 => by omega⟩
    · have c := sg_upd (f := fun v => if v = st then 0 else bi ((gw1 (gw1 (gw1 (gw1 a 6 7 0) 12 st st) 13 0 st) 6 7 1).1 12 v ≠ -1)) (g := fun v => bi ((gw1 (gw1 (gw1 (gw1 a 6 7 0) 12 st st) 13 0 st) 6 7 1).1 12 v ≠ -1)) (i := st) (x := 1) (by
        show bi ((gw1 (gw1 (gw1 (gw1 a 6 7 0) 12 st st) 13 0 st) 6 7 1).1 12 st ≠ -1) = (if st = st then 0 else _) + 1
        rw [t12 st hs, if_pos rfl, if_pos rfl]
        exact if_pos (by omega)) (fun c hc => (if_neg hc).symm) (n := 18) hs
      rw [sg_z (f := fun v => if v = st then 0 else bi ((gw1 (gw1 (gw1 (gw1 a 6 7 0) 12 st st) 13 0 st) 6 7 1).1 12 v ≠ -1)) (fun c c18 => by
        show (if c = st then 0 else _) = (0 : Int)
        by_cases e : c = st
        · rw [if_pos e]
        · rw [if_neg e, t12 c c18, if_neg e]
          exact if_neg (fun h => h rfl))] at c
      omega
    · rw [t12 v hv]
      split <;> omega
    · rw [show i = 0 by omega]
      exact t13
    · rw [t12 st hs, if_pos rfl]
      omega
    · rw [t12 v hv] at h
      by_cases e : v = st
      · rw [t13, e]
      · rw [if_neg e] at h
        exact absurd rfl h
  have o : oth s (gw1 (gw1 (gw1 (gw1 a 6 7 0) 12 st st) 13 0 st) 6 7 1) := by
    refine ⟨a2, fun k j h1 h2 h3 => ?_⟩
    rw [gw1_1, if_neg h3, gw1_1, if_neg (fun h => h2 h.1), gw1_1, if_neg (fun h => h1 h.1), gw1_1, if_neg h3]
    exact a3 k j h1
  obtain ⟨t, q, b, w1, w2, w3, w4, w5, w6⟩ := sl_46 hg 100000 0 _ 1 B (RG_oth o R) (by omega) (by omega) (fun j u h => by omega)
  refine ⟨t, q, b, ?_, w2, oth_tr o (ext_oth w4), ?_, w5, fun hb u v hu h hv => w6 hb u v hu h ((arc_oth o u v).mpr hv)⟩
  · unfold gm_46
    rw [a1, Option.bind_some, e47, Option.bind_some]
    exact w1
  · have z : (gw1 (gw1 (gw1 (gw1 a 6 7 0) 12 st st) 13 0 st) 6 7 1).1 12 st = st := by rw [t12 st hs, if_pos rfl]
    rw [w4.2.2.1 st hs (by rw [z]; omega), z]
