/-! THE CLASS's BALANCED TABLE: rows are filled -/
def scr (s t : gx_S) : Prop := t.2 = s.2 ∧ ∀ k j, k ≠ 8 → k ≠ 11 → k ≠ 12 → k ≠ 13 → ¬ (k = 6 ∧ j = 7) → t.1 k j = s.1 k j
theorem scr_rf (s : gx_S) : scr s s := ⟨rfl, fun _ _ _ _ _ _ _ => rfl⟩
theorem scr_tr {s t u : gx_S} (a : scr s t) (b : scr t u) : scr s u := ⟨b.1.trans a.1, fun k j h1 h2 h3 h4 h5 => (b.2 k j h1 h2 h3 h4 h5).trans (a.2 k j h1 h2 h3 h4 h5)⟩
theorem oth_scr {s t : gx_S} (a : oth s t) : scr s t := ⟨a.1, fun k j _ _ h3 h4 h5 => a.2 k j h3 h4 h5⟩
theorem tn_scr {s t : gx_S} (a : tn s t) : scr s t := ⟨a.1, fun k j h1 h2 _ _ _ => a.2.1 k j h1 h2⟩
theorem ph_eq {s t : gx_S} (h8 : ∀ j, t.1 8 j = s.1 8 j) (h11 : ∀ j, t.1 11 j = s.1 11 j) (v : Nat) : ph t v = ph s v := by
  unfold ph
  simp only [h8, h11]
theorem ph_r {s : gx_S} {r : Nat} (h : r < 8) : ph s r = sg (fun c => s.1 8 (9 * r + c)) 9 := if_pos h
theorem ph_c {s : gx_S} {c : Nat} (h : c < 9) : ph s (8 + c) = s.1 11 c - sg (fun r => s.1 8 (9 * r + c)) 8 := by
  unfold ph
  rw [if_neg (by omega), if_pos (by omega), show 8 + c - 8 = c by omega]
theorem ph_oth {s t : gx_S} (o : oth s t) (v : Nat) : ph t v = ph s v := ph_eq (fun j => o.2 8 j (by omega) (by omega) (by omega)) (fun j => o.2 11 j (by omega) (by omega) (by omega)) v
def FL (s : gx_S) : Prop := (∀ j, j < 72 → (s.1 7 j = 0 ∨ s.1 7 j = 1) ∧ (s.1 8 j = 0 ∨ s.1 8 j = 1)) ∧ (∀ c, c < 9 → 0 ≤ s.1 9 c ∧ s.1 9 c ≤ s.1 10 c ∧ s.1 10 c ≤ 9 ∧ 0 ≤ s.1 11 c ∧ s.1 11 c ≤ s.1 10 c) ∧ ∀ c, c < 9 → ph s (8 + c) = 0
def MF (s : gx_S) : Prop := ∀ j, j < 72 → s.1 8 j ≤ s.1 7 j
theorem FL_RG {s : gx_S} (F : FL s) : RG s := ⟨F.1, fun c hc => by
  have := F.2.1 c hc
  unfold i32
  omega⟩
theorem FL_oth {s t : gx_S} (o : oth s t) (F : FL s) : FL t := by
  refine ⟨fun j hj => ?_, fun c hc => ?_, fun c hc => ?_⟩
  · rw [o.2 7 _ (by omega) (by omega) (by omega), o.2 8 _ (by omega) (by omega) (by omega)]
    exact F.1 j hj
  · rw [o.2 9 _ (by omega) (by omega) (by omega), o.2 10 _ (by omega) (by omega) (by omega), o.2 11 _ (by omega) (by omega) (by omega)]
    exact F.2.1 c hc
  · rw [ph_oth o]
    exact F.2.2 c hc
theorem MF_oth {s t : gx_S} (o : oth s t) (M : MF s) : MF t := fun j hj => by
  rw [o.2 7 _ (by omega) (by omega) (by omega), o.2 8 _ (by omega) (by omega) (by omega)]
  exact M j hj
theorem FL_tn {s t : gx_S} (a : tn s t) (F : FL s) (h : ∀ c, c < 9 → ph t (8 + c) = 0) : FL t := by
  refine ⟨fun j hj => ?_, fun c hc => ?_, h⟩
  · rw [a.2.1 7 _ (by omega) (by omega)]
    have x := F.1 j hj
    have y := a.2.2.1 j hj
    omega
  · rw [a.2.1 9 _ (by omega) (by omega), a.2.1 10 _ (by omega) (by omega)]
    have x := F.2.1 c hc
    have y := a.2.2.2 c hc
    omega
theorem MF_tn {s t : gx_S} (a : tn s t) (F : FL s) (M : MF s) : MF t := fun j hj => by
  rw [a.2.1 7 _ (by omega) (by omega)]
  have x := F.1 j hj
  have y := a.2.2.1 j hj
  have z := M j hj
  omega
theorem sg_lt {f g : Nat → Int} {n i : Nat} (h : ∀ k, k < n → f k ≤ g k) (hi : i < n) (hp : f i < g i) : sg f n < sg g n := by
  have a := sg_le (f := fun k => f k + if k = i then 1 else 0) (g := g) (n := n) fun k hk => by
    show f k + (if k = i then 1 else 0) ≤ g k
    by_cases e : k = i
    · rw [if_pos e, e]; omega
    · rw [if_neg e]; have := h k hk; omega
  have b := sg_upd (f := fun _ => 0) (g := fun c => if c = i then 1 else 0) (i := i) (x := 1) (by show (if i = i then 1 else 0) = 0 + 1; rw [if_pos rfl]; omega) (fun c hc => if_neg hc) hi
  rw [sg_add, b, sg_0 (f := fun _ => 0) fun _ _ => rfl] at a
  omega
/-- no cut of the free entries is too narrow for the rows' numbers -/
def CA (s : gx_S) (W : Nat → Int) : Prop := ∀ R C : Nat → Bool, sg (fun r => if R r = true then W r else 0) 8 ≤ sg (fun c => if C c = true then s.1 10 c else 0) 9 + sg (fun r => sg (fun c => if R r = true ∧ C c = false then s.1 7 (9 * r + c) else 0) 9) 8
/-- nor for the columns' least -/
def CB (s : gx_S) (W : Nat → Int) : Prop := ∀ R C : Nat → Bool, sg (fun c => if C c = false then s.1 9 c else 0) 9 ≤ sg (fun r => sg (fun c => if R r = true ∧ C c = false then s.1 7 (9 * r + c) else 0) 9) 8 + sg (fun r => if R r = false then W r else 0) 8
theorem CA_scr {s t : gx_S} {W : Nat → Int} (o : scr s t) (h : CA s W) : CA t W := fun R C => by
  have := h R C
  have z7 : ∀ j, t.1 7 j = s.1 7 j := fun j => o.2 7 j (by omega) (by omega) (by omega) (by omega) (by omega)
  have z10 : ∀ j, t.1 10 j = s.1 10 j := fun j => o.2 10 j (by omega) (by omega) (by omega) (by omega) (by omega)
  simp only [z7, z10]
  exact this
theorem CB_scr {s t : gx_S} {W : Nat → Int} (o : scr s t) (h : CB s W) : CB t W := fun R C => by
  have := h R C
  have z7 : ∀ j, t.1 7 j = s.1 7 j := fun j => o.2 7 j (by omega) (by omega) (by omega) (by omega) (by omega)
  have z9 : ∀ j, t.1 9 j = s.1 9 j := fun j => o.2 9 j (by omega) (by omega) (by omega) (by omega) (by omega)
  simp only [z7, z9]
  exact this
/-- what the found nodes' cut looks like, where nothing more is reached -/
theorem clo_cut {s t : gx_S} (F : FL s) (M : MF s) (cl : ∀ u v : Nat, u < 18 → t.1 12 u ≠ -1 → arc s u v → t.1 12 v ≠ -1) : sg (fun c => if decide (t.1 12 (8 + c) ≠ -1) = true then s.1 11 c else 0) 9 + sg (fun r => sg (fun c => if decide (t.1 12 r ≠ -1) = true ∧ decide (t.1 12 (8 + c) ≠ -1) = false then s.1 7 (9 * r + c) else 0) 9) 8 = sg (fun r => if decide (t.1 12 r ≠ -1) = true then ph s r else 0) 8 := by
  have a := cut_id (fun r c => s.1 8 (9 * r + c)) (fun r => decide (t.1 12 r ≠ -1)) (fun c => decide (t.1 12 (8 + c) ≠ -1)) 8 9
  have e1 : sg (fun r => sg (fun c => if decide (t.1 12 r ≠ -1) = false ∧ decide (t.1 12 (8 + c) ≠ -1) = true then s.1 8 (9 * r + c) else 0) 9) 8 = 0 := sg_0 fun r hr => sg_0 fun c hc => by
    show (if _ then _ else _) = (0 : Int)
    split
    · rename_i h
      have h1 := of_decide_eq_false h.1
      have h2 := of_decide_eq_true h.2
      rcases (F.1 (9 * r + c) (by omega)).2 with h3 | h3
      · exact h3
      · refine absurd (cl (8 + c) r (by omega) h2 (.inr (.inl ⟨by omega, by omega, hr, ?_, ?_⟩))) h1
        · have := M (9 * r + c) (by omega)
          have := (F.1 (9 * r + c) (by omega)).1
          rw [show 8 + c - 8 = c by omega]
          omega
        · rw [show 8 + c - 8 = c by omega]
          exact h3
    · rfl
  have e2 : sg (fun r => sg (fun c => if decide (t.1 12 r ≠ -1) = true ∧ decide (t.1 12 (8 + c) ≠ -1) = false then s.1 8 (9 * r + c) else 0) 9) 8 = sg (fun r => sg (fun c => if decide (t.1 12 r ≠ -1) = true ∧ decide (t.1 12 (8 + c) ≠ -1) = false then s.1 7 (9 * r + c) else 0) 9) 8 := sg_eq fun r hr => sg_eq fun c hc => by
    show (if _ then _ else _) = (if _ then _ else (0 : Int))
    split
    · rename_i h
      have h1 := of_decide_eq_true h.1
      have h2 := of_decide_eq_false h.2
      have m := M (9 * r + c) (by omega)
      have f := F.1 (9 * r + c) (by omega)
      by_cases h3 : s.1 7 (9 * r + c) = 1
      · by_cases h4 : s.1 8 (9 * r + c) = 0
        · refine absurd (cl r (8 + c) (by omega) h1 (.inl ⟨hr, by omega, by omega, ?_, ?_⟩)) h2
          · rw [show 8 + c - 8 = c by omega]
            exact h3
          · rw [show 8 + c - 8 = c by omega]
            exact h4
        · omega
      · omega
    · rfl
  have e3 : sg (fun c => if decide (t.1 12 (8 + c) ≠ -1) = true then sg (fun r => s.1 8 (9 * r + c)) 8 else 0) 9 = sg (fun c => if decide (t.1 12 (8 + c) ≠ -1) = true then s.1 11 c else 0) 9 := sg_eq fun c hc => by
    show (if _ then _ else _) = (if _ then _ else (0 : Int))
    split
    · have := F.2.2 c hc
      rw [ph_c hc] at this
      omega
    · rfl
  have e4 : sg (fun r => if decide (t.1 12 r ≠ -1) = true then sg (fun c => s.1 8 (9 * r + c)) 9 else 0) 8 = sg (fun r => if decide (t.1 12 r ≠ -1) = true then ph s r else 0) 8 := sg_eq fun r hr => by
    show (if _ then _ else _) = (if _ then _ else (0 : Int))
    rw [ph_r hr]
  rw [e1, e2, e3, e4] at a
  omega
/-- a row that has too few gets one more -/
theorem way_row {s : gx_S} {row : Nat} {W : Nat → Int} (F : FL s) (M : MF s) (hA : CA s W) (hW : ∀ r, r < 8 → ph s r ≤ W r) (hr : row < 8) (hlt : ph s row < W row) : ∃ t u : gx_S, gm_46 row 17 s = some (true, t) ∧ gm_51 row 17 t = some u ∧ FL u ∧ MF u ∧ scr s u ∧ ∀ r, r < 8 → ph u r = ph s r + if r = row then 1 else 0 := by
  obtain ⟨t, q, b, t1, t2, t3, t4, t5, t6⟩ := sp_46 (st := row) (g := 17) (FL_RG F) (by omega) (by omega)
  cases b with
  | true =>
    obtain ⟨u, u1, u2, u3, u4⟩ := sp_51 t2 (g := 17) (by omega) (t5.mp rfl)
    refine ⟨t, u, t1, u1, FL_tn u2 (FL_oth t3 F) (fun c hc => ?_), MF_tn u2 (FL_oth t3 F) (MF_oth t3 M), scr_tr (oth_scr t3) (tn_scr u2), fun r h => ?_⟩
    · rw [u3 _ (by omega), ph_oth t3, F.2.2 c hc, if_neg (by omega), if_neg (by omega)]
      rfl
    · rw [u3 _ (by omega), ph_oth t3, if_neg (show ¬ r = 17 by omega)]
      omega
  | false =>
    exfalso
    have cl := t6 rfl
    have h17 : ¬ t.1 12 17 ≠ -1 := fun h => absurd (t5.mpr h) (by decide)
    have cc := clo_cut F M cl
    have a := hA (fun r => decide (t.1 12 r ≠ -1)) (fun c => decide (t.1 12 (8 + c) ≠ -1))
    have b := sg_le (f := fun c => if decide (t.1 12 (8 + c) ≠ -1) = true then s.1 10 c else 0) (g := fun c => if decide (t.1 12 (8 + c) ≠ -1) = true then s.1 11 c else 0) (n := 9) fun c hc => by
      show (if _ then _ else (0 : Int)) ≤ (if _ then _ else (0 : Int))
      split
      · rename_i h
        have h1 := of_decide_eq_true h
        by_cases h2 : s.1 11 c < s.1 10 c
        · exact absurd (cl (8 + c) 17 (by omega) h1 (.inr (.inr (.inl ⟨by omega, by omega, rfl, by rw [show 8 + c - 8 = c by omega]; exact h2⟩)))) h17
        · omega
      · omega
    have hrow : decide (t.1 12 row ≠ -1) = true := decide_eq_true (by rw [t4]; omega)
    have d := sg_lt (f := fun r => if decide (t.1 12 r ≠ -1) = true then ph s r else 0) (g := fun r => if decide (t.1 12 r ≠ -1) = true then W r else 0) (n := 8) (i := row) (fun r h => by
      show (if _ then _ else (0 : Int)) ≤ (if _ then _ else (0 : Int))
      split
      · exact hW r h
      · omega) hr (by
      show (if _ then _ else (0 : Int)) < (if _ then _ else (0 : Int))
      rw [if_pos hrow, if_pos hrow]
      exact hlt)
    omega
