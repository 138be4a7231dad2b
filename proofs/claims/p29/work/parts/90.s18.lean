/-! THE CLASS's BALANCED TABLE: fillRow, fillColumn -/
theorem sl_43 {row : Nat} {W : Nat → Int} {w : Nat} (hr : row < 8) (hw : W row = w) (w9 : w ≤ 9) : ∀ (n k : Nat) (s : gx_S), FL s → MF s → CA s W → (∀ r, r < 8 → ph s r ≤ W r) → ph s row = k → k ≤ w → 9 < n + k → ∃ t : gx_S, gm_43_2 n row w k s = some t ∧ FL t ∧ MF t ∧ scr s t ∧ ph t row = w ∧ ∀ r, r < 8 → r ≠ row → ph t r = ph s r := by
  intro n
  induction n with
  | zero => intro k s F M hA hW hk kw hn; omega
  | succ n ih =>
    intro k s F M hA hW hk kw hn
    by_cases e : k = w
    · refine ⟨s, ?_, F, M, scr_rf s, by rw [hk, e], fun _ _ _ => rfl⟩
      rw [gm_43_2]
      simp (disch := omega) only [if_pos]
    · obtain ⟨t, u, t1, u1, F', M', o, p⟩ := way_row F M hA hW hr (by omega)
      obtain ⟨x, x1, x2, x3, x4, x5, x6⟩ := ih (k + 1) u F' M' (CA_scr o hA) (fun r h => by
        rw [p r h]
        have := hW r h
        by_cases er : r = row
        · rw [if_pos er, er]; omega
        · rw [if_neg er]; omega) (by rw [p row hr, if_pos rfl, hk]; omega) (by omega) (by omega)
      refine ⟨x, ?_, x2, x3, scr_tr o x4, x5, fun r h h' => by rw [x6 r h h', p r h, if_neg h']; omega⟩
      have i3 : ((k : Int) + 1) = ((k + 1 : Nat) : Int) := by omega
      rw [gm_43_2, t1]
      simp (disch := first | omega | decide) only [if_pos, if_neg, Option.bind_some, u1, gm_43_30, i3]
      exact x1
theorem sp_43 {s : gx_S} {row : Nat} {W : Nat → Int} {w : Nat} (F : FL s) (M : MF s) (hA : CA s W) (hW : ∀ r, r < 8 → ph s r ≤ W r) (hr : row < 8) (hw : W row = w) (w9 : w ≤ 9) (h0 : ph s row = 0) : ∃ t : gx_S, gm_43 row w s = some t ∧ FL t ∧ MF t ∧ scr s t ∧ ph t row = w ∧ ∀ r, r < 8 → r ≠ row → ph t r = ph s r := sl_43 hr hw w9 100000 0 s F M hA hW h0 (by omega) (by omega)
/-- a column that has too few gets one more, the rows' numbers stay -/
theorem way_col {s : gx_S} {col : Nat} {W : Nat → Int} (F : FL s) (M : MF s) (hB : CB s W) (hW : ∀ r, r < 8 → ph s r = W r) (hc : col < 9) (hlt : s.1 11 col < s.1 9 col) : ∃ t u : gx_S, gm_46 17 ((8 + col : Nat) : Int) s = some (true, t) ∧ gm_51 17 ((8 + col : Nat) : Int) t = some u ∧ u.1 11 col = s.1 11 col ∧ FL (gw1 u 11 col (u.1 11 col + 1)) ∧ MF (gw1 u 11 col (u.1 11 col + 1)) ∧ scr s (gw1 u 11 col (u.1 11 col + 1)) ∧ (∀ r, r < 8 → ph (gw1 u 11 col (u.1 11 col + 1)) r = W r) ∧ ∀ c, c < 9 → s.1 9 c ≤ s.1 11 c → s.1 9 c ≤ (gw1 u 11 col (u.1 11 col + 1)).1 11 c := by
  obtain ⟨t, q, b, t1, t2, t3, t4, t5, t6⟩ := sp_46 (st := 17) (g := 8 + col) (FL_RG F) (by omega) (by omega)
  cases b with
  | true =>
    obtain ⟨u, u1, u2, u3, u4⟩ := sp_51 t2 (g := 8 + col) (by omega) (t5.mp rfl)
    have y9 : ∀ j, t.1 9 j = s.1 9 j := fun j => t3.2 9 j (by omega) (by omega) (by omega)
    have y10 : ∀ j, t.1 10 j = s.1 10 j := fun j => t3.2 10 j (by omega) (by omega) (by omega)
    have y11 : ∀ j, t.1 11 j = s.1 11 j := fun j => t3.2 11 j (by omega) (by omega) (by omega)
    have z11 : u.1 11 col = s.1 11 col := (u4 col hc rfl (by rw [y9, y11]; omega)).trans (y11 col)
    have z9 : ∀ j, u.1 9 j = s.1 9 j := fun j => (u2.2.1 9 j (by omega) (by omega)).trans (y9 j)
    have z10 : ∀ j, u.1 10 j = s.1 10 j := fun j => (u2.2.1 10 j (by omega) (by omega)).trans (y10 j)
    have p : ∀ v, v < 18 → ph (gw1 u 11 col (u.1 11 col + 1)) v = ph s v := fun v hv => by
      rw [ph_w11 (d := 1) hc rfl hv, u3 v hv, ph_oth t3]
      split <;> split <;> omega
    have fc := F.2.1 col hc
    have g : ∀ k j, k ≠ 11 → (gw1 u 11 col (u.1 11 col + 1)).1 k j = u.1 k j := fun k j h => by rw [gw1_1, if_neg (fun x => h x.1)]
    have Fo := FL_oth t3 F
    have Mu := MF_tn u2 Fo (MF_oth t3 M)
    refine ⟨t, u, t1, u1, z11, ⟨fun j hj => ?_, fun c h => ?_, fun c h => by rw [p _ (by omega)]; exact F.2.2 c h⟩, fun j hj => ?_, scr_tr (scr_tr (oth_scr t3) (tn_scr u2)) ⟨rfl, fun k j _ h2 _ _ _ => g k j h2⟩, fun r h => by rw [p r (by omega)]; exact hW r h, fun c h h' => ?_⟩
    · rw [g 7 j (by omega), g 8 j (by omega), u2.2.1 7 j (by omega) (by omega)]
      have x := Fo.1 j hj
      have y := u2.2.2.1 j hj
      omega
    · rw [g 9 c (by omega), g 10 c (by omega), z9, z10, gw1_1]
      have x := F.2.1 c h
      have y := u2.2.2.2 c h
      rw [y9, y10, y11] at y
      by_cases e : c = col
      · rw [if_pos ⟨rfl, e⟩, z11, e]
        omega
      · rw [if_neg (fun x => e x.2)]
        omega
    · rw [g 7 j (by omega), g 8 j (by omega)]
      exact Mu j hj
    · rw [gw1_1]
      have y := u2.2.2.2 c h
      rw [y9, y10, y11] at y
      by_cases e : c = col
      · rw [e] at h'
        omega
      · rw [if_neg (fun x => e x.2)]
        omega
  | false =>
    exfalso
    have cl := t6 rfl
    have hg : ¬ t.1 12 (8 + col) ≠ -1 := fun h => absurd (t5.mpr h) (by decide)
    have h17 : t.1 12 17 ≠ -1 := by rw [t4]; omega
    have cc := clo_cut F M cl
    have a := hB (fun r => decide (t.1 12 r ≠ -1)) (fun c => decide (t.1 12 (8 + c) ≠ -1))
    have hcol : decide (t.1 12 (8 + col) ≠ -1) = false := decide_eq_false hg
    have d := sg_lt (f := fun c => if decide (t.1 12 (8 + c) ≠ -1) = false then s.1 11 c else 0) (g := fun c => if decide (t.1 12 (8 + c) ≠ -1) = false then s.1 9 c else 0) (n := 9) (i := col) (fun c h => by
      show (if _ then _ else (0 : Int)) ≤ (if _ then _ else (0 : Int))
      split
      · rename_i h1
        have h1 := of_decide_eq_false h1
        by_cases h2 : s.1 9 c < s.1 11 c
        · exact absurd (cl 17 (8 + c) (by omega) h17 (.inr (.inr (.inr ⟨rfl, by omega, by omega, by rw [show 8 + c - 8 = c by omega]; exact h2⟩)))) h1
        · omega
      · omega) hc (by
      show (if _ then _ else (0 : Int)) < (if _ then _ else (0 : Int))
      rw [if_pos hcol, if_pos hcol]
      exact hlt)
    have tot : sg (fun c => s.1 11 c) 9 = sg (fun r => W r) 8 := by
      rw [sg_eq (f := fun c => s.1 11 c) (g := fun c => sg (fun r => s.1 8 (9 * r + c)) 8) fun c h => by
        have := F.2.2 c h
        rw [ph_c h] at this
        show s.1 11 c = _
        omega, ← sg_swap (fun r c => s.1 8 (9 * r + c)) 9 8]
      exact sg_eq fun r h => by
        have := hW r h
        rw [ph_r h] at this
        exact this
    have spc : ∀ (b : Nat → Bool) (f : Nat → Int) (n : Nat), sg (fun c => if b c = true then f c else 0) n + sg (fun c => if b c = false then f c else 0) n = sg f n := fun b f n => by
      rw [← sg_add]
      exact sg_eq fun c _ => by
        show (if _ then _ else (0 : Int)) + (if _ then _ else (0 : Int)) = _
        cases b c with
        | true => rw [if_pos rfl, if_neg (by decide)]; omega
        | false => rw [if_neg (by decide), if_pos rfl]; omega
    have s1 := spc (fun c => decide (t.1 12 (8 + c) ≠ -1)) (fun c => s.1 11 c) 9
    have s2 := spc (fun r => decide (t.1 12 r ≠ -1)) (fun r => W r) 8
    have s3 : sg (fun r => if decide (t.1 12 r ≠ -1) = true then ph s r else 0) 8 = sg (fun r => if decide (t.1 12 r ≠ -1) = true then W r else 0) 8 := sg_eq fun r h => by
      show (if _ then _ else (0 : Int)) = (if _ then _ else (0 : Int))
      rw [hW r h]
    rw [s3] at cc
    omega
theorem sl_44 {col : Nat} {W : Nat → Int} (hc : col < 9) : ∀ (n k : Nat) (s : gx_S), FL s → MF s → CB s W → (∀ r, r < 8 → ph s r = W r) → (k : Int) ≤ s.1 11 col → s.1 9 col ≤ 8 → 9 < n + k → ∃ t : gx_S, gm_44_2 n col k s = some t ∧ FL t ∧ MF t ∧ scr s t ∧ (∀ r, r < 8 → ph t r = W r) ∧ s.1 9 col ≤ t.1 11 col ∧ ∀ c, c < 9 → s.1 9 c ≤ s.1 11 c → s.1 9 c ≤ t.1 11 c := by
  intro n
  induction n with
  | zero =>
    intro k s F M hB hW hk h8 hn
    have := F.2.1 col hc
    omega
  | succ n ih =>
    intro k s F M hB hW hk h8 hn
    have fc := F.2.1 col hc
    have i5 : ((col : Int)).toNat = col := by omega
    by_cases e : s.1 9 col ≤ s.1 11 col
    · refine ⟨s, ?_, F, M, scr_rf s, hW, e, fun _ _ h => h⟩
      rw [gm_44_2, i5]
      by_cases h : 8 ≤ (k : Int)
      · simp (disch := omega) only [if_pos]
      · simp (disch := omega) only [if_pos, if_neg]
    · obtain ⟨t, u, t1, u1, z, F', M', o, p, r⟩ := way_col F M hB hW hc (by omega)
      have i9 : (gw1 u 11 col (u.1 11 col + 1)).1 9 col = s.1 9 col := o.2 9 col (by omega) (by omega) (by omega) (by omega) (by omega)
      have i11 : (gw1 u 11 col (u.1 11 col + 1)).1 11 col = s.1 11 col + 1 := by rw [gw1_1, if_pos ⟨rfl, rfl⟩, z]
      obtain ⟨x, x1, x2, x3, x4, x5, x6, x7⟩ := ih (k + 1) _ F' M' (CB_scr o hB) p (by rw [i11]; omega) (by rw [i9]; exact h8) (by omega)
      rw [i9] at x6
      refine ⟨x, ?_, x2, x3, scr_tr o x4, x5, x6, fun c h h' => ?_⟩
      · have i3 : ((k : Int) + 1) = ((k + 1 : Nat) : Int) := by omega
        have i2 : (8 : Int) + col = ((8 + col : Nat) : Int) := by omega
        rw [gm_44_2, i5, i2, t1]
        simp (disch := first | omega | decide) only [if_pos, if_neg, Option.bind_some, u1, gm_44_56, i3]
        exact x1
      · have i9' : (gw1 u 11 col (u.1 11 col + 1)).1 9 c = s.1 9 c := o.2 9 c (by omega) (by omega) (by omega) (by omega) (by omega)
        have := x7 c h (by rw [i9']; exact r c h h')
        rw [i9'] at this
        exact this
theorem sp_44 {s : gx_S} {col : Nat} {W : Nat → Int} (F : FL s) (M : MF s) (hB : CB s W) (hW : ∀ r, r < 8 → ph s r = W r) (hc : col < 9) (h8 : s.1 9 col ≤ 8) : ∃ t : gx_S, gm_44 col s = some t ∧ FL t ∧ MF t ∧ scr s t ∧ (∀ r, r < 8 → ph t r = W r) ∧ s.1 9 col ≤ t.1 11 col ∧ ∀ c, c < 9 → s.1 9 c ≤ s.1 11 c → s.1 9 c ≤ t.1 11 c := sl_44 hc 100000 0 s F M hB hW (F.2.1 col hc).2.2.2.1 h8 (by omega)
