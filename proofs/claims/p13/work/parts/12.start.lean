/-! THE START: both constructors run in the kernel; the world behind them is gs0 -/
def gs0 : gx_S := (fun k j => bif Nat.beq k 216 then (bif (Nat.ble 32 j && Nat.ble j 43) then 1 else 0) else bif (Nat.beq k 4 || Nat.beq k 21 || Nat.beq k 26 || Nat.beq k 31 || Nat.beq k 36 || Nat.beq k 41 || Nat.beq k 46 || Nat.beq k 51 || Nat.beq k 56) then 1 else bif (Nat.beq k 119 && Nat.beq j 9) then 1 else bif (Nat.beq k 167 && Nat.beq j 9) then 2 else 0, fun _ _ => 0)
def fx_okc (σ : fx_S) (k : Nat) (c : iv_C) : Bool := match c with
  | .inl o => decide (fx_sh k = (100 + o.1, o.2.length)) && (List.range o.2.length).all fun j => decide (o.2[j]? = some (fx_fv σ k o.1 j))
  | .inr (t, n, .inl f) => decide (fx_sh k = (t, n)) && (decide (t = 0) || (decide (t = 2) || decide (t = 3))) && (List.range n).all fun i => decide (f i = σ.1 k i)
  | .inr (t, n, .inr (.inl f)) => decide (fx_sh k = (t, n)) && decide (t = 1) && (List.range n).all fun i => decide (f i = σ.2 k i)
  | .inr (t, n, .inr (.inr (.inr (.inr f)))) => decide (fx_sh k = (t, n)) && decide (4 ≤ t) && decide (t < 99) && (List.range n).all fun i => decide (f i = some (fx_rf k i))
  | _ => false
theorem fx_okc_s {σ : fx_S} {k : Nat} {c : iv_C} (h : fx_okc σ k c = true) : fx_rc σ k c := by
  match c, h with
  | .inl o, h =>
    simp only [fx_okc, Bool.and_eq_true, decide_eq_true_eq, List.all_eq_true, List.mem_range] at h
    exact h
  | .inr (t, n, .inl f), h =>
    simp only [fx_okc, Bool.and_eq_true, Bool.or_eq_true, decide_eq_true_eq, List.all_eq_true, List.mem_range] at h
    exact ⟨h.1.1, h.1.2, h.2⟩
  | .inr (t, n, .inr (.inl f)), h =>
    simp only [fx_okc, Bool.and_eq_true, decide_eq_true_eq, List.all_eq_true, List.mem_range] at h
    exact ⟨h.1.1, h.1.2, h.2⟩
  | .inr (t, n, .inr (.inr (.inl f))), h => cases h
  | .inr (t, n, .inr (.inr (.inr (.inl f)))), h => cases h
  | .inr (t, n, .inr (.inr (.inr (.inr f)))), h =>
    simp only [fx_okc, Bool.and_eq_true, decide_eq_true_eq, List.all_eq_true, List.mem_range] at h
    exact ⟨h.1.1.1, h.1.1.2, h.1.2, h.2⟩
def fx_okH (σ : fx_S) (h : iv_H) : Bool := Nat.beq h.length fx_N && (List.range fx_N).all fun k => match h[k]? with
  | some c => fx_okc σ k c
  | none => false
theorem fx_okH_s {σ : fx_S} {h : iv_H} (g : fx_okH σ h = true) : fx_R σ h := by
  simp only [fx_okH, Bool.and_eq_true, List.all_eq_true, List.mem_range] at g
  refine ⟨Nat.eq_of_beq_eq_true g.1, fun k hk => ?_⟩
  have g2 := g.2 k hk
  split at g2
  · rename_i c hc
    exact ⟨c, hc, fx_okc_s g2⟩
  · cases g2
def fx_h1 : Option iv_H := match iv_run none 20000 99 84 (0, iv_en 84 [.ref 0], [], [.inl (9, iv_df 9)]) with
  | some (none, h) => bif Nat.beq h.length 215 then some h else none
  | _ => none
def fx_h2 (h : iv_H) : Option iv_H := match iv_run none 20000 99 129 (0, iv_en 129 [.ref 215], [], h ++ [.inl (10, iv_df 10)]) with
  | some (none, h) => some h
  | _ => none
def fx_ck : Bool := match fx_h1 with
  | some h => match fx_h2 h with
    | some h => fx_okH (gx gs0) h
    | none => false
  | none => false
set_option maxRecDepth 1000000 in
theorem fx_ck_t : fx_ck = true := by decide +kernel
