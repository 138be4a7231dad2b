/-! ZoneShares$CountsText.slotOf(I)I -/
def gm_7 (x0 : Int) (s : gx_S) : Option (Int × gx_S) :=
  if (-2147483648 ≤ x0 ∧ x0 ≤ 2147483647) then (
  if ¬ x0 = 63 then (
    if x0 < 97 then (
      some ((-1), s)) else (
      if 104 < x0 then (
        some ((-1), s)) else (
        some ((x0 - 97), s)))) else (
    some (8, s))) else none
theorem gf_7 {x0 : Int} {yx0 : Int32} (e0 : yx0 = Int32.ofInt x0) {s : gx_S} {σ : fx_S} (es : σ = gx s) {q : Int × gx_S} (h : gm_7 x0 s = some q) : fm_7 yx0 σ = some (Int32.ofInt q.1, gx q.2) := by
  unfold gm_7 at h
  unfold fm_7
  obtain ⟨z5, h⟩ := fx_gd h
  by_cases c6 : ¬ x0 = 63
  · rw [if_pos c6] at h
    refine gb_t ((gc_ne e0 kg_63 z5 (by decide)).mpr c6) ?_
    by_cases c7 : x0 < 97
    · rw [if_pos c7] at h
      refine gb_t ((gc_lt e0 kg_97 z5 (by decide)).mpr c7) ?_
      have h := Option.some.inj h
      subst h
      exact gret kg_m1 es
    · rw [if_neg c7] at h
      refine gb_f (fun q => c7 ((gc_lt e0 kg_97 z5 (by decide)).mp q)) ?_
      by_cases c8 : 104 < x0
      · rw [if_pos c8] at h
        refine gb_t ((gc_lt kg_104 e0 (by decide) z5).mpr c8) ?_
        have h := Option.some.inj h
        subst h
        exact gret kg_m1 es
      · rw [if_neg c8] at h
        refine gb_f (fun q => c8 ((gc_lt kg_104 e0 (by decide) z5).mp q)) ?_
        have h := Option.some.inj h
        subst h
        exact gret (ga_sub e0 kg_97) es
  · rw [if_neg c6] at h
    refine gb_f (fun q => c6 ((gc_ne e0 kg_63 z5 (by decide)).mp q)) ?_
    have h := Option.some.inj h
    subst h
    exact gret kg_8 es

/-! ZoneShares$CountsText.isDigit(I)Z -/
def gm_8 (x0 : Int) (s : gx_S) : Option (Bool × gx_S) :=
  if (-2147483648 ≤ x0 ∧ x0 ≤ 2147483647) then (
  if x0 < 48 then (
    some (false, s)) else (
    if 57 < x0 then (
      some (false, s)) else (
      some (true, s)))) else none
theorem gf_8 {x0 : Int} {yx0 : Int32} (e0 : yx0 = Int32.ofInt x0) {s : gx_S} {σ : fx_S} (es : σ = gx s) {q : Bool × gx_S} (h : gm_8 x0 s = some q) : fm_8 yx0 σ = some (q.1, gx q.2) := by
  unfold gm_8 at h
  unfold fm_8
  obtain ⟨z4, h⟩ := fx_gd h
  by_cases c5 : x0 < 48
  · rw [if_pos c5] at h
    refine gb_t ((gc_lt e0 kg_48 z4 (by decide)).mpr c5) ?_
    have h := Option.some.inj h
    subst h
    exact gretb es
  · rw [if_neg c5] at h
    refine gb_f (fun q => c5 ((gc_lt e0 kg_48 z4 (by decide)).mp q)) ?_
    by_cases c6 : 57 < x0
    · rw [if_pos c6] at h
      refine gb_t ((gc_lt kg_57 e0 (by decide) z4).mpr c6) ?_
      have h := Option.some.inj h
      subst h
      exact gretb es
    · rw [if_neg c6] at h
      refine gb_f (fun q => c6 ((gc_lt kg_57 e0 (by decide) z4).mp q)) ?_
      have h := Option.some.inj h
      subst h
      exact gretb es

/-! ZoneShares$Fitter.addWeight(II)V -/
def gm_13_2 : Nat → Int → Int → Int → gx_S → Option (gx_S)
  | 0, _, _, _, _ => none
  | n + 1, x1, x2, x3, s =>
    if (-2147483648 ≤ x3 ∧ x3 ≤ 2147483647) then (
    if (-2147483648 ≤ (s.1 62 2) ∧ (s.1 62 2) ≤ 2147483647) then (
    if (s.1 62 2) ≤ x3 then (
      if 0 ≤ x1 ∧ x1 < 4 then (
      if (-2147483648 ≤ (x2 * (s.1 66 (x1).toNat)) ∧ (x2 * (s.1 66 (x1).toNat)) ≤ 2147483647) then (
      some (gw2 s 62 8 ((s.2 62 8) + (x2 * (s.1 66 (x1).toNat))))) else none) else none) else (
      if 0 ≤ x3 ∧ x3 < 8 then (
      if 0 ≤ ((x3 * 4) + x1) ∧ ((x3 * 4) + x1) < 32 then (
      gm_13_2 n x1 x2 (x3 + 1) (gw1 s 68 (x3).toNat ((s.1 68 (x3).toNat) + (x2 * (s.1 65 (((x3 * 4) + x1)).toNat))))) else none) else none)) else none) else none
def gm_13 (x1 : Int) (x2 : Int) (s : gx_S) : Option (gx_S) :=
  gm_13_2 100000 x1 x2 0 s
/-! ZoneShares$Fitter.missed()J -/
def gm_14_4 : Nat → Int → Int → gx_S → Option (Int × gx_S)
  | 0, _, _, _ => none
  | n + 1, x1, x3, s =>
    if (-2147483648 ≤ x3 ∧ x3 ≤ 2147483647) then (
    if (-2147483648 ≤ (s.1 62 2) ∧ (s.1 62 2) ≤ 2147483647) then (
    if (s.1 62 2) ≤ x3 then (
      some (x1, s)) else (
      if 0 ≤ x3 ∧ x3 < 8 then (
      if (-2147483648 ≤ (s.1 64 (x3).toNat) ∧ (s.1 64 (x3).toNat) ≤ 2147483647) then (
      if (-2147483648 ≤ (s.1 68 (x3).toNat) ∧ (s.1 68 (x3).toNat) ≤ 2147483647) then (
      if (-9223372036854775808 ≤ (((s.1 64 (x3).toNat) * (s.2 62 8)) - ((s.2 62 1) * (s.1 68 (x3).toNat))) ∧ (((s.1 64 (x3).toNat) * (s.2 62 8)) - ((s.2 62 1) * (s.1 68 (x3).toNat))) ≤ 9223372036854775807) then (
      gm_14_4 n (x1 + (if 0 < (((s.1 64 (x3).toNat) * (s.2 62 8)) - ((s.2 62 1) * (s.1 68 (x3).toNat))) then (((s.1 64 (x3).toNat) * (s.2 62 8)) - ((s.2 62 1) * (s.1 68 (x3).toNat))) else -(((s.1 64 (x3).toNat) * (s.2 62 8)) - ((s.2 62 1) * (s.1 68 (x3).toNat))))) (x3 + 1) s) else none) else none) else none) else none)) else none) else none
def gm_14 (s : gx_S) : Option (Int × gx_S) :=
  gm_14_4 100000 0 0 s
/-! ZoneShares$Fitter.tryRow()V -/
def gm_16_33 (x1 : Int) (s : gx_S) : Option (gx_S) :=
  some (gcp (gw2 (gw2 s 62 9 x1) 62 10 ((gw2 s 62 9 x1).2 62 8)) 67 0 63 0 4)
def gm_16 (s : gx_S) : Option (gx_S) :=
  (gm_14 s).bind fun q11 =>
  if (-9223372036854775808 ≤ (q11.2.2 62 10) ∧ (q11.2.2 62 10) ≤ 9223372036854775807) then (
  if (q11.2.2 62 10) = 0 then (
    gm_16_33 q11.1 q11.2) else (
    if (-9223372036854775808 ≤ (q11.1 * (q11.2.2 62 10)) ∧ (q11.1 * (q11.2.2 62 10)) ≤ 9223372036854775807) then (
    if (-9223372036854775808 ≤ ((q11.2.2 62 9) * (q11.2.2 62 8)) ∧ ((q11.2.2 62 9) * (q11.2.2 62 8)) ≤ 9223372036854775807) then (
    if ((q11.2.2 62 9) * (q11.2.2 62 8)) ≤ (q11.1 * (q11.2.2 62 10)) then (
      some q11.2) else (
      gm_16_33 q11.1 q11.2)) else none) else none)) else none
/-! ZoneShares$Fitter.nextRow()V -/
def gm_17_71 (k_2 : Int → gx_S → Option (gx_S)) (x1 : Int) (s : gx_S) : Option (gx_S) :=
  k_2 (x1 + (-1)) s
def gm_17_43 (k_2 : Int → gx_S → Option (gx_S)) (x1 : Int) (s : gx_S) : Option (gx_S) :=
  if 0 ≤ x1 ∧ x1 < 4 then (
  if (-2147483648 ≤ (s.1 66 (x1).toNat) ∧ (s.1 66 (x1).toNat) ≤ 2147483647) then (
  if (s.1 66 (x1).toNat) ≤ 0 then (
    gm_17_71 k_2 x1 s) else (
    (gm_13 x1 (-(s.1 67 (x1).toNat)) s).bind fun q9 =>
    gm_17_71 k_2 x1 (gw1 q9 67 (x1).toNat 0))) else none) else none
def gm_17_2 : Nat → Int → gx_S → Option (gx_S)
  | 0, _, _ => none
  | n + 1, x1, s =>
    if (-2147483648 ≤ x1 ∧ x1 ≤ 2147483647) then (
    if x1 < 0 then (
      some s) else (
      if 0 ≤ x1 ∧ x1 < 4 then (
      if (-2147483648 ≤ (s.1 66 (x1).toNat) ∧ (s.1 66 (x1).toNat) ≤ 2147483647) then (
      if (s.1 66 (x1).toNat) ≤ 0 then (
        gm_17_43 (gm_17_2 n) x1 s) else (
        if (-2147483648 ≤ (s.1 67 (x1).toNat) ∧ (s.1 67 (x1).toNat) ≤ 2147483647) then (
        if 9 ≤ (s.1 67 (x1).toNat) then (
          gm_17_43 (gm_17_2 n) x1 s) else (
          (gm_13 x1 1 (gw1 s 67 (x1).toNat ((s.1 67 (x1).toNat) + 1))).bind fun q17 =>
          some q17)) else none)) else none) else none)) else none
def gm_17 (s : gx_S) : Option (gx_S) :=
  gm_17_2 100000 3 s
/-! ZoneShares$Group.lacks(I)Z -/
def gm_21_14 (x0 : Nat) (x1 : Int) (s0 : Int) (s : gx_S) : Option (Bool × gx_S) :=
  if (-2147483648 ≤ s0 ∧ s0 ≤ 2147483647) then (
  if ¬ s0 = 0 then (
    some (false, (gw1 s x0 8 (((Int32.ofInt (s.1 x0 8) ||| Int32.ofInt x1)).toInt)))) else (
    some (true, (gw1 s x0 8 (((Int32.ofInt (s.1 x0 8) ||| Int32.ofInt x1)).toInt))))) else none
theorem gf_21_14 (x0 : Nat) (x1 : Int) (yx1 : Int32) (e1 : yx1 = Int32.ofInt x1) (s0 : Int) (ys0 : Int32) (es0 : ys0 = Int32.ofInt s0) (s : gx_S) (σ : fx_S) (es : σ = gx s) (q : Bool × gx_S) (g0 : fx_oc x0 2 = true) (h : gm_21_14 x0 x1 s0 s = some q) : fm_21_14 x0 yx1 ys0 σ = some (q.1, gx q.2) := by
  unfold gm_21_14 at h
  unfold fm_21_14
  obtain ⟨z1, h⟩ := fx_gd h
  by_cases c2 : ¬ s0 = 0
  · rw [if_pos c2] at h
    refine gb_t ((gc_ne es0 kg_0 z1 (by decide)).mpr c2) ?_
    have h := Option.some.inj h
    subst h
    exact gretb (gx_w1 es (ga_o2 (f := (fun a b => (a ||| b))) (gf1 es x0 8) e1))
  · rw [if_neg c2] at h
    refine gb_f (fun q => c2 ((gc_ne es0 kg_0 z1 (by decide)).mp q)) ?_
    have h := Option.some.inj h
    subst h
    exact gretb (gx_w1 es (ga_o2 (f := (fun a b => (a ||| b))) (gf1 es x0 8) e1))
def gm_21 (x0 : Nat) (x1 : Int) (s : gx_S) : Option (Bool × gx_S) :=
  if fx_oc x0 2 = true then (
  if (-2147483648 ≤ ((Int32.ofInt (s.1 x0 8) &&& Int32.ofInt x1)).toInt ∧ ((Int32.ofInt (s.1 x0 8) &&& Int32.ofInt x1)).toInt ≤ 2147483647) then (
  if ((Int32.ofInt (s.1 x0 8) &&& Int32.ofInt x1)).toInt = 0 then (
    gm_21_14 x0 x1 0 s) else (
    gm_21_14 x0 x1 1 s)) else none) else none
theorem gf_21 {x0 : Nat} {x1 : Int} {yx1 : Int32} (e1 : yx1 = Int32.ofInt x1) {s : gx_S} {σ : fx_S} (es : σ = gx s) {q : Bool × gx_S} (h : gm_21 x0 x1 s = some q) : fm_21 x0 yx1 σ = some (q.1, gx q.2) := by
  unfold gm_21 at h
  unfold fm_21
  obtain ⟨gg, h⟩ := fx_gd h
  refine gb_t gg ?_
  have g0 := gg
  obtain ⟨z5, h⟩ := fx_gd h
  by_cases c6 : ((Int32.ofInt (s.1 x0 8) &&& Int32.ofInt x1)).toInt = 0
  · rw [if_pos c6] at h
    refine gb_t ((gc_eq (ga_o2 (f := (fun a b => (a &&& b))) (gf1 es x0 8) e1) kg_0 z5 (by decide)).mpr c6) ?_
    exact gf_21_14 _ _ _ e1 _ _ kg_0 _ _ es _ g0 h
  · rw [if_neg c6] at h
    refine gb_f (fun q => c6 ((gc_eq (ga_o2 (f := (fun a b => (a &&& b))) (gf1 es x0 8) e1) kg_0 z5 (by decide)).mp q)) ?_
    exact gf_21_14 _ _ _ e1 _ _ kg_1 _ _ es _ g0 h

/-! ZoneShares$LayerText.valueOf(II)I -/
def gm_35 (x0 : Int) (x1 : Int) (s : gx_S) : Option (Int × gx_S) :=
  if (-2147483648 ≤ x1 ∧ x1 ≤ 2147483647) then (
  if ¬ x1 = 2 then (
    if (-2147483648 ≤ x0 ∧ x0 ≤ 2147483647) then (
    if ¬ x0 = 46 then (
      if x0 < 97 then (
        some ((-1), s)) else (
        if 104 < x0 then (
          some ((-1), s)) else (
          some ((x0 - 97), s)))) else (
      some (8, s))) else none) else (
    if (-2147483648 ≤ x0 ∧ x0 ≤ 2147483647) then (
    if x0 < 48 then (
      some ((-1), s)) else (
      if 51 < x0 then (
        some ((-1), s)) else (
        some ((x0 - 48), s)))) else none)) else none
theorem gf_35 {x0 : Int} {yx0 : Int32} (e0 : yx0 = Int32.ofInt x0) {x1 : Int} {yx1 : Int32} (e1 : yx1 = Int32.ofInt x1) {s : gx_S} {σ : fx_S} (es : σ = gx s) {q : Int × gx_S} (h : gm_35 x0 x1 s = some q) : fm_35 yx0 yx1 σ = some (Int32.ofInt q.1, gx q.2) := by
  unfold gm_35 at h
  unfold fm_35
  obtain ⟨z10, h⟩ := fx_gd h
  by_cases c11 : ¬ x1 = 2
  · rw [if_pos c11] at h
    refine gb_t ((gc_ne e1 kg_2 z10 (by decide)).mpr c11) ?_
    obtain ⟨z12, h⟩ := fx_gd h
    by_cases c13 : ¬ x0 = 46
    · rw [if_pos c13] at h
      refine gb_t ((gc_ne e0 kg_46 z12 (by decide)).mpr c13) ?_
      by_cases c14 : x0 < 97
      · rw [if_pos c14] at h
        refine gb_t ((gc_lt e0 kg_97 z12 (by decide)).mpr c14) ?_
        have h := Option.some.inj h
        subst h
        exact gret kg_m1 es
      · rw [if_neg c14] at h
        refine gb_f (fun q => c14 ((gc_lt e0 kg_97 z12 (by decide)).mp q)) ?_
        by_cases c15 : 104 < x0
        · rw [if_pos c15] at h
          refine gb_t ((gc_lt kg_104 e0 (by decide) z12).mpr c15) ?_
          have h := Option.some.inj h
          subst h
          exact gret kg_m1 es
        · rw [if_neg c15] at h
          refine gb_f (fun q => c15 ((gc_lt kg_104 e0 (by decide) z12).mp q)) ?_
          have h := Option.some.inj h
          subst h
          exact gret (ga_sub e0 kg_97) es
    · rw [if_neg c13] at h
      refine gb_f (fun q => c13 ((gc_ne e0 kg_46 z12 (by decide)).mp q)) ?_
      have h := Option.some.inj h
      subst h
      exact gret kg_8 es
  · rw [if_neg c11] at h
    refine gb_f (fun q => c11 ((gc_ne e1 kg_2 z10 (by decide)).mp q)) ?_
    obtain ⟨z16, h⟩ := fx_gd h
    by_cases c17 : x0 < 48
    · rw [if_pos c17] at h
      refine gb_t ((gc_lt e0 kg_48 z16 (by decide)).mpr c17) ?_
      have h := Option.some.inj h
      subst h
      exact gret kg_m1 es
    · rw [if_neg c17] at h
      refine gb_f (fun q => c17 ((gc_lt e0 kg_48 z16 (by decide)).mp q)) ?_
      by_cases c18 : 51 < x0
      · rw [if_pos c18] at h
        refine gb_t ((gc_lt kg_51 e0 (by decide) z16).mpr c18) ?_
        have h := Option.some.inj h
        subst h
        exact gret kg_m1 es
      · rw [if_neg c18] at h
        refine gb_f (fun q => c18 ((gc_lt kg_51 e0 (by decide) z16).mp q)) ?_
        have h := Option.some.inj h
        subst h
        exact gret (ga_sub e0 kg_48) es

/-! ZoneShares$LayerText.wrongSign()I -/
def gm_36 (s : gx_S) : Option (Int × gx_S) :=
  if (-2147483648 ≤ (s.1 58 3) ∧ (s.1 58 3) ≤ 2147483647) then (
  if (-2147483648 ≤ (s.1 58 2) ∧ (s.1 58 2) ≤ 2147483647) then (
  if (s.1 58 3) < (s.1 58 2) then (
    some (0, s)) else (
    some (3, s))) else none) else none
theorem gf_36 {s : gx_S} {σ : fx_S} (es : σ = gx s) {q : Int × gx_S} (h : gm_36 s = some q) : fm_36 σ = some (Int32.ofInt q.1, gx q.2) := by
  unfold gm_36 at h
  unfold fm_36
  obtain ⟨z4, h⟩ := fx_gd h
  obtain ⟨z5, h⟩ := fx_gd h
  by_cases c6 : (s.1 58 3) < (s.1 58 2)
  · rw [if_pos c6] at h
    refine gb_t ((gc_lt (gf1 es 58 3) (gf1 es 58 2) z4 z5).mpr c6) ?_
    have h := Option.some.inj h
    subst h
    exact gret kg_0 es
  · rw [if_neg c6] at h
    refine gb_f (fun q => c6 ((gc_lt (gf1 es 58 3) (gf1 es 58 2) z4 z5).mp q)) ?_
    have h := Option.some.inj h
    subst h
    exact gret kg_3 es

/-! ZoneShares$LayerText.wrongBreak(I)I -/
def gm_37_40 (x1 : Int) (s : gx_S) : Option (Int × gx_S) :=
  if (-2147483648 ≤ x1 ∧ x1 ≤ 2147483647) then (
  if ¬ x1 = 47 then (
    if (-2147483648 ≤ (s.1 58 6) ∧ (s.1 58 6) ≤ 2147483647) then (
    if (s.1 58 6) = 0 then (
      some (0, s)) else (
      if (-2147483648 ≤ ((s.1 58 1) + 1) ∧ ((s.1 58 1) + 1) ≤ 2147483647) then (
      if (-2147483648 ≤ (s.1 58 4) ∧ (s.1 58 4) ≤ 2147483647) then (
      if (s.1 58 4) ≤ ((s.1 58 1) + 1) then (
        some (0, s)) else (
        some (4, s))) else none) else none)) else none) else (
    if (-2147483648 ≤ ((s.1 58 1) + 1) ∧ ((s.1 58 1) + 1) ≤ 2147483647) then (
    if (-2147483648 ≤ (s.1 58 4) ∧ (s.1 58 4) ≤ 2147483647) then (
    if ((s.1 58 1) + 1) < (s.1 58 4) then (
      some (0, s)) else (
      some (3, s))) else none) else none)) else none
theorem gf_37_40 (x1 : Int) (yx1 : Int32) (e1 : yx1 = Int32.ofInt x1) (s : gx_S) (σ : fx_S) (es : σ = gx s) (q : Int × gx_S) (h : gm_37_40 x1 s = some q) : fm_37_40 yx1 σ = some (Int32.ofInt q.1, gx q.2) := by
  unfold gm_37_40 at h
  unfold fm_37_40
  obtain ⟨z1, h⟩ := fx_gd h
  by_cases c2 : ¬ x1 = 47
  · rw [if_pos c2] at h
    refine gb_t ((gc_ne e1 kg_47 z1 (by decide)).mpr c2) ?_
    obtain ⟨z3, h⟩ := fx_gd h
    by_cases c4 : (s.1 58 6) = 0
    · rw [if_pos c4] at h
      refine gb_t ((gc_eq (gf1 es 58 6) kg_0 z3 (by decide)).mpr c4) ?_
      have h := Option.some.inj h
      subst h
      exact gret kg_0 es
    · rw [if_neg c4] at h
      refine gb_f (fun q => c4 ((gc_eq (gf1 es 58 6) kg_0 z3 (by decide)).mp q)) ?_
      obtain ⟨z5, h⟩ := fx_gd h
      obtain ⟨z6, h⟩ := fx_gd h
      by_cases c7 : (s.1 58 4) ≤ ((s.1 58 1) + 1)
      · rw [if_pos c7] at h
        refine gb_t ((gc_le (gf1 es 58 4) (ga_add (gf1 es 58 1) kg_1) z6 z5).mpr c7) ?_
        have h := Option.some.inj h
        subst h
        exact gret kg_0 es
      · rw [if_neg c7] at h
        refine gb_f (fun q => c7 ((gc_le (gf1 es 58 4) (ga_add (gf1 es 58 1) kg_1) z6 z5).mp q)) ?_
        have h := Option.some.inj h
        subst h
        exact gret kg_4 es
  · rw [if_neg c2] at h
    refine gb_f (fun q => c2 ((gc_ne e1 kg_47 z1 (by decide)).mp q)) ?_
    obtain ⟨z8, h⟩ := fx_gd h
    obtain ⟨z9, h⟩ := fx_gd h
    by_cases c10 : ((s.1 58 1) + 1) < (s.1 58 4)
    · rw [if_pos c10] at h
      refine gb_t ((gc_lt (ga_add (gf1 es 58 1) kg_1) (gf1 es 58 4) z8 z9).mpr c10) ?_
      have h := Option.some.inj h
      subst h
      exact gret kg_0 es
    · rw [if_neg c10] at h
      refine gb_f (fun q => c10 ((gc_lt (ga_add (gf1 es 58 1) kg_1) (gf1 es 58 4) z8 z9).mp q)) ?_
      have h := Option.some.inj h
      subst h
      exact gret kg_3 es
def gm_37_20 (x1 : Int) (s : gx_S) : Option (Int × gx_S) :=
  if (-2147483648 ≤ (s.1 58 5) ∧ (s.1 58 5) ≤ 2147483647) then (
  if (s.1 58 5) = 0 then (
    gm_37_40 x1 s) else (
    if (-2147483648 ≤ (s.1 58 3) ∧ (s.1 58 3) ≤ 2147483647) then (
    if (-2147483648 ≤ (s.1 58 2) ∧ (s.1 58 2) ≤ 2147483647) then (
    if (s.1 58 2) ≤ (s.1 58 3) then (
      gm_37_40 x1 s) else (
      some (2, s))) else none) else none)) else none
theorem gf_37_20 (x1 : Int) (yx1 : Int32) (e1 : yx1 = Int32.ofInt x1) (s : gx_S) (σ : fx_S) (es : σ = gx s) (q : Int × gx_S) (h : gm_37_20 x1 s = some q) : fm_37_20 yx1 σ = some (Int32.ofInt q.1, gx q.2) := by
  unfold gm_37_20 at h
  unfold fm_37_20
  obtain ⟨z1, h⟩ := fx_gd h
  by_cases c2 : (s.1 58 5) = 0
  · rw [if_pos c2] at h
    refine gb_t ((gc_eq (gf1 es 58 5) kg_0 z1 (by decide)).mpr c2) ?_
    exact gf_37_40 _ _ e1 _ _ es _ h
  · rw [if_neg c2] at h
    refine gb_f (fun q => c2 ((gc_eq (gf1 es 58 5) kg_0 z1 (by decide)).mp q)) ?_
    obtain ⟨z3, h⟩ := fx_gd h
    obtain ⟨z4, h⟩ := fx_gd h
    by_cases c5 : (s.1 58 2) ≤ (s.1 58 3)
    · rw [if_pos c5] at h
      refine gb_t ((gc_le (gf1 es 58 2) (gf1 es 58 3) z4 z3).mpr c5) ?_
      exact gf_37_40 _ _ e1 _ _ es _ h
    · rw [if_neg c5] at h
      refine gb_f (fun q => c5 ((gc_le (gf1 es 58 2) (gf1 es 58 3) z4 z3).mp q)) ?_
      have h := Option.some.inj h
      subst h
      exact gret kg_2 es
def gm_37 (x1 : Int) (s : gx_S) : Option (Int × gx_S) :=
  if (-2147483648 ≤ (s.1 58 3) ∧ (s.1 58 3) ≤ 2147483647) then (
  if (s.1 58 3) = 0 then (
    some (1, s)) else (
    if (-2147483648 ≤ x1 ∧ x1 ≤ 2147483647) then (
    if x1 = 47 then (
      gm_37_20 x1 s) else (
      if x1 = (-1) then (
        gm_37_20 x1 s) else (
        some (1, s)))) else none)) else none
theorem gf_37 {x1 : Int} {yx1 : Int32} (e1 : yx1 = Int32.ofInt x1) {s : gx_S} {σ : fx_S} (es : σ = gx s) {q : Int × gx_S} (h : gm_37 x1 s = some q) : fm_37 yx1 σ = some (Int32.ofInt q.1, gx q.2) := by
  unfold gm_37 at h
  unfold fm_37
  obtain ⟨z21, h⟩ := fx_gd h
  by_cases c22 : (s.1 58 3) = 0
  · rw [if_pos c22] at h
    refine gb_t ((gc_eq (gf1 es 58 3) kg_0 z21 (by decide)).mpr c22) ?_
    have h := Option.some.inj h
    subst h
    exact gret kg_1 es
  · rw [if_neg c22] at h
    refine gb_f (fun q => c22 ((gc_eq (gf1 es 58 3) kg_0 z21 (by decide)).mp q)) ?_
    obtain ⟨z23, h⟩ := fx_gd h
    by_cases c24 : x1 = 47
    · rw [if_pos c24] at h
      refine gb_t ((gc_eq e1 kg_47 z23 (by decide)).mpr c24) ?_
      exact gf_37_20 _ _ e1 _ _ es _ h
    · rw [if_neg c24] at h
      refine gb_f (fun q => c24 ((gc_eq e1 kg_47 z23 (by decide)).mp q)) ?_
      by_cases c25 : x1 = (-1)
      · rw [if_pos c25] at h
        refine gb_t ((gc_eq e1 kg_m1 z23 (by decide)).mpr c25) ?_
        exact gf_37_20 _ _ e1 _ _ es _ h
      · rw [if_neg c25] at h
        refine gb_f (fun q => c25 ((gc_eq e1 kg_m1 z23 (by decide)).mp q)) ?_
        have h := Option.some.inj h
        subst h
        exact gret kg_1 es

/-! ZoneShares$LayerText.endRow()V -/
def gm_38 (s : gx_S) : Option (gx_S) :=
  some (gw1 (gw1 (gw1 (gw1 s 58 2 (s.1 58 3)) 58 5 1) 58 1 (((gw1 (gw1 s 58 2 (s.1 58 3)) 58 5 1).1 58 1) + 1)) 58 3 0)
theorem gf_38 {s : gx_S} {σ : fx_S} (es : σ = gx s) {q : gx_S} (h : gm_38 s = some q) : fm_38 σ = some (gx q) := by
  unfold gm_38 at h
  unfold fm_38
  have h := Option.some.inj h
  subst h
  exact gretv (gx_w1 (gx_w1 (gx_w1 (gx_w1 es (gf1 es 58 3)) kg_1) (ga_add (gf1 (gx_w1 (gx_w1 es (gf1 es 58 3)) kg_1) 58 1) kg_1)) kg_0)

/-! ZoneShares$LayerText.put(I)V -/
def gm_39_28 (s : gx_S) : Option (gx_S) :=
  some (gw1 s 58 3 ((s.1 58 3) + 1))
theorem gf_39_28 (s : gx_S) (σ : fx_S) (es : σ = gx s) (q : gx_S) (h : gm_39_28 s = some q) : fm_39_28 σ = some (gx q) := by
  unfold gm_39_28 at h
  unfold fm_39_28
  have h := Option.some.inj h
  subst h
  exact gretv (gx_w1 es (ga_add (gf1 es 58 3) kg_1))
def gm_39 (x1 : Int) (s : gx_S) : Option (gx_S) :=
  if (-2147483648 ≤ (((s.1 58 1) * (s.1 58 2)) + (s.1 58 3)) ∧ (((s.1 58 1) * (s.1 58 2)) + (s.1 58 3)) ≤ 2147483647) then (
  if 96 ≤ (((s.1 58 1) * (s.1 58 2)) + (s.1 58 3)) then (
    gm_39_28 s) else (
    if 0 ≤ (((s.1 58 1) * (s.1 58 2)) + (s.1 58 3)) ∧ (((s.1 58 1) * (s.1 58 2)) + (s.1 58 3)) < 96 then (
    gm_39_28 (gw1 s 59 ((((s.1 58 1) * (s.1 58 2)) + (s.1 58 3))).toNat x1)) else none)) else none
theorem gf_39 {x1 : Int} {yx1 : Int32} (e1 : yx1 = Int32.ofInt x1) {s : gx_S} {σ : fx_S} (es : σ = gx s) {q : gx_S} (h : gm_39 x1 s = some q) : fm_39 yx1 σ = some (gx q) := by
  unfold gm_39 at h
  unfold fm_39
  obtain ⟨z6, h⟩ := fx_gd h
  by_cases c7 : 96 ≤ (((s.1 58 1) * (s.1 58 2)) + (s.1 58 3))
  · rw [if_pos c7] at h
    refine gb_t ((gc_le kg_96 (ga_add (ga_mul (gf1 es 58 1) (gf1 es 58 2)) (gf1 es 58 3)) (by decide) z6).mpr c7) ?_
    exact gf_39_28 _ _ es _ h
  · rw [if_neg c7] at h
    refine gb_f (fun q => c7 ((gc_le kg_96 (ga_add (ga_mul (gf1 es 58 1) (gf1 es 58 2)) (gf1 es 58 3)) (by decide) z6).mp q)) ?_
    obtain ⟨z10, h⟩ := fx_gd h
    refine gb_bind (gl_st es (ga_add (ga_mul (gf1 es 58 1) (gf1 es 58 2)) (gf1 es 58 3)) e1 ga_59 z10) ?_
    exact gf_39_28 _ _ (rfl : _ = gx (gw1 s 59 ((((s.1 58 1) * (s.1 58 2)) + (s.1 58 3))).toNat x1)) _ h

/-! ZoneShares$Rounder.reach(II)V -/
def gm_47 (x1 : Int) (x2 : Int) (s : gx_S) : Option (gx_S) :=
  if 0 ≤ x1 ∧ x1 < 18 then (
  if (-2147483648 ≤ (s.1 12 (x1).toNat) ∧ (s.1 12 (x1).toNat) ≤ 2147483647) then (
  if ¬ (s.1 12 (x1).toNat) = (-1) then (
    some s) else (
    if (-2147483648 ≤ (s.1 6 7) ∧ (s.1 6 7) ≤ 2147483647) then (
    if 18 ≤ (s.1 6 7) then (
      some s) else (
      if 0 ≤ ((gw1 s 12 (x1).toNat x2).1 6 7) ∧ ((gw1 s 12 (x1).toNat x2).1 6 7) < 18 then (
      some (gw1 (gw1 (gw1 s 12 (x1).toNat x2) 13 (((gw1 s 12 (x1).toNat x2).1 6 7)).toNat x1) 6 7 (((gw1 (gw1 s 12 (x1).toNat x2) 13 (((gw1 s 12 (x1).toNat x2).1 6 7)).toNat x1).1 6 7) + 1))) else none)) else none)) else none) else none
theorem gf_47 {x1 : Int} {yx1 : Int32} (e1 : yx1 = Int32.ofInt x1) {x2 : Int} {yx2 : Int32} (e2 : yx2 = Int32.ofInt x2) {s : gx_S} {σ : fx_S} (es : σ = gx s) {q : gx_S} (h : gm_47 x1 x2 s = some q) : fm_47 yx1 yx2 σ = some (gx q) := by
  unfold gm_47 at h
  unfold fm_47
  obtain ⟨z15, h⟩ := fx_gd h
  refine gb_bind (gl_ld es e1 ga_12 z15) ?_
  obtain ⟨z16, h⟩ := fx_gd h
  by_cases c17 : ¬ (s.1 12 (x1).toNat) = (-1)
  · rw [if_pos c17] at h
    refine gb_t ((gc_ne (gr (s.1 12 (x1).toNat)) kg_m1 z16 (by decide)).mpr c17) ?_
    have h := Option.some.inj h
    subst h
    exact gretv es
  · rw [if_neg c17] at h
    refine gb_f (fun q => c17 ((gc_ne (gr (s.1 12 (x1).toNat)) kg_m1 z16 (by decide)).mp q)) ?_
    obtain ⟨z18, h⟩ := fx_gd h
    by_cases c19 : 18 ≤ (s.1 6 7)
    · rw [if_pos c19] at h
      refine gb_t ((gc_le kg_18 (gf1 es 6 7) (by decide) z18).mpr c19) ?_
      have h := Option.some.inj h
      subst h
      exact gretv es
    · rw [if_neg c19] at h
      refine gb_f (fun q => c19 ((gc_le kg_18 (gf1 es 6 7) (by decide) z18).mp q)) ?_
      refine gb_bind (gl_st es e1 e2 ga_12 z15) ?_
      obtain ⟨z24, h⟩ := fx_gd h
      refine gb_bind (gl_st (rfl : _ = gx (gw1 s 12 (x1).toNat x2)) (gf1 (rfl : _ = gx (gw1 s 12 (x1).toNat x2)) 6 7) e1 ga_13 z24) ?_
      have h := Option.some.inj h
      subst h
      exact gretv (gx_w1 (rfl : _ = gx (gw1 (gw1 s 12 (x1).toNat x2) 13 (((gw1 s 12 (x1).toNat x2).1 6 7)).toNat x1)) (ga_add (gf1 (rfl : _ = gx (gw1 (gw1 s 12 (x1).toNat x2) 13 (((gw1 s 12 (x1).toNat x2).1 6 7)).toNat x1)) 6 7) kg_1))

/-! ZoneShares$Rounder.spreadRow(I)V -/
def gm_48_43 (k_2 : Int → Int → gx_S → Option (gx_S)) (x1 : Int) (x2 : Int) (s : gx_S) : Option (gx_S) :=
  k_2 x1 (x2 + 1) s
theorem gf_48_43 {kf_2 : Int32 → Int32 → fx_S → Option (fx_S)} {kg_2 : Int → Int → gx_S → Option (gx_S)} (hk_2 : ∀ (x1 : Int) (yx1 : Int32) (e1 : yx1 = Int32.ofInt x1) (x2 : Int) (yx2 : Int32) (e2 : yx2 = Int32.ofInt x2) (s : gx_S) (σ : fx_S) (es : σ = gx s) (q : gx_S), kg_2 x1 x2 s = some q → kf_2 yx1 yx2 σ = some (gx q)) (x1 : Int) (yx1 : Int32) (e1 : yx1 = Int32.ofInt x1) (x2 : Int) (yx2 : Int32) (e2 : yx2 = Int32.ofInt x2) (s : gx_S) (σ : fx_S) (es : σ = gx s) (q : gx_S) (h : gm_48_43 kg_2 x1 x2 s = some q) : fm_48_43 kf_2 yx1 yx2 σ = some (gx q) := by
  unfold gm_48_43 at h
  unfold fm_48_43
  exact hk_2 _ _ e1 _ _ (ga_add e2 kg_1) _ _ es _ h
def gm_48_2 : Nat → Int → Int → gx_S → Option (gx_S)
  | 0, _, _, _ => none
  | n + 1, x1, x2, s =>
    if (-2147483648 ≤ x2 ∧ x2 ≤ 2147483647) then (
    if 9 ≤ x2 then (
      some s) else (
      if 0 ≤ ((x1 * 9) + x2) ∧ ((x1 * 9) + x2) < 72 then (
      if (-2147483648 ≤ (s.1 7 (((x1 * 9) + x2)).toNat) ∧ (s.1 7 (((x1 * 9) + x2)).toNat) ≤ 2147483647) then (
      if ¬ (s.1 7 (((x1 * 9) + x2)).toNat) = 1 then (
        gm_48_43 (gm_48_2 n) x1 x2 s) else (
        if (-2147483648 ≤ (s.1 8 (((x1 * 9) + x2)).toNat) ∧ (s.1 8 (((x1 * 9) + x2)).toNat) ≤ 2147483647) then (
        if ¬ (s.1 8 (((x1 * 9) + x2)).toNat) = 0 then (
          gm_48_43 (gm_48_2 n) x1 x2 s) else (
          (gm_47 (8 + x2) x1 s).bind fun q13 =>
          gm_48_43 (gm_48_2 n) x1 x2 q13)) else none)) else none) else none)) else none
theorem gf_48_2 : ∀ (n : Nat) (x1 : Int) (yx1 : Int32) (e1 : yx1 = Int32.ofInt x1) (x2 : Int) (yx2 : Int32) (e2 : yx2 = Int32.ofInt x2) (s : gx_S) (σ : fx_S) (es : σ = gx s) (q : gx_S), gm_48_2 n x1 x2 s = some q → fm_48_2 n yx1 yx2 σ = some (gx q) := by
  intro n
  induction n with
  | zero =>
    intro x1 yx1 e1 x2 yx2 e2 s σ es q  h
    rw [gm_48_2] at h
    exact fx_no h
  | succ n ih =>
    intro x1 yx1 e1 x2 yx2 e2 s σ es q  h
    rw [gm_48_2] at h
    rw [fm_48_2]
    obtain ⟨z1, h⟩ := fx_gd h
    by_cases c2 : 9 ≤ x2
    · rw [if_pos c2] at h
      refine gb_t ((gc_le kg_9 e2 (by decide) z1).mpr c2) ?_
      have h := Option.some.inj h
      subst h
      exact gretv es
    · rw [if_neg c2] at h
      refine gb_f (fun q => c2 ((gc_le kg_9 e2 (by decide) z1).mp q)) ?_
      obtain ⟨z5, h⟩ := fx_gd h
      refine gb_bind (gl_ld es (ga_add (ga_mul e1 kg_9) e2) ga_7 z5) ?_
      obtain ⟨z6, h⟩ := fx_gd h
      by_cases c7 : ¬ (s.1 7 (((x1 * 9) + x2)).toNat) = 1
      · rw [if_pos c7] at h
        refine gb_t ((gc_ne (gr (s.1 7 (((x1 * 9) + x2)).toNat)) kg_1 z6 (by decide)).mpr c7) ?_
        exact gf_48_43 ih _ _ e1 _ _ e2 _ _ es _ h
      · rw [if_neg c7] at h
        refine gb_f (fun q => c7 ((gc_ne (gr (s.1 7 (((x1 * 9) + x2)).toNat)) kg_1 z6 (by decide)).mp q)) ?_
        refine gb_bind (gl_ld es (ga_add (ga_mul e1 kg_9) e2) ga_8 z5) ?_
        obtain ⟨z10, h⟩ := fx_gd h
        by_cases c11 : ¬ (s.1 8 (((x1 * 9) + x2)).toNat) = 0
        · rw [if_pos c11] at h
          refine gb_t ((gc_ne (gr (s.1 8 (((x1 * 9) + x2)).toNat)) kg_0 z10 (by decide)).mpr c11) ?_
          exact gf_48_43 ih _ _ e1 _ _ e2 _ _ es _ h
        · rw [if_neg c11] at h
          refine gb_f (fun q => c11 ((gc_ne (gr (s.1 8 (((x1 * 9) + x2)).toNat)) kg_0 z10 (by decide)).mp q)) ?_
          obtain ⟨q13, w12, h⟩ := fx_bd h
          refine gb_bind (gf_47 (ga_add kg_8 e2) e1 es w12) ?_
          exact gf_48_43 ih _ _ e1 _ _ e2 _ _ (rfl : _ = gx q13) _ h
def gm_48 (x1 : Int) (s : gx_S) : Option (gx_S) :=
  gm_48_2 100000 x1 0 s
theorem gf_48 {x1 : Int} {yx1 : Int32} (e1 : yx1 = Int32.ofInt x1) {s : gx_S} {σ : fx_S} (es : σ = gx s) {q : gx_S} (h : gm_48 x1 s = some q) : fm_48 yx1 σ = some (gx q) := by
  unfold gm_48 at h
  unfold fm_48
  exact gf_48_2 100000 _ _ e1 _ _ kg_0 _ _ es _ h

/-! ZoneShares$Rounder.spreadColumn(I)V -/
def gm_49_69 (k_27 : Int → Int → gx_S → Option (gx_S)) (x1 : Int) (x2 : Int) (s : gx_S) : Option (gx_S) :=
  k_27 x1 (x2 + 1) s
theorem gf_49_69 {kf_27 : Int32 → Int32 → fx_S → Option (fx_S)} {kg_27 : Int → Int → gx_S → Option (gx_S)} (hk_27 : ∀ (x1 : Int) (yx1 : Int32) (e1 : yx1 = Int32.ofInt x1) (x2 : Int) (yx2 : Int32) (e2 : yx2 = Int32.ofInt x2) (s : gx_S) (σ : fx_S) (es : σ = gx s) (q : gx_S), kg_27 x1 x2 s = some q → kf_27 yx1 yx2 σ = some (gx q)) (x1 : Int) (yx1 : Int32) (e1 : yx1 = Int32.ofInt x1) (x2 : Int) (yx2 : Int32) (e2 : yx2 = Int32.ofInt x2) (s : gx_S) (σ : fx_S) (es : σ = gx s) (q : gx_S) (h : gm_49_69 kg_27 x1 x2 s = some q) : fm_49_69 kf_27 yx1 yx2 σ = some (gx q) := by
  unfold gm_49_69 at h
  unfold fm_49_69
  exact hk_27 _ _ e1 _ _ (ga_add e2 kg_1) _ _ es _ h
def gm_49_27 : Nat → Int → Int → gx_S → Option (gx_S)
  | 0, _, _, _ => none
  | n + 1, x1, x2, s =>
    if (-2147483648 ≤ x2 ∧ x2 ≤ 2147483647) then (
    if 8 ≤ x2 then (
      some s) else (
      if 0 ≤ ((x2 * 9) + x1) ∧ ((x2 * 9) + x1) < 72 then (
      if (-2147483648 ≤ (s.1 7 (((x2 * 9) + x1)).toNat) ∧ (s.1 7 (((x2 * 9) + x1)).toNat) ≤ 2147483647) then (
      if ¬ (s.1 7 (((x2 * 9) + x1)).toNat) = 1 then (
        gm_49_69 (gm_49_27 n) x1 x2 s) else (
        if (-2147483648 ≤ (s.1 8 (((x2 * 9) + x1)).toNat) ∧ (s.1 8 (((x2 * 9) + x1)).toNat) ≤ 2147483647) then (
        if ¬ (s.1 8 (((x2 * 9) + x1)).toNat) = 1 then (
          gm_49_69 (gm_49_27 n) x1 x2 s) else (
          (gm_47 x2 (8 + x1) s).bind fun q13 =>
          gm_49_69 (gm_49_27 n) x1 x2 q13)) else none)) else none) else none)) else none
theorem gf_49_27 : ∀ (n : Nat) (x1 : Int) (yx1 : Int32) (e1 : yx1 = Int32.ofInt x1) (x2 : Int) (yx2 : Int32) (e2 : yx2 = Int32.ofInt x2) (s : gx_S) (σ : fx_S) (es : σ = gx s) (q : gx_S), gm_49_27 n x1 x2 s = some q → fm_49_27 n yx1 yx2 σ = some (gx q) := by
  intro n
  induction n with
  | zero =>
    intro x1 yx1 e1 x2 yx2 e2 s σ es q  h
    rw [gm_49_27] at h
    exact fx_no h
  | succ n ih =>
    intro x1 yx1 e1 x2 yx2 e2 s σ es q  h
    rw [gm_49_27] at h
    rw [fm_49_27]
    obtain ⟨z1, h⟩ := fx_gd h
    by_cases c2 : 8 ≤ x2
    · rw [if_pos c2] at h
      refine gb_t ((gc_le kg_8 e2 (by decide) z1).mpr c2) ?_
      have h := Option.some.inj h
      subst h
      exact gretv es
    · rw [if_neg c2] at h
      refine gb_f (fun q => c2 ((gc_le kg_8 e2 (by decide) z1).mp q)) ?_
      obtain ⟨z5, h⟩ := fx_gd h
      refine gb_bind (gl_ld es (ga_add (ga_mul e2 kg_9) e1) ga_7 z5) ?_
      obtain ⟨z6, h⟩ := fx_gd h
      by_cases c7 : ¬ (s.1 7 (((x2 * 9) + x1)).toNat) = 1
      · rw [if_pos c7] at h
        refine gb_t ((gc_ne (gr (s.1 7 (((x2 * 9) + x1)).toNat)) kg_1 z6 (by decide)).mpr c7) ?_
        exact gf_49_69 ih _ _ e1 _ _ e2 _ _ es _ h
      · rw [if_neg c7] at h
        refine gb_f (fun q => c7 ((gc_ne (gr (s.1 7 (((x2 * 9) + x1)).toNat)) kg_1 z6 (by decide)).mp q)) ?_
        refine gb_bind (gl_ld es (ga_add (ga_mul e2 kg_9) e1) ga_8 z5) ?_
        obtain ⟨z10, h⟩ := fx_gd h
        by_cases c11 : ¬ (s.1 8 (((x2 * 9) + x1)).toNat) = 1
        · rw [if_pos c11] at h
          refine gb_t ((gc_ne (gr (s.1 8 (((x2 * 9) + x1)).toNat)) kg_1 z10 (by decide)).mpr c11) ?_
          exact gf_49_69 ih _ _ e1 _ _ e2 _ _ es _ h
        · rw [if_neg c11] at h
          refine gb_f (fun q => c11 ((gc_ne (gr (s.1 8 (((x2 * 9) + x1)).toNat)) kg_1 z10 (by decide)).mp q)) ?_
          obtain ⟨q13, w12, h⟩ := fx_bd h
          refine gb_bind (gf_47 e2 (ga_add kg_8 e1) es w12) ?_
          exact gf_49_69 ih _ _ e1 _ _ e2 _ _ (rfl : _ = gx q13) _ h
def gm_49_25 (x1 : Int) (s : gx_S) : Option (gx_S) :=
  gm_49_27 100000 x1 0 s
theorem gf_49_25 (x1 : Int) (yx1 : Int32) (e1 : yx1 = Int32.ofInt x1) (s : gx_S) (σ : fx_S) (es : σ = gx s) (q : gx_S) (h : gm_49_25 x1 s = some q) : fm_49_25 yx1 σ = some (gx q) := by
  unfold gm_49_25 at h
  unfold fm_49_25
  exact gf_49_27 100000 _ _ e1 _ _ kg_0 _ _ es _ h
def gm_49 (x1 : Int) (s : gx_S) : Option (gx_S) :=
  if 0 ≤ x1 ∧ x1 < 9 then (
  if (-2147483648 ≤ (s.1 11 (x1).toNat) ∧ (s.1 11 (x1).toNat) ≤ 2147483647) then (
  if (-2147483648 ≤ (s.1 10 (x1).toNat) ∧ (s.1 10 (x1).toNat) ≤ 2147483647) then (
  if (s.1 10 (x1).toNat) ≤ (s.1 11 (x1).toNat) then (
    gm_49_25 x1 s) else (
    (gm_47 17 (8 + x1) s).bind fun q46 =>
    gm_49_25 x1 q46)) else none) else none) else none
theorem gf_49 {x1 : Int} {yx1 : Int32} (e1 : yx1 = Int32.ofInt x1) {s : gx_S} {σ : fx_S} (es : σ = gx s) {q : gx_S} (h : gm_49 x1 s = some q) : fm_49 yx1 σ = some (gx q) := by
  unfold gm_49 at h
  unfold fm_49
  obtain ⟨z39, h⟩ := fx_gd h
  refine gb_bind (gl_ld es e1 ga_11 z39) ?_
  refine gb_bind (gl_ld es e1 ga_10 z39) ?_
  obtain ⟨z42, h⟩ := fx_gd h
  obtain ⟨z43, h⟩ := fx_gd h
  by_cases c44 : (s.1 10 (x1).toNat) ≤ (s.1 11 (x1).toNat)
  · rw [if_pos c44] at h
    refine gb_t ((gc_le (gr (s.1 10 (x1).toNat)) (gr (s.1 11 (x1).toNat)) z43 z42).mpr c44) ?_
    exact gf_49_25 _ _ e1 _ _ es _ h
  · rw [if_neg c44] at h
    refine gb_f (fun q => c44 ((gc_le (gr (s.1 10 (x1).toNat)) (gr (s.1 11 (x1).toNat)) z43 z42).mp q)) ?_
    obtain ⟨q46, w45, h⟩ := fx_bd h
    refine gb_bind (gf_47 kg_17 (ga_add kg_8 e1) es w45) ?_
    exact gf_49_25 _ _ e1 _ _ (rfl : _ = gx q46) _ h

/-! ZoneShares$Rounder.spreadHub()V -/
def gm_50_33 (k_2 : Int → gx_S → Option (gx_S)) (x1 : Int) (s : gx_S) : Option (gx_S) :=
  k_2 (x1 + 1) s
theorem gf_50_33 {kf_2 : Int32 → fx_S → Option (fx_S)} {kg_2 : Int → gx_S → Option (gx_S)} (hk_2 : ∀ (x1 : Int) (yx1 : Int32) (e1 : yx1 = Int32.ofInt x1) (s : gx_S) (σ : fx_S) (es : σ = gx s) (q : gx_S), kg_2 x1 s = some q → kf_2 yx1 σ = some (gx q)) (x1 : Int) (yx1 : Int32) (e1 : yx1 = Int32.ofInt x1) (s : gx_S) (σ : fx_S) (es : σ = gx s) (q : gx_S) (h : gm_50_33 kg_2 x1 s = some q) : fm_50_33 kf_2 yx1 σ = some (gx q) := by
  unfold gm_50_33 at h
  unfold fm_50_33
  exact hk_2 _ _ (ga_add e1 kg_1) _ _ es _ h
def gm_50_2 : Nat → Int → gx_S → Option (gx_S)
  | 0, _, _ => none
  | n + 1, x1, s =>
    if (-2147483648 ≤ x1 ∧ x1 ≤ 2147483647) then (
    if 9 ≤ x1 then (
      some s) else (
      if 0 ≤ x1 ∧ x1 < 9 then (
      if (-2147483648 ≤ (s.1 11 (x1).toNat) ∧ (s.1 11 (x1).toNat) ≤ 2147483647) then (
      if (-2147483648 ≤ (s.1 9 (x1).toNat) ∧ (s.1 9 (x1).toNat) ≤ 2147483647) then (
      if (s.1 11 (x1).toNat) ≤ (s.1 9 (x1).toNat) then (
        gm_50_33 (gm_50_2 n) x1 s) else (
        (gm_47 (8 + x1) 17 s).bind fun q12 =>
        gm_50_33 (gm_50_2 n) x1 q12)) else none) else none) else none)) else none
theorem gf_50_2 : ∀ (n : Nat) (x1 : Int) (yx1 : Int32) (e1 : yx1 = Int32.ofInt x1) (s : gx_S) (σ : fx_S) (es : σ = gx s) (q : gx_S), gm_50_2 n x1 s = some q → fm_50_2 n yx1 σ = some (gx q) := by
  intro n
  induction n with
  | zero =>
    intro x1 yx1 e1 s σ es q  h
    rw [gm_50_2] at h
    exact fx_no h
  | succ n ih =>
    intro x1 yx1 e1 s σ es q  h
    rw [gm_50_2] at h
    rw [fm_50_2]
    obtain ⟨z1, h⟩ := fx_gd h
    by_cases c2 : 9 ≤ x1
    · rw [if_pos c2] at h
      refine gb_t ((gc_le kg_9 e1 (by decide) z1).mpr c2) ?_
      have h := Option.some.inj h
      subst h
      exact gretv es
    · rw [if_neg c2] at h
      refine gb_f (fun q => c2 ((gc_le kg_9 e1 (by decide) z1).mp q)) ?_
      obtain ⟨z5, h⟩ := fx_gd h
      refine gb_bind (gl_ld es e1 ga_11 z5) ?_
      refine gb_bind (gl_ld es e1 ga_9 z5) ?_
      obtain ⟨z8, h⟩ := fx_gd h
      obtain ⟨z9, h⟩ := fx_gd h
      by_cases c10 : (s.1 11 (x1).toNat) ≤ (s.1 9 (x1).toNat)
      · rw [if_pos c10] at h
        refine gb_t ((gc_le (gr (s.1 11 (x1).toNat)) (gr (s.1 9 (x1).toNat)) z8 z9).mpr c10) ?_
        exact gf_50_33 ih _ _ e1 _ _ es _ h
      · rw [if_neg c10] at h
        refine gb_f (fun q => c10 ((gc_le (gr (s.1 11 (x1).toNat)) (gr (s.1 9 (x1).toNat)) z8 z9).mp q)) ?_
        obtain ⟨q12, w11, h⟩ := fx_bd h
        refine gb_bind (gf_47 (ga_add kg_8 e1) kg_17 es w11) ?_
        exact gf_50_33 ih _ _ e1 _ _ (rfl : _ = gx q12) _ h
def gm_50 (s : gx_S) : Option (gx_S) :=
  gm_50_2 100000 0 s
theorem gf_50 {s : gx_S} {σ : fx_S} (es : σ = gx s) {q : gx_S} (h : gm_50 s = some q) : fm_50 σ = some (gx q) := by
  unfold gm_50 at h
  unfold fm_50
  exact gf_50_2 100000 _ _ kg_0 _ _ es _ h

/-! ZoneShares$Rounder.turnStep(II)V -/
def gm_52 (x1 : Int) (x2 : Int) (s : gx_S) : Option (gx_S) :=
  if (-2147483648 ≤ x1 ∧ x1 ≤ 2147483647) then (
  if 8 ≤ x1 then (
    if (-2147483648 ≤ x2 ∧ x2 ≤ 2147483647) then (
    if 8 ≤ x2 then (
      if ¬ x2 = 17 then (
        if 0 ≤ (x2 - 8) ∧ (x2 - 8) < 9 then (
        some (gw1 s 11 ((x2 - 8)).toNat ((s.1 11 ((x2 - 8)).toNat) - 1))) else none) else (
        if 0 ≤ (x1 - 8) ∧ (x1 - 8) < 9 then (
        some (gw1 s 11 ((x1 - 8)).toNat ((s.1 11 ((x1 - 8)).toNat) + 1))) else none)) else (
      if 0 ≤ (((x2 * 9) + x1) - 8) ∧ (((x2 * 9) + x1) - 8) < 72 then (
      some (gw1 s 8 ((((x2 * 9) + x1) - 8)).toNat 0)) else none)) else none) else (
    if 0 ≤ (((x1 * 9) + x2) - 8) ∧ (((x1 * 9) + x2) - 8) < 72 then (
    some (gw1 s 8 ((((x1 * 9) + x2) - 8)).toNat 1)) else none)) else none
theorem gf_52 {x1 : Int} {yx1 : Int32} (e1 : yx1 = Int32.ofInt x1) {x2 : Int} {yx2 : Int32} (e2 : yx2 = Int32.ofInt x2) {s : gx_S} {σ : fx_S} (es : σ = gx s) {q : gx_S} (h : gm_52 x1 x2 s = some q) : fm_52 yx1 yx2 σ = some (gx q) := by
  unfold gm_52 at h
  unfold fm_52
  obtain ⟨z22, h⟩ := fx_gd h
  by_cases c23 : 8 ≤ x1
  · rw [if_pos c23] at h
    refine gb_t ((gc_le kg_8 e1 (by decide) z22).mpr c23) ?_
    obtain ⟨z24, h⟩ := fx_gd h
    by_cases c25 : 8 ≤ x2
    · rw [if_pos c25] at h
      refine gb_t ((gc_le kg_8 e2 (by decide) z24).mpr c25) ?_
      by_cases c26 : ¬ x2 = 17
      · rw [if_pos c26] at h
        refine gb_t ((gc_ne e2 kg_17 z24 (by decide)).mpr c26) ?_
        obtain ⟨z29, h⟩ := fx_gd h
        refine gb_bind (gl_ld es (ga_sub e2 kg_8) ga_11 z29) ?_
        refine gb_bind (gl_st es (ga_sub e2 kg_8) (ga_sub (gr (s.1 11 ((x2 - 8)).toNat)) kg_1) ga_11 z29) ?_
        have h := Option.some.inj h
        subst h
        exact gretv (rfl : _ = gx (gw1 s 11 ((x2 - 8)).toNat ((s.1 11 ((x2 - 8)).toNat) - 1)))
      · rw [if_neg c26] at h
        refine gb_f (fun q => c26 ((gc_ne e2 kg_17 z24 (by decide)).mp q)) ?_
        obtain ⟨z34, h⟩ := fx_gd h
        refine gb_bind (gl_ld es (ga_sub e1 kg_8) ga_11 z34) ?_
        refine gb_bind (gl_st es (ga_sub e1 kg_8) (ga_add (gr (s.1 11 ((x1 - 8)).toNat)) kg_1) ga_11 z34) ?_
        have h := Option.some.inj h
        subst h
        exact gretv (rfl : _ = gx (gw1 s 11 ((x1 - 8)).toNat ((s.1 11 ((x1 - 8)).toNat) + 1)))
    · rw [if_neg c25] at h
      refine gb_f (fun q => c25 ((gc_le kg_8 e2 (by decide) z24).mp q)) ?_
      obtain ⟨z39, h⟩ := fx_gd h
      refine gb_bind (gl_st es (ga_sub (ga_add (ga_mul e2 kg_9) e1) kg_8) kg_0 ga_8 z39) ?_
      have h := Option.some.inj h
      subst h
      exact gretv (rfl : _ = gx (gw1 s 8 ((((x2 * 9) + x1) - 8)).toNat 0))
  · rw [if_neg c23] at h
    refine gb_f (fun q => c23 ((gc_le kg_8 e1 (by decide) z22).mp q)) ?_
    obtain ⟨z42, h⟩ := fx_gd h
    refine gb_bind (gl_st es (ga_sub (ga_add (ga_mul e1 kg_9) e2) kg_8) kg_1 ga_8 z42) ?_
    have h := Option.some.inj h
    subst h
    exact gretv (rfl : _ = gx (gw1 s 8 ((((x1 * 9) + x2) - 8)).toNat 1))

/-! ZoneShares$State.copy(LZoneShares$State;)V -/
def gm_54 (x0 : Nat) (x1 : Nat) (s : gx_S) : Option (gx_S) :=
  if fx_oc x0 6 = true ∧ fx_oc x1 6 = true then (
  some (gw1 (gw1 (gw1 (gw1 (gw1 (gcp (gcp (gcp (gcp s (x1 + 1) 0 (x0 + 1) 0 288) (x1 + 2) 0 (x0 + 2) 0 27) (x1 + 3) 0 (x0 + 3) 0 12) (x1 + 4) 0 (x0 + 4) 0 8) x0 4 ((gcp (gcp (gcp (gcp s (x1 + 1) 0 (x0 + 1) 0 288) (x1 + 2) 0 (x0 + 2) 0 27) (x1 + 3) 0 (x0 + 3) 0 12) (x1 + 4) 0 (x0 + 4) 0 8).1 x1 4)) x0 5 ((gw1 (gcp (gcp (gcp (gcp s (x1 + 1) 0 (x0 + 1) 0 288) (x1 + 2) 0 (x0 + 2) 0 27) (x1 + 3) 0 (x0 + 3) 0 12) (x1 + 4) 0 (x0 + 4) 0 8) x0 4 ((gcp (gcp (gcp (gcp s (x1 + 1) 0 (x0 + 1) 0 288) (x1 + 2) 0 (x0 + 2) 0 27) (x1 + 3) 0 (x0 + 3) 0 12) (x1 + 4) 0 (x0 + 4) 0 8).1 x1 4)).1 x1 5)) x0 6 ((gw1 (gw1 (gcp (gcp (gcp (gcp s (x1 + 1) 0 (x0 + 1) 0 288) (x1 + 2) 0 (x0 + 2) 0 27) (x1 + 3) 0 (x0 + 3) 0 12) (x1 + 4) 0 (x0 + 4) 0 8) x0 4 ((gcp (gcp (gcp (gcp s (x1 + 1) 0 (x0 + 1) 0 288) (x1 + 2) 0 (x0 + 2) 0 27) (x1 + 3) 0 (x0 + 3) 0 12) (x1 + 4) 0 (x0 + 4) 0 8).1 x1 4)) x0 5 ((gw1 (gcp (gcp (gcp (gcp s (x1 + 1) 0 (x0 + 1) 0 288) (x1 + 2) 0 (x0 + 2) 0 27) (x1 + 3) 0 (x0 + 3) 0 12) (x1 + 4) 0 (x0 + 4) 0 8) x0 4 ((gcp (gcp (gcp (gcp s (x1 + 1) 0 (x0 + 1) 0 288) (x1 + 2) 0 (x0 + 2) 0 27) (x1 + 3) 0 (x0 + 3) 0 12) (x1 + 4) 0 (x0 + 4) 0 8).1 x1 4)).1 x1 5)).1 x1 6)) x0 7 ((gw1 (gw1 (gw1 (gcp (gcp (gcp (gcp s (x1 + 1) 0 (x0 + 1) 0 288) (x1 + 2) 0 (x0 + 2) 0 27) (x1 + 3) 0 (x0 + 3) 0 12) (x1 + 4) 0 (x0 + 4) 0 8) x0 4 ((gcp (gcp (gcp (gcp s (x1 + 1) 0 (x0 + 1) 0 288) (x1 + 2) 0 (x0 + 2) 0 27) (x1 + 3) 0 (x0 + 3) 0 12) (x1 + 4) 0 (x0 + 4) 0 8).1 x1 4)) x0 5 ((gw1 (gcp (gcp (gcp (gcp s (x1 + 1) 0 (x0 + 1) 0 288) (x1 + 2) 0 (x0 + 2) 0 27) (x1 + 3) 0 (x0 + 3) 0 12) (x1 + 4) 0 (x0 + 4) 0 8) x0 4 ((gcp (gcp (gcp (gcp s (x1 + 1) 0 (x0 + 1) 0 288) (x1 + 2) 0 (x0 + 2) 0 27) (x1 + 3) 0 (x0 + 3) 0 12) (x1 + 4) 0 (x0 + 4) 0 8).1 x1 4)).1 x1 5)) x0 6 ((gw1 (gw1 (gcp (gcp (gcp (gcp s (x1 + 1) 0 (x0 + 1) 0 288) (x1 + 2) 0 (x0 + 2) 0 27) (x1 + 3) 0 (x0 + 3) 0 12) (x1 + 4) 0 (x0 + 4) 0 8) x0 4 ((gcp (gcp (gcp (gcp s (x1 + 1) 0 (x0 + 1) 0 288) (x1 + 2) 0 (x0 + 2) 0 27) (x1 + 3) 0 (x0 + 3) 0 12) (x1 + 4) 0 (x0 + 4) 0 8).1 x1 4)) x0 5 ((gw1 (gcp (gcp (gcp (gcp s (x1 + 1) 0 (x0 + 1) 0 288) (x1 + 2) 0 (x0 + 2) 0 27) (x1 + 3) 0 (x0 + 3) 0 12) (x1 + 4) 0 (x0 + 4) 0 8) x0 4 ((gcp (gcp (gcp (gcp s (x1 + 1) 0 (x0 + 1) 0 288) (x1 + 2) 0 (x0 + 2) 0 27) (x1 + 3) 0 (x0 + 3) 0 12) (x1 + 4) 0 (x0 + 4) 0 8).1 x1 4)).1 x1 5)).1 x1 6)).1 x1 7)) x0 8 ((gw1 (gw1 (gw1 (gw1 (gcp (gcp (gcp (gcp s (x1 + 1) 0 (x0 + 1) 0 288) (x1 + 2) 0 (x0 + 2) 0 27) (x1 + 3) 0 (x0 + 3) 0 12) (x1 + 4) 0 (x0 + 4) 0 8) x0 4 ((gcp (gcp (gcp (gcp s (x1 + 1) 0 (x0 + 1) 0 288) (x1 + 2) 0 (x0 + 2) 0 27) (x1 + 3) 0 (x0 + 3) 0 12) (x1 + 4) 0 (x0 + 4) 0 8).1 x1 4)) x0 5 ((gw1 (gcp (gcp (gcp (gcp s (x1 + 1) 0 (x0 + 1) 0 288) (x1 + 2) 0 (x0 + 2) 0 27) (x1 + 3) 0 (x0 + 3) 0 12) (x1 + 4) 0 (x0 + 4) 0 8) x0 4 ((gcp (gcp (gcp (gcp s (x1 + 1) 0 (x0 + 1) 0 288) (x1 + 2) 0 (x0 + 2) 0 27) (x1 + 3) 0 (x0 + 3) 0 12) (x1 + 4) 0 (x0 + 4) 0 8).1 x1 4)).1 x1 5)) x0 6 ((gw1 (gw1 (gcp (gcp (gcp (gcp s (x1 + 1) 0 (x0 + 1) 0 288) (x1 + 2) 0 (x0 + 2) 0 27) (x1 + 3) 0 (x0 + 3) 0 12) (x1 + 4) 0 (x0 + 4) 0 8) x0 4 ((gcp (gcp (gcp (gcp s (x1 + 1) 0 (x0 + 1) 0 288) (x1 + 2) 0 (x0 + 2) 0 27) (x1 + 3) 0 (x0 + 3) 0 12) (x1 + 4) 0 (x0 + 4) 0 8).1 x1 4)) x0 5 ((gw1 (gcp (gcp (gcp (gcp s (x1 + 1) 0 (x0 + 1) 0 288) (x1 + 2) 0 (x0 + 2) 0 27) (x1 + 3) 0 (x0 + 3) 0 12) (x1 + 4) 0 (x0 + 4) 0 8) x0 4 ((gcp (gcp (gcp (gcp s (x1 + 1) 0 (x0 + 1) 0 288) (x1 + 2) 0 (x0 + 2) 0 27) (x1 + 3) 0 (x0 + 3) 0 12) (x1 + 4) 0 (x0 + 4) 0 8).1 x1 4)).1 x1 5)).1 x1 6)) x0 7 ((gw1 (gw1 (gw1 (gcp (gcp (gcp (gcp s (x1 + 1) 0 (x0 + 1) 0 288) (x1 + 2) 0 (x0 + 2) 0 27) (x1 + 3) 0 (x0 + 3) 0 12) (x1 + 4) 0 (x0 + 4) 0 8) x0 4 ((gcp (gcp (gcp (gcp s (x1 + 1) 0 (x0 + 1) 0 288) (x1 + 2) 0 (x0 + 2) 0 27) (x1 + 3) 0 (x0 + 3) 0 12) (x1 + 4) 0 (x0 + 4) 0 8).1 x1 4)) x0 5 ((gw1 (gcp (gcp (gcp (gcp s (x1 + 1) 0 (x0 + 1) 0 288) (x1 + 2) 0 (x0 + 2) 0 27) (x1 + 3) 0 (x0 + 3) 0 12) (x1 + 4) 0 (x0 + 4) 0 8) x0 4 ((gcp (gcp (gcp (gcp s (x1 + 1) 0 (x0 + 1) 0 288) (x1 + 2) 0 (x0 + 2) 0 27) (x1 + 3) 0 (x0 + 3) 0 12) (x1 + 4) 0 (x0 + 4) 0 8).1 x1 4)).1 x1 5)) x0 6 ((gw1 (gw1 (gcp (gcp (gcp (gcp s (x1 + 1) 0 (x0 + 1) 0 288) (x1 + 2) 0 (x0 + 2) 0 27) (x1 + 3) 0 (x0 + 3) 0 12) (x1 + 4) 0 (x0 + 4) 0 8) x0 4 ((gcp (gcp (gcp (gcp s (x1 + 1) 0 (x0 + 1) 0 288) (x1 + 2) 0 (x0 + 2) 0 27) (x1 + 3) 0 (x0 + 3) 0 12) (x1 + 4) 0 (x0 + 4) 0 8).1 x1 4)) x0 5 ((gw1 (gcp (gcp (gcp (gcp s (x1 + 1) 0 (x0 + 1) 0 288) (x1 + 2) 0 (x0 + 2) 0 27) (x1 + 3) 0 (x0 + 3) 0 12) (x1 + 4) 0 (x0 + 4) 0 8) x0 4 ((gcp (gcp (gcp (gcp s (x1 + 1) 0 (x0 + 1) 0 288) (x1 + 2) 0 (x0 + 2) 0 27) (x1 + 3) 0 (x0 + 3) 0 12) (x1 + 4) 0 (x0 + 4) 0 8).1 x1 4)).1 x1 5)).1 x1 6)).1 x1 7)).1 x1 8))) else none
theorem gf_54 {x0 : Nat} {x1 : Nat} {s : gx_S} {σ : fx_S} (es : σ = gx s) {q : gx_S} (h : gm_54 x0 x1 s = some q) : fm_54 x0 x1 σ = some (gx q) := by
  unfold gm_54 at h
  unfold fm_54
  obtain ⟨gg, h⟩ := fx_gd h
  refine gb_t gg ?_
  obtain ⟨g0, g1⟩ := gg
  refine gb_bind (gl_cpy es kg_0 kg_0 kg_288 (ga_6_0 g1) (ga_6_0 g0) (by decide)) ?_
  refine gb_bind (gl_cpy (rfl : _ = gx (gcp s (x1 + 1) 0 (x0 + 1) 0 288)) kg_0 kg_0 kg_27 (ga_6_1 g1) (ga_6_1 g0) (by decide)) ?_
  refine gb_bind (gl_cpy (rfl : _ = gx (gcp (gcp s (x1 + 1) 0 (x0 + 1) 0 288) (x1 + 2) 0 (x0 + 2) 0 27)) kg_0 kg_0 kg_12 (ga_6_2 g1) (ga_6_2 g0) (by decide)) ?_
  refine gb_bind (gl_cpy (rfl : _ = gx (gcp (gcp (gcp s (x1 + 1) 0 (x0 + 1) 0 288) (x1 + 2) 0 (x0 + 2) 0 27) (x1 + 3) 0 (x0 + 3) 0 12)) kg_0 kg_0 kg_8 (ga_6_3 g1) (ga_6_3 g0) (by decide)) ?_
  have h := Option.some.inj h
  subst h
  exact gretv (gx_w1 (gx_w1 (gx_w1 (gx_w1 (gx_w1 (rfl : _ = gx (gcp (gcp (gcp (gcp s (x1 + 1) 0 (x0 + 1) 0 288) (x1 + 2) 0 (x0 + 2) 0 27) (x1 + 3) 0 (x0 + 3) 0 12) (x1 + 4) 0 (x0 + 4) 0 8)) (gf1 (rfl : _ = gx (gcp (gcp (gcp (gcp s (x1 + 1) 0 (x0 + 1) 0 288) (x1 + 2) 0 (x0 + 2) 0 27) (x1 + 3) 0 (x0 + 3) 0 12) (x1 + 4) 0 (x0 + 4) 0 8)) x1 4)) (gf1 (gx_w1 (rfl : _ = gx (gcp (gcp (gcp (gcp s (x1 + 1) 0 (x0 + 1) 0 288) (x1 + 2) 0 (x0 + 2) 0 27) (x1 + 3) 0 (x0 + 3) 0 12) (x1 + 4) 0 (x0 + 4) 0 8)) (gf1 (rfl : _ = gx (gcp (gcp (gcp (gcp s (x1 + 1) 0 (x0 + 1) 0 288) (x1 + 2) 0 (x0 + 2) 0 27) (x1 + 3) 0 (x0 + 3) 0 12) (x1 + 4) 0 (x0 + 4) 0 8)) x1 4)) x1 5)) (gf1 (gx_w1 (gx_w1 (rfl : _ = gx (gcp (gcp (gcp (gcp s (x1 + 1) 0 (x0 + 1) 0 288) (x1 + 2) 0 (x0 + 2) 0 27) (x1 + 3) 0 (x0 + 3) 0 12) (x1 + 4) 0 (x0 + 4) 0 8)) (gf1 (rfl : _ = gx (gcp (gcp (gcp (gcp s (x1 + 1) 0 (x0 + 1) 0 288) (x1 + 2) 0 (x0 + 2) 0 27) (x1 + 3) 0 (x0 + 3) 0 12) (x1 + 4) 0 (x0 + 4) 0 8)) x1 4)) (gf1 (gx_w1 (rfl : _ = gx (gcp (gcp (gcp (gcp s (x1 + 1) 0 (x0 + 1) 0 288) (x1 + 2) 0 (x0 + 2) 0 27) (x1 + 3) 0 (x0 + 3) 0 12) (x1 + 4) 0 (x0 + 4) 0 8)) (gf1 (rfl : _ = gx (gcp (gcp (gcp (gcp s (x1 + 1) 0 (x0 + 1) 0 288) (x1 + 2) 0 (x0 + 2) 0 27) (x1 + 3) 0 (x0 + 3) 0 12) (x1 + 4) 0 (x0 + 4) 0 8)) x1 4)) x1 5)) x1 6)) (gf1 (gx_w1 (gx_w1 (gx_w1 (rfl : _ = gx (gcp (gcp (gcp (gcp s (x1 + 1) 0 (x0 + 1) 0 288) (x1 + 2) 0 (x0 + 2) 0 27) (x1 + 3) 0 (x0 + 3) 0 12) (x1 + 4) 0 (x0 + 4) 0 8)) (gf1 (rfl : _ = gx (gcp (gcp (gcp (gcp s (x1 + 1) 0 (x0 + 1) 0 288) (x1 + 2) 0 (x0 + 2) 0 27) (x1 + 3) 0 (x0 + 3) 0 12) (x1 + 4) 0 (x0 + 4) 0 8)) x1 4)) (gf1 (gx_w1 (rfl : _ = gx (gcp (gcp (gcp (gcp s (x1 + 1) 0 (x0 + 1) 0 288) (x1 + 2) 0 (x0 + 2) 0 27) (x1 + 3) 0 (x0 + 3) 0 12) (x1 + 4) 0 (x0 + 4) 0 8)) (gf1 (rfl : _ = gx (gcp (gcp (gcp (gcp s (x1 + 1) 0 (x0 + 1) 0 288) (x1 + 2) 0 (x0 + 2) 0 27) (x1 + 3) 0 (x0 + 3) 0 12) (x1 + 4) 0 (x0 + 4) 0 8)) x1 4)) x1 5)) (gf1 (gx_w1 (gx_w1 (rfl : _ = gx (gcp (gcp (gcp (gcp s (x1 + 1) 0 (x0 + 1) 0 288) (x1 + 2) 0 (x0 + 2) 0 27) (x1 + 3) 0 (x0 + 3) 0 12) (x1 + 4) 0 (x0 + 4) 0 8)) (gf1 (rfl : _ = gx (gcp (gcp (gcp (gcp s (x1 + 1) 0 (x0 + 1) 0 288) (x1 + 2) 0 (x0 + 2) 0 27) (x1 + 3) 0 (x0 + 3) 0 12) (x1 + 4) 0 (x0 + 4) 0 8)) x1 4)) (gf1 (gx_w1 (rfl : _ = gx (gcp (gcp (gcp (gcp s (x1 + 1) 0 (x0 + 1) 0 288) (x1 + 2) 0 (x0 + 2) 0 27) (x1 + 3) 0 (x0 + 3) 0 12) (x1 + 4) 0 (x0 + 4) 0 8)) (gf1 (rfl : _ = gx (gcp (gcp (gcp (gcp s (x1 + 1) 0 (x0 + 1) 0 288) (x1 + 2) 0 (x0 + 2) 0 27) (x1 + 3) 0 (x0 + 3) 0 12) (x1 + 4) 0 (x0 + 4) 0 8)) x1 4)) x1 5)) x1 6)) x1 7)) (gf1 (gx_w1 (gx_w1 (gx_w1 (gx_w1 (rfl : _ = gx (gcp (gcp (gcp (gcp s (x1 + 1) 0 (x0 + 1) 0 288) (x1 + 2) 0 (x0 + 2) 0 27) (x1 + 3) 0 (x0 + 3) 0 12) (x1 + 4) 0 (x0 + 4) 0 8)) (gf1 (rfl : _ = gx (gcp (gcp (gcp (gcp s (x1 + 1) 0 (x0 + 1) 0 288) (x1 + 2) 0 (x0 + 2) 0 27) (x1 + 3) 0 (x0 + 3) 0 12) (x1 + 4) 0 (x0 + 4) 0 8)) x1 4)) (gf1 (gx_w1 (rfl : _ = gx (gcp (gcp (gcp (gcp s (x1 + 1) 0 (x0 + 1) 0 288) (x1 + 2) 0 (x0 + 2) 0 27) (x1 + 3) 0 (x0 + 3) 0 12) (x1 + 4) 0 (x0 + 4) 0 8)) (gf1 (rfl : _ = gx (gcp (gcp (gcp (gcp s (x1 + 1) 0 (x0 + 1) 0 288) (x1 + 2) 0 (x0 + 2) 0 27) (x1 + 3) 0 (x0 + 3) 0 12) (x1 + 4) 0 (x0 + 4) 0 8)) x1 4)) x1 5)) (gf1 (gx_w1 (gx_w1 (rfl : _ = gx (gcp (gcp (gcp (gcp s (x1 + 1) 0 (x0 + 1) 0 288) (x1 + 2) 0 (x0 + 2) 0 27) (x1 + 3) 0 (x0 + 3) 0 12) (x1 + 4) 0 (x0 + 4) 0 8)) (gf1 (rfl : _ = gx (gcp (gcp (gcp (gcp s (x1 + 1) 0 (x0 + 1) 0 288) (x1 + 2) 0 (x0 + 2) 0 27) (x1 + 3) 0 (x0 + 3) 0 12) (x1 + 4) 0 (x0 + 4) 0 8)) x1 4)) (gf1 (gx_w1 (rfl : _ = gx (gcp (gcp (gcp (gcp s (x1 + 1) 0 (x0 + 1) 0 288) (x1 + 2) 0 (x0 + 2) 0 27) (x1 + 3) 0 (x0 + 3) 0 12) (x1 + 4) 0 (x0 + 4) 0 8)) (gf1 (rfl : _ = gx (gcp (gcp (gcp (gcp s (x1 + 1) 0 (x0 + 1) 0 288) (x1 + 2) 0 (x0 + 2) 0 27) (x1 + 3) 0 (x0 + 3) 0 12) (x1 + 4) 0 (x0 + 4) 0 8)) x1 4)) x1 5)) x1 6)) (gf1 (gx_w1 (gx_w1 (gx_w1 (rfl : _ = gx (gcp (gcp (gcp (gcp s (x1 + 1) 0 (x0 + 1) 0 288) (x1 + 2) 0 (x0 + 2) 0 27) (x1 + 3) 0 (x0 + 3) 0 12) (x1 + 4) 0 (x0 + 4) 0 8)) (gf1 (rfl : _ = gx (gcp (gcp (gcp (gcp s (x1 + 1) 0 (x0 + 1) 0 288) (x1 + 2) 0 (x0 + 2) 0 27) (x1 + 3) 0 (x0 + 3) 0 12) (x1 + 4) 0 (x0 + 4) 0 8)) x1 4)) (gf1 (gx_w1 (rfl : _ = gx (gcp (gcp (gcp (gcp s (x1 + 1) 0 (x0 + 1) 0 288) (x1 + 2) 0 (x0 + 2) 0 27) (x1 + 3) 0 (x0 + 3) 0 12) (x1 + 4) 0 (x0 + 4) 0 8)) (gf1 (rfl : _ = gx (gcp (gcp (gcp (gcp s (x1 + 1) 0 (x0 + 1) 0 288) (x1 + 2) 0 (x0 + 2) 0 27) (x1 + 3) 0 (x0 + 3) 0 12) (x1 + 4) 0 (x0 + 4) 0 8)) x1 4)) x1 5)) (gf1 (gx_w1 (gx_w1 (rfl : _ = gx (gcp (gcp (gcp (gcp s (x1 + 1) 0 (x0 + 1) 0 288) (x1 + 2) 0 (x0 + 2) 0 27) (x1 + 3) 0 (x0 + 3) 0 12) (x1 + 4) 0 (x0 + 4) 0 8)) (gf1 (rfl : _ = gx (gcp (gcp (gcp (gcp s (x1 + 1) 0 (x0 + 1) 0 288) (x1 + 2) 0 (x0 + 2) 0 27) (x1 + 3) 0 (x0 + 3) 0 12) (x1 + 4) 0 (x0 + 4) 0 8)) x1 4)) (gf1 (gx_w1 (rfl : _ = gx (gcp (gcp (gcp (gcp s (x1 + 1) 0 (x0 + 1) 0 288) (x1 + 2) 0 (x0 + 2) 0 27) (x1 + 3) 0 (x0 + 3) 0 12) (x1 + 4) 0 (x0 + 4) 0 8)) (gf1 (rfl : _ = gx (gcp (gcp (gcp (gcp s (x1 + 1) 0 (x0 + 1) 0 288) (x1 + 2) 0 (x0 + 2) 0 27) (x1 + 3) 0 (x0 + 3) 0 12) (x1 + 4) 0 (x0 + 4) 0 8)) x1 4)) x1 5)) x1 6)) x1 7)) x1 8))

/-! ZoneShares$State.putLayer(ILZoneShares$LayerText;)V -/
def gm_55_27 (x0 : Nat) (x1 : Int) (s : gx_S) : Option (gx_S) :=
  if 0 ≤ (0 : Int) ∧ 0 ≤ ((x1 * 96) : Int) ∧ 0 ≤ (96 : Int) ∧ (0 : Int) + 96 ≤ 96 ∧ ((x1 * 96) : Int) + 96 ≤ 288 then (
  some (gcp (gw1 (gw1 (gw1 s x0 4 (s.1 58 1)) x0 5 ((gw1 s x0 4 (s.1 58 1)).1 58 2)) x0 6 (((Int32.ofInt ((gw1 (gw1 s x0 4 (s.1 58 1)) x0 5 ((gw1 s x0 4 (s.1 58 1)).1 58 2)).1 x0 6) ||| Int32.ofInt (((Int32.ofInt 1 <<< (Int32.ofInt x1 &&& 31))).toInt))).toInt)) 59 0 (x0 + 1) ((x1 * 96)).toNat 96)) else none
theorem gf_55_27 (x0 : Nat) (x1 : Int) (yx1 : Int32) (e1 : yx1 = Int32.ofInt x1) (s : gx_S) (σ : fx_S) (es : σ = gx s) (q : gx_S) (g0 : fx_oc x0 6 = true) (h : gm_55_27 x0 x1 s = some q) : fm_55_27 x0 yx1 σ = some (gx q) := by
  unfold gm_55_27 at h
  unfold fm_55_27
  obtain ⟨z3, h⟩ := fx_gd h
  refine gb_bind (gl_cpy (gx_w1 (gx_w1 (gx_w1 es (gf1 es 58 1)) (gf1 (gx_w1 es (gf1 es 58 1)) 58 2)) (ga_o2 (f := (fun a b => (a ||| b))) (gf1 (gx_w1 (gx_w1 es (gf1 es 58 1)) (gf1 (gx_w1 es (gf1 es 58 1)) 58 2)) x0 6) (ga_o2 (f := (fun a b => (a <<< (b &&& 31)))) kg_1 e1))) kg_0 (ga_mul e1 kg_96) kg_96 ga_59 (ga_6_0 g0) z3) ?_
  have h := Option.some.inj h
  subst h
  exact gretv (rfl : _ = gx (gcp (gw1 (gw1 (gw1 s x0 4 (s.1 58 1)) x0 5 ((gw1 s x0 4 (s.1 58 1)).1 58 2)) x0 6 (((Int32.ofInt ((gw1 (gw1 s x0 4 (s.1 58 1)) x0 5 ((gw1 s x0 4 (s.1 58 1)).1 58 2)).1 x0 6) ||| Int32.ofInt (((Int32.ofInt 1 <<< (Int32.ofInt x1 &&& 31))).toInt))).toInt)) 59 0 (x0 + 1) ((x1 * 96)).toNat 96))
def gm_55_22 (x0 : Nat) (x1 : Int) (s : gx_S) : Option (gx_S) :=
  gm_55_27 x0 x1 (gw1 s x0 6 0)
theorem gf_55_22 (x0 : Nat) (x1 : Int) (yx1 : Int32) (e1 : yx1 = Int32.ofInt x1) (s : gx_S) (σ : fx_S) (es : σ = gx s) (q : gx_S) (g0 : fx_oc x0 6 = true) (h : gm_55_22 x0 x1 s = some q) : fm_55_22 x0 yx1 σ = some (gx q) := by
  unfold gm_55_22 at h
  unfold fm_55_22
  exact gf_55_27 _ _ _ e1 _ _ (gx_w1 es kg_0) _ g0 h
def gm_55 (x0 : Nat) (x1 : Int) (s : gx_S) : Option (gx_S) :=
  if fx_oc x0 6 = true then (
  if (-2147483648 ≤ (s.1 58 1) ∧ (s.1 58 1) ≤ 2147483647) then (
  if (-2147483648 ≤ (s.1 x0 4) ∧ (s.1 x0 4) ≤ 2147483647) then (
  if ¬ (s.1 58 1) = (s.1 x0 4) then (
    gm_55_22 x0 x1 s) else (
    if (-2147483648 ≤ (s.1 58 2) ∧ (s.1 58 2) ≤ 2147483647) then (
    if (-2147483648 ≤ (s.1 x0 5) ∧ (s.1 x0 5) ≤ 2147483647) then (
    if (s.1 58 2) = (s.1 x0 5) then (
      gm_55_27 x0 x1 s) else (
      gm_55_22 x0 x1 s)) else none) else none)) else none) else none) else none
theorem gf_55 {x0 : Nat} {x1 : Int} {yx1 : Int32} (e1 : yx1 = Int32.ofInt x1) {s : gx_S} {σ : fx_S} (es : σ = gx s) {q : gx_S} (h : gm_55 x0 x1 s = some q) : fm_55 x0 yx1 σ = some (gx q) := by
  unfold gm_55 at h
  unfold fm_55
  obtain ⟨gg, h⟩ := fx_gd h
  refine gb_t gg ?_
  have g0 := gg
  obtain ⟨z10, h⟩ := fx_gd h
  obtain ⟨z11, h⟩ := fx_gd h
  by_cases c12 : ¬ (s.1 58 1) = (s.1 x0 4)
  · rw [if_pos c12] at h
    refine gb_t ((gc_ne (gf1 es 58 1) (gf1 es x0 4) z10 z11).mpr c12) ?_
    exact gf_55_22 _ _ _ e1 _ _ es _ g0 h
  · rw [if_neg c12] at h
    refine gb_f (fun q => c12 ((gc_ne (gf1 es 58 1) (gf1 es x0 4) z10 z11).mp q)) ?_
    obtain ⟨z13, h⟩ := fx_gd h
    obtain ⟨z14, h⟩ := fx_gd h
    by_cases c15 : (s.1 58 2) = (s.1 x0 5)
    · rw [if_pos c15] at h
      refine gb_t ((gc_eq (gf1 es 58 2) (gf1 es x0 5) z13 z14).mpr c15) ?_
      exact gf_55_27 _ _ _ e1 _ _ es _ g0 h
    · rw [if_neg c15] at h
      refine gb_f (fun q => c15 ((gc_eq (gf1 es 58 2) (gf1 es x0 5) z13 z14).mp q)) ?_
      exact gf_55_22 _ _ _ e1 _ _ es _ g0 h

/-! ZoneShares$State.has(I)Z -/
def gm_56 (x0 : Nat) (x1 : Int) (s : gx_S) : Option (Bool × gx_S) :=
  if fx_oc x0 6 = true then (
  if (-2147483648 ≤ ((Int32.ofInt (((Int32.ofInt (s.1 x0 6) >>> (Int32.ofInt x1 &&& 31))).toInt) &&& Int32.ofInt 1)).toInt ∧ ((Int32.ofInt (((Int32.ofInt (s.1 x0 6) >>> (Int32.ofInt x1 &&& 31))).toInt) &&& Int32.ofInt 1)).toInt ≤ 2147483647) then (
  if ¬ ((Int32.ofInt (((Int32.ofInt (s.1 x0 6) >>> (Int32.ofInt x1 &&& 31))).toInt) &&& Int32.ofInt 1)).toInt = 1 then (
    some (false, s)) else (
    some (true, s))) else none) else none
theorem gf_56 {x0 : Nat} {x1 : Int} {yx1 : Int32} (e1 : yx1 = Int32.ofInt x1) {s : gx_S} {σ : fx_S} (es : σ = gx s) {q : Bool × gx_S} (h : gm_56 x0 x1 s = some q) : fm_56 x0 yx1 σ = some (q.1, gx q.2) := by
  unfold gm_56 at h
  unfold fm_56
  obtain ⟨gg, h⟩ := fx_gd h
  refine gb_t gg ?_
  have g0 := gg
  obtain ⟨z3, h⟩ := fx_gd h
  by_cases c4 : ¬ ((Int32.ofInt (((Int32.ofInt (s.1 x0 6) >>> (Int32.ofInt x1 &&& 31))).toInt) &&& Int32.ofInt 1)).toInt = 1
  · rw [if_pos c4] at h
    refine gb_t ((gc_ne (ga_o2 (f := (fun a b => (a &&& b))) (ga_o2 (f := (fun a b => (a >>> (b &&& 31)))) (gf1 es x0 6) e1) kg_1) kg_1 z3 (by decide)).mpr c4) ?_
    have h := Option.some.inj h
    subst h
    exact gretb es
  · rw [if_neg c4] at h
    refine gb_f (fun q => c4 ((gc_ne (ga_o2 (f := (fun a b => (a &&& b))) (ga_o2 (f := (fun a b => (a >>> (b &&& 31)))) (gf1 es x0 6) e1) kg_1) kg_1 z3 (by decide)).mp q)) ?_
    have h := Option.some.inj h
    subst h
    exact gretb es

/-! ZoneShares$State.whole()Z -/
def gm_57 (x0 : Nat) (s : gx_S) : Option (Bool × gx_S) :=
  if fx_oc x0 6 = true then (
  if (-2147483648 ≤ (s.1 x0 6) ∧ (s.1 x0 6) ≤ 2147483647) then (
  if ¬ (s.1 x0 6) = 7 then (
    some (false, s)) else (
    some (true, s))) else none) else none
theorem gf_57 {x0 : Nat} {s : gx_S} {σ : fx_S} (es : σ = gx s) {q : Bool × gx_S} (h : gm_57 x0 s = some q) : fm_57 x0 σ = some (q.1, gx q.2) := by
  unfold gm_57 at h
  unfold fm_57
  obtain ⟨gg, h⟩ := fx_gd h
  refine gb_t gg ?_
  have g0 := gg
  obtain ⟨z3, h⟩ := fx_gd h
  by_cases c4 : ¬ (s.1 x0 6) = 7
  · rw [if_pos c4] at h
    refine gb_t ((gc_ne (gf1 es x0 6) kg_7 z3 (by decide)).mpr c4) ?_
    have h := Option.some.inj h
    subst h
    exact gretb es
  · rw [if_neg c4] at h
    refine gb_f (fun q => c4 ((gc_ne (gf1 es x0 6) kg_7 z3 (by decide)).mp q)) ?_
    have h := Option.some.inj h
    subst h
    exact gretb es

/-! ZoneShares$State.cells()I -/
def gm_58 (x0 : Nat) (s : gx_S) : Option (Int × gx_S) :=
  if fx_oc x0 6 = true then (
  some (((s.1 x0 4) * (s.1 x0 5)), s)) else none
theorem gf_58 {x0 : Nat} {s : gx_S} {σ : fx_S} (es : σ = gx s) {q : Int × gx_S} (h : gm_58 x0 s = some q) : fm_58 x0 σ = some (Int32.ofInt q.1, gx q.2) := by
  unfold gm_58 at h
  unfold fm_58
  obtain ⟨gg, h⟩ := fx_gd h
  refine gb_t gg ?_
  have g0 := gg
  have h := Option.some.inj h
  subst h
  exact gret (ga_mul (gf1 es x0 4) (gf1 es x0 5)) es

/-! ZoneShares$State.hasCell(II)Z -/
def gm_59 (x0 : Nat) (x1 : Int) (x2 : Int) (s : gx_S) : Option (Bool × gx_S) :=
  if fx_oc x0 6 = true then (
  if (-2147483648 ≤ x1 ∧ x1 ≤ 2147483647) then (
  if x1 < 0 then (
    some (false, s)) else (
    if (-2147483648 ≤ (s.1 x0 4) ∧ (s.1 x0 4) ≤ 2147483647) then (
    if (s.1 x0 4) ≤ x1 then (
      some (false, s)) else (
      if (-2147483648 ≤ x2 ∧ x2 ≤ 2147483647) then (
      if x2 < 0 then (
        some (false, s)) else (
        if (-2147483648 ≤ (s.1 x0 5) ∧ (s.1 x0 5) ≤ 2147483647) then (
        if (s.1 x0 5) ≤ x2 then (
          some (false, s)) else (
          some (true, s))) else none)) else none)) else none)) else none) else none
theorem gf_59 {x0 : Nat} {x1 : Int} {yx1 : Int32} (e1 : yx1 = Int32.ofInt x1) {x2 : Int} {yx2 : Int32} (e2 : yx2 = Int32.ofInt x2) {s : gx_S} {σ : fx_S} (es : σ = gx s) {q : Bool × gx_S} (h : gm_59 x0 x1 x2 s = some q) : fm_59 x0 yx1 yx2 σ = some (q.1, gx q.2) := by
  unfold gm_59 at h
  unfold fm_59
  obtain ⟨gg, h⟩ := fx_gd h
  refine gb_t gg ?_
  have g0 := gg
  obtain ⟨z9, h⟩ := fx_gd h
  by_cases c10 : x1 < 0
  · rw [if_pos c10] at h
    refine gb_t ((gc_lt e1 kg_0 z9 (by decide)).mpr c10) ?_
    have h := Option.some.inj h
    subst h
    exact gretb es
  · rw [if_neg c10] at h
    refine gb_f (fun q => c10 ((gc_lt e1 kg_0 z9 (by decide)).mp q)) ?_
    obtain ⟨z11, h⟩ := fx_gd h
    by_cases c12 : (s.1 x0 4) ≤ x1
    · rw [if_pos c12] at h
      refine gb_t ((gc_le (gf1 es x0 4) e1 z11 z9).mpr c12) ?_
      have h := Option.some.inj h
      subst h
      exact gretb es
    · rw [if_neg c12] at h
      refine gb_f (fun q => c12 ((gc_le (gf1 es x0 4) e1 z11 z9).mp q)) ?_
      obtain ⟨z13, h⟩ := fx_gd h
      by_cases c14 : x2 < 0
      · rw [if_pos c14] at h
        refine gb_t ((gc_lt e2 kg_0 z13 (by decide)).mpr c14) ?_
        have h := Option.some.inj h
        subst h
        exact gretb es
      · rw [if_neg c14] at h
        refine gb_f (fun q => c14 ((gc_lt e2 kg_0 z13 (by decide)).mp q)) ?_
        obtain ⟨z15, h⟩ := fx_gd h
        by_cases c16 : (s.1 x0 5) ≤ x2
        · rw [if_pos c16] at h
          refine gb_t ((gc_le (gf1 es x0 5) e2 z15 z13).mpr c16) ?_
          have h := Option.some.inj h
          subst h
          exact gretb es
        · rw [if_neg c16] at h
          refine gb_f (fun q => c16 ((gc_le (gf1 es x0 5) e2 z15 z13).mp q)) ?_
          have h := Option.some.inj h
          subst h
          exact gretb es

/-! ZoneShares$State.at(II)I -/
def gm_60 (x0 : Nat) (x1 : Int) (x2 : Int) (s : gx_S) : Option (Int × gx_S) :=
  if fx_oc x0 6 = true then (
  if 0 ≤ ((x1 * 96) + x2) ∧ ((x1 * 96) + x2) < 288 then (
  some ((s.1 (x0 + 1) (((x1 * 96) + x2)).toNat), s)) else none) else none
theorem gf_60 {x0 : Nat} {x1 : Int} {yx1 : Int32} (e1 : yx1 = Int32.ofInt x1) {x2 : Int} {yx2 : Int32} (e2 : yx2 = Int32.ofInt x2) {s : gx_S} {σ : fx_S} (es : σ = gx s) {q : Int × gx_S} (h : gm_60 x0 x1 x2 s = some q) : fm_60 x0 yx1 yx2 σ = some (Int32.ofInt q.1, gx q.2) := by
  unfold gm_60 at h
  unfold fm_60
  obtain ⟨gg, h⟩ := fx_gd h
  refine gb_t gg ?_
  have g0 := gg
  obtain ⟨z6, h⟩ := fx_gd h
  refine gb_bind (gl_ld es (ga_add (ga_mul e1 kg_96) e2) (ga_6_0 g0) z6) ?_
  have h := Option.some.inj h
  subst h
  exact gret (gr (s.1 (x0 + 1) (((x1 * 96) + x2)).toNat)) es

/-! ZoneShares$State.weightAt(II)I -/
def gm_61 (x0 : Nat) (x1 : Int) (x2 : Int) (s : gx_S) : Option (Int × gx_S) :=
  if fx_oc x0 6 = true then (
  (gm_60 x0 2 x2 s).bind fun q7 =>
  if 0 ≤ ((x1 * 4) + q7.1) ∧ ((x1 * 4) + q7.1) < 12 then (
  some ((q7.2.1 (x0 + 3) (((x1 * 4) + q7.1)).toNat), q7.2)) else none) else none
theorem gf_61 {x0 : Nat} {x1 : Int} {yx1 : Int32} (e1 : yx1 = Int32.ofInt x1) {x2 : Int} {yx2 : Int32} (e2 : yx2 = Int32.ofInt x2) {s : gx_S} {σ : fx_S} (es : σ = gx s) {q : Int × gx_S} (h : gm_61 x0 x1 x2 s = some q) : fm_61 x0 yx1 yx2 σ = some (Int32.ofInt q.1, gx q.2) := by
  unfold gm_61 at h
  unfold fm_61
  obtain ⟨gg, h⟩ := fx_gd h
  refine gb_t gg ?_
  have g0 := gg
  obtain ⟨q7, w6, h⟩ := fx_bd h
  refine gb_bind (gf_60 kg_2 e2 es w6) ?_
  obtain ⟨z10, h⟩ := fx_gd h
  refine gb_bind (gl_ld (rfl : _ = gx q7.2) (ga_add (ga_mul e1 kg_4) (gr q7.1)) (ga_6_2 g0) z10) ?_
  have h := Option.some.inj h
  subst h
  exact gret (gr (q7.2.1 (x0 + 3) (((x1 * 4) + q7.1)).toNat)) (rfl : _ = gx q7.2)

/-! ZoneShares$State.cellsOf(II)I -/
def gm_62_43 (k_23 : Nat → Int → Int → Int → Int → Int → gx_S → Option (Int × gx_S)) (x0 : Nat) (x1 : Int) (x2 : Int) (x3 : Int) (x4 : Int) (x5 : Int) (s : gx_S) : Option (Int × gx_S) :=
  k_23 x0 x1 x2 x3 x4 (x5 + 1) s
theorem gf_62_43 {kf_23 : Nat → Int32 → Int32 → Int32 → Int32 → Int32 → fx_S → Option (Int32 × fx_S)} {kg_23 : Nat → Int → Int → Int → Int → Int → gx_S → Option (Int × gx_S)} (hk_23 : ∀ (x0 : Nat) (x1 : Int) (yx1 : Int32) (e1 : yx1 = Int32.ofInt x1) (x2 : Int) (yx2 : Int32) (e2 : yx2 = Int32.ofInt x2) (x3 : Int) (yx3 : Int32) (e3 : yx3 = Int32.ofInt x3) (x4 : Int) (yx4 : Int32) (e4 : yx4 = Int32.ofInt x4) (x5 : Int) (yx5 : Int32) (e5 : yx5 = Int32.ofInt x5) (s : gx_S) (σ : fx_S) (es : σ = gx s) (q : Int × gx_S) (g0 : fx_oc x0 6 = true), kg_23 x0 x1 x2 x3 x4 x5 s = some q → kf_23 x0 yx1 yx2 yx3 yx4 yx5 σ = some (Int32.ofInt q.1, gx q.2)) (x0 : Nat) (x1 : Int) (yx1 : Int32) (e1 : yx1 = Int32.ofInt x1) (x2 : Int) (yx2 : Int32) (e2 : yx2 = Int32.ofInt x2) (x3 : Int) (yx3 : Int32) (e3 : yx3 = Int32.ofInt x3) (x4 : Int) (yx4 : Int32) (e4 : yx4 = Int32.ofInt x4) (x5 : Int) (yx5 : Int32) (e5 : yx5 = Int32.ofInt x5) (s : gx_S) (σ : fx_S) (es : σ = gx s) (q : Int × gx_S) (g0 : fx_oc x0 6 = true) (h : gm_62_43 kg_23 x0 x1 x2 x3 x4 x5 s = some q) : fm_62_43 kf_23 x0 yx1 yx2 yx3 yx4 yx5 σ = some (Int32.ofInt q.1, gx q.2) := by
  unfold gm_62_43 at h
  unfold fm_62_43
  exact hk_23 _ _ _ e1 _ _ e2 _ _ e3 _ _ e4 _ _ (ga_add e5 kg_1) _ _ es _ g0 h
def gm_62_23 : Nat → Nat → Int → Int → Int → Int → Int → gx_S → Option (Int × gx_S)
  | 0, _, _, _, _, _, _, _ => none
  | n + 1, x0, x1, x2, x3, x4, x5, s =>
    if (-2147483648 ≤ x5 ∧ x5 ≤ 2147483647) then (
    if (-2147483648 ≤ x3 ∧ x3 ≤ 2147483647) then (
    if x3 ≤ x5 then (
      some (x4, s)) else (
      (gm_60 x0 x1 x5 s).bind fun q5 =>
      if (-2147483648 ≤ q5.1 ∧ q5.1 ≤ 2147483647) then (
      if (-2147483648 ≤ x2 ∧ x2 ≤ 2147483647) then (
      if ¬ q5.1 = x2 then (
        gm_62_43 (gm_62_23 n) x0 x1 x2 x3 x4 x5 q5.2) else (
        gm_62_43 (gm_62_23 n) x0 x1 x2 x3 (x4 + 1) x5 q5.2)) else none) else none)) else none) else none
theorem gf_62_23 : ∀ (n : Nat) (x0 : Nat) (x1 : Int) (yx1 : Int32) (e1 : yx1 = Int32.ofInt x1) (x2 : Int) (yx2 : Int32) (e2 : yx2 = Int32.ofInt x2) (x3 : Int) (yx3 : Int32) (e3 : yx3 = Int32.ofInt x3) (x4 : Int) (yx4 : Int32) (e4 : yx4 = Int32.ofInt x4) (x5 : Int) (yx5 : Int32) (e5 : yx5 = Int32.ofInt x5) (s : gx_S) (σ : fx_S) (es : σ = gx s) (q : Int × gx_S) (g0 : fx_oc x0 6 = true), gm_62_23 n x0 x1 x2 x3 x4 x5 s = some q → fm_62_23 n x0 yx1 yx2 yx3 yx4 yx5 σ = some (Int32.ofInt q.1, gx q.2) := by
  intro n
  induction n with
  | zero =>
    intro x0 x1 yx1 e1 x2 yx2 e2 x3 yx3 e3 x4 yx4 e4 x5 yx5 e5 s σ es q g0 h
    rw [gm_62_23] at h
    exact fx_no h
  | succ n ih =>
    intro x0 x1 yx1 e1 x2 yx2 e2 x3 yx3 e3 x4 yx4 e4 x5 yx5 e5 s σ es q g0 h
    rw [gm_62_23] at h
    rw [fm_62_23]
    obtain ⟨z1, h⟩ := fx_gd h
    obtain ⟨z2, h⟩ := fx_gd h
    by_cases c3 : x3 ≤ x5
    · rw [if_pos c3] at h
      refine gb_t ((gc_le e3 e5 z2 z1).mpr c3) ?_
      have h := Option.some.inj h
      subst h
      exact gret e4 es
    · rw [if_neg c3] at h
      refine gb_f (fun q => c3 ((gc_le e3 e5 z2 z1).mp q)) ?_
      obtain ⟨q5, w4, h⟩ := fx_bd h
      refine gb_bind (gf_60 e1 e5 es w4) ?_
      obtain ⟨z6, h⟩ := fx_gd h
      obtain ⟨z7, h⟩ := fx_gd h
      by_cases c8 : ¬ q5.1 = x2
      · rw [if_pos c8] at h
        refine gb_t ((gc_ne (gr q5.1) e2 z6 z7).mpr c8) ?_
        exact gf_62_43 ih _ _ _ e1 _ _ e2 _ _ e3 _ _ e4 _ _ e5 _ _ (rfl : _ = gx q5.2) _ g0 h
      · rw [if_neg c8] at h
        refine gb_f (fun q => c8 ((gc_ne (gr q5.1) e2 z6 z7).mp q)) ?_
        exact gf_62_43 ih _ _ _ e1 _ _ e2 _ _ e3 _ _ (ga_add e4 kg_1) _ _ e5 _ _ (rfl : _ = gx q5.2) _ g0 h
def gm_62_16 (x0 : Nat) (x1 : Int) (x2 : Int) (s0 : Int) (s : gx_S) : Option (Int × gx_S) :=
  gm_62_23 100000 x0 x1 x2 s0 0 0 s
theorem gf_62_16 (x0 : Nat) (x1 : Int) (yx1 : Int32) (e1 : yx1 = Int32.ofInt x1) (x2 : Int) (yx2 : Int32) (e2 : yx2 = Int32.ofInt x2) (s0 : Int) (ys0 : Int32) (es0 : ys0 = Int32.ofInt s0) (s : gx_S) (σ : fx_S) (es : σ = gx s) (q : Int × gx_S) (g0 : fx_oc x0 6 = true) (h : gm_62_16 x0 x1 x2 s0 s = some q) : fm_62_16 x0 yx1 yx2 ys0 σ = some (Int32.ofInt q.1, gx q.2) := by
  unfold gm_62_16 at h
  unfold fm_62_16
  exact gf_62_23 100000 _ _ _ e1 _ _ e2 _ _ es0 _ _ kg_0 _ _ kg_0 _ _ es _ g0 h
def gm_62 (x0 : Nat) (x1 : Int) (x2 : Int) (s : gx_S) : Option (Int × gx_S) :=
  if fx_oc x0 6 = true then (
  (gm_56 x0 x1 s).bind fun q15 =>
  if (gb q15.1) = 0 then (
    gm_62_16 x0 x1 x2 0 q15.2) else (
    (gm_58 x0 q15.2).bind fun q18 =>
    gm_62_16 x0 x1 x2 q18.1 q18.2)) else none
theorem gf_62 {x0 : Nat} {x1 : Int} {yx1 : Int32} (e1 : yx1 = Int32.ofInt x1) {x2 : Int} {yx2 : Int32} (e2 : yx2 = Int32.ofInt x2) {s : gx_S} {σ : fx_S} (es : σ = gx s) {q : Int × gx_S} (h : gm_62 x0 x1 x2 s = some q) : fm_62 x0 yx1 yx2 σ = some (Int32.ofInt q.1, gx q.2) := by
  unfold gm_62 at h
  unfold fm_62
  obtain ⟨gg, h⟩ := fx_gd h
  refine gb_t gg ?_
  have g0 := gg
  obtain ⟨q15, w14, h⟩ := fx_bd h
  refine gb_bind (gf_56 e1 es w14) ?_
  by_cases c16 : (gb q15.1) = 0
  · rw [if_pos c16] at h
    refine gb_t ((gc_eq (gb_b q15.1) kg_0 (gb_r _) (by decide)).mpr c16) ?_
    exact gf_62_16 _ _ _ e1 _ _ e2 _ _ kg_0 _ _ (rfl : _ = gx q15.2) _ g0 h
  · rw [if_neg c16] at h
    refine gb_f (fun q => c16 ((gc_eq (gb_b q15.1) kg_0 (gb_r _) (by decide)).mp q)) ?_
    obtain ⟨q18, w17, h⟩ := fx_bd h
    refine gb_bind (gf_58 (rfl : _ = gx q15.2) w17) ?_
    exact gf_62_16 _ _ _ e1 _ _ e2 _ _ (gr q18.1) _ _ (rfl : _ = gx q18.2) _ g0 h

/-! ZoneShares$State.kinds(II)I -/
def gm_63_24 (k_5 : Nat → Int → Int → Int → Int → gx_S → Option (Int × gx_S)) (x0 : Nat) (x1 : Int) (x2 : Int) (x3 : Int) (x4 : Int) (s : gx_S) : Option (Int × gx_S) :=
  k_5 x0 x1 x2 x3 (x4 + 1) s
theorem gf_63_24 {kf_5 : Nat → Int32 → Int32 → Int32 → Int32 → fx_S → Option (Int32 × fx_S)} {kg_5 : Nat → Int → Int → Int → Int → gx_S → Option (Int × gx_S)} (hk_5 : ∀ (x0 : Nat) (x1 : Int) (yx1 : Int32) (e1 : yx1 = Int32.ofInt x1) (x2 : Int) (yx2 : Int32) (e2 : yx2 = Int32.ofInt x2) (x3 : Int) (yx3 : Int32) (e3 : yx3 = Int32.ofInt x3) (x4 : Int) (yx4 : Int32) (e4 : yx4 = Int32.ofInt x4) (s : gx_S) (σ : fx_S) (es : σ = gx s) (q : Int × gx_S) (g0 : fx_oc x0 6 = true), kg_5 x0 x1 x2 x3 x4 s = some q → kf_5 x0 yx1 yx2 yx3 yx4 σ = some (Int32.ofInt q.1, gx q.2)) (x0 : Nat) (x1 : Int) (yx1 : Int32) (e1 : yx1 = Int32.ofInt x1) (x2 : Int) (yx2 : Int32) (e2 : yx2 = Int32.ofInt x2) (x3 : Int) (yx3 : Int32) (e3 : yx3 = Int32.ofInt x3) (x4 : Int) (yx4 : Int32) (e4 : yx4 = Int32.ofInt x4) (s : gx_S) (σ : fx_S) (es : σ = gx s) (q : Int × gx_S) (g0 : fx_oc x0 6 = true) (h : gm_63_24 kg_5 x0 x1 x2 x3 x4 s = some q) : fm_63_24 kf_5 x0 yx1 yx2 yx3 yx4 σ = some (Int32.ofInt q.1, gx q.2) := by
  unfold gm_63_24 at h
  unfold fm_63_24
  exact hk_5 _ _ _ e1 _ _ e2 _ _ e3 _ _ (ga_add e4 kg_1) _ _ es _ g0 h
def gm_63_5 : Nat → Nat → Int → Int → Int → Int → gx_S → Option (Int × gx_S)
  | 0, _, _, _, _, _, _ => none
  | n + 1, x0, x1, x2, x3, x4, s =>
    if (-2147483648 ≤ x4 ∧ x4 ≤ 2147483647) then (
    if (-2147483648 ≤ x2 ∧ x2 ≤ 2147483647) then (
    if x2 ≤ x4 then (
      some (x3, s)) else (
      (gm_62 x0 x1 x4 s).bind fun q5 =>
      if (-2147483648 ≤ q5.1 ∧ q5.1 ≤ 2147483647) then (
      if q5.1 ≤ 0 then (
        gm_63_24 (gm_63_5 n) x0 x1 x2 x3 x4 q5.2) else (
        gm_63_24 (gm_63_5 n) x0 x1 x2 (x3 + 1) x4 q5.2)) else none)) else none) else none
theorem gf_63_5 : ∀ (n : Nat) (x0 : Nat) (x1 : Int) (yx1 : Int32) (e1 : yx1 = Int32.ofInt x1) (x2 : Int) (yx2 : Int32) (e2 : yx2 = Int32.ofInt x2) (x3 : Int) (yx3 : Int32) (e3 : yx3 = Int32.ofInt x3) (x4 : Int) (yx4 : Int32) (e4 : yx4 = Int32.ofInt x4) (s : gx_S) (σ : fx_S) (es : σ = gx s) (q : Int × gx_S) (g0 : fx_oc x0 6 = true), gm_63_5 n x0 x1 x2 x3 x4 s = some q → fm_63_5 n x0 yx1 yx2 yx3 yx4 σ = some (Int32.ofInt q.1, gx q.2) := by
  intro n
  induction n with
  | zero =>
    intro x0 x1 yx1 e1 x2 yx2 e2 x3 yx3 e3 x4 yx4 e4 s σ es q g0 h
    rw [gm_63_5] at h
    exact fx_no h
  | succ n ih =>
    intro x0 x1 yx1 e1 x2 yx2 e2 x3 yx3 e3 x4 yx4 e4 s σ es q g0 h
    rw [gm_63_5] at h
    rw [fm_63_5]
    obtain ⟨z1, h⟩ := fx_gd h
    obtain ⟨z2, h⟩ := fx_gd h
    by_cases c3 : x2 ≤ x4
    · rw [if_pos c3] at h
      refine gb_t ((gc_le e2 e4 z2 z1).mpr c3) ?_
      have h := Option.some.inj h
      subst h
      exact gret e3 es
    · rw [if_neg c3] at h
      refine gb_f (fun q => c3 ((gc_le e2 e4 z2 z1).mp q)) ?_
      obtain ⟨q5, w4, h⟩ := fx_bd h
      refine gb_bind (gf_62 e1 e4 es w4) ?_
      obtain ⟨z6, h⟩ := fx_gd h
      by_cases c7 : q5.1 ≤ 0
      · rw [if_pos c7] at h
        refine gb_t ((gc_le (gr q5.1) kg_0 z6 (by decide)).mpr c7) ?_
        exact gf_63_24 ih _ _ _ e1 _ _ e2 _ _ e3 _ _ e4 _ _ (rfl : _ = gx q5.2) _ g0 h
      · rw [if_neg c7] at h
        refine gb_f (fun q => c7 ((gc_le (gr q5.1) kg_0 z6 (by decide)).mp q)) ?_
        exact gf_63_24 ih _ _ _ e1 _ _ e2 _ _ (ga_add e3 kg_1) _ _ e4 _ _ (rfl : _ = gx q5.2) _ g0 h
def gm_63 (x0 : Nat) (x1 : Int) (x2 : Int) (s : gx_S) : Option (Int × gx_S) :=
  if fx_oc x0 6 = true then (
  gm_63_5 100000 x0 x1 x2 0 0 s) else none
theorem gf_63 {x0 : Nat} {x1 : Int} {yx1 : Int32} (e1 : yx1 = Int32.ofInt x1) {x2 : Int} {yx2 : Int32} (e2 : yx2 = Int32.ofInt x2) {s : gx_S} {σ : fx_S} (es : σ = gx s) {q : Int × gx_S} (h : gm_63 x0 x1 x2 s = some q) : fm_63 x0 yx1 yx2 σ = some (Int32.ofInt q.1, gx q.2) := by
  unfold gm_63 at h
  unfold fm_63
  obtain ⟨gg, h⟩ := fx_gd h
  refine gb_t gg ?_
  have g0 := gg
  exact gf_63_5 100000 _ _ _ e1 _ _ e2 _ _ kg_0 _ _ kg_0 _ _ es _ g0 h

/-! ZoneShares$State.unlikeCells()I -/
def gm_64_32 (k_9 : Nat → Int → Int → Int → gx_S → Option (Int × gx_S)) (x0 : Nat) (x1 : Int) (x2 : Int) (x3 : Int) (s : gx_S) : Option (Int × gx_S) :=
  k_9 x0 x1 x2 (x3 + 1) s
theorem gf_64_32 {kf_9 : Nat → Int32 → Int32 → Int32 → fx_S → Option (Int32 × fx_S)} {kg_9 : Nat → Int → Int → Int → gx_S → Option (Int × gx_S)} (hk_9 : ∀ (x0 : Nat) (x1 : Int) (yx1 : Int32) (e1 : yx1 = Int32.ofInt x1) (x2 : Int) (yx2 : Int32) (e2 : yx2 = Int32.ofInt x2) (x3 : Int) (yx3 : Int32) (e3 : yx3 = Int32.ofInt x3) (s : gx_S) (σ : fx_S) (es : σ = gx s) (q : Int × gx_S) (g0 : fx_oc x0 6 = true), kg_9 x0 x1 x2 x3 s = some q → kf_9 x0 yx1 yx2 yx3 σ = some (Int32.ofInt q.1, gx q.2)) (x0 : Nat) (x1 : Int) (yx1 : Int32) (e1 : yx1 = Int32.ofInt x1) (x2 : Int) (yx2 : Int32) (e2 : yx2 = Int32.ofInt x2) (x3 : Int) (yx3 : Int32) (e3 : yx3 = Int32.ofInt x3) (s : gx_S) (σ : fx_S) (es : σ = gx s) (q : Int × gx_S) (g0 : fx_oc x0 6 = true) (h : gm_64_32 kg_9 x0 x1 x2 x3 s = some q) : fm_64_32 kf_9 x0 yx1 yx2 yx3 σ = some (Int32.ofInt q.1, gx q.2) := by
  unfold gm_64_32 at h
  unfold fm_64_32
  exact hk_9 _ _ _ e1 _ _ e2 _ _ (ga_add e3 kg_1) _ _ es _ g0 h
def gm_64_9 : Nat → Nat → Int → Int → Int → gx_S → Option (Int × gx_S)
  | 0, _, _, _, _, _ => none
  | n + 1, x0, x1, x2, x3, s =>
    if (-2147483648 ≤ x3 ∧ x3 ≤ 2147483647) then (
    if (-2147483648 ≤ x1 ∧ x1 ≤ 2147483647) then (
    if x1 ≤ x3 then (
      some (x2, s)) else (
      (gm_60 x0 0 x3 s).bind fun q5 =>
      (gm_60 x0 1 x3 q5.2).bind fun q7 =>
      if (-2147483648 ≤ q5.1 ∧ q5.1 ≤ 2147483647) then (
      if (-2147483648 ≤ q7.1 ∧ q7.1 ≤ 2147483647) then (
      if q5.1 = q7.1 then (
        gm_64_32 (gm_64_9 n) x0 x1 x2 x3 q7.2) else (
        gm_64_32 (gm_64_9 n) x0 x1 (x2 + 1) x3 q7.2)) else none) else none)) else none) else none
theorem gf_64_9 : ∀ (n : Nat) (x0 : Nat) (x1 : Int) (yx1 : Int32) (e1 : yx1 = Int32.ofInt x1) (x2 : Int) (yx2 : Int32) (e2 : yx2 = Int32.ofInt x2) (x3 : Int) (yx3 : Int32) (e3 : yx3 = Int32.ofInt x3) (s : gx_S) (σ : fx_S) (es : σ = gx s) (q : Int × gx_S) (g0 : fx_oc x0 6 = true), gm_64_9 n x0 x1 x2 x3 s = some q → fm_64_9 n x0 yx1 yx2 yx3 σ = some (Int32.ofInt q.1, gx q.2) := by
  intro n
  induction n with
  | zero =>
    intro x0 x1 yx1 e1 x2 yx2 e2 x3 yx3 e3 s σ es q g0 h
    rw [gm_64_9] at h
    exact fx_no h
  | succ n ih =>
    intro x0 x1 yx1 e1 x2 yx2 e2 x3 yx3 e3 s σ es q g0 h
    rw [gm_64_9] at h
    rw [fm_64_9]
    obtain ⟨z1, h⟩ := fx_gd h
    obtain ⟨z2, h⟩ := fx_gd h
    by_cases c3 : x1 ≤ x3
    · rw [if_pos c3] at h
      refine gb_t ((gc_le e1 e3 z2 z1).mpr c3) ?_
      have h := Option.some.inj h
      subst h
      exact gret e2 es
    · rw [if_neg c3] at h
      refine gb_f (fun q => c3 ((gc_le e1 e3 z2 z1).mp q)) ?_
      obtain ⟨q5, w4, h⟩ := fx_bd h
      refine gb_bind (gf_60 kg_0 e3 es w4) ?_
      obtain ⟨q7, w6, h⟩ := fx_bd h
      refine gb_bind (gf_60 kg_1 e3 (rfl : _ = gx q5.2) w6) ?_
      obtain ⟨z8, h⟩ := fx_gd h
      obtain ⟨z9, h⟩ := fx_gd h
      by_cases c10 : q5.1 = q7.1
      · rw [if_pos c10] at h
        refine gb_t ((gc_eq (gr q5.1) (gr q7.1) z8 z9).mpr c10) ?_
        exact gf_64_32 ih _ _ _ e1 _ _ e2 _ _ e3 _ _ (rfl : _ = gx q7.2) _ g0 h
      · rw [if_neg c10] at h
        refine gb_f (fun q => c10 ((gc_eq (gr q5.1) (gr q7.1) z8 z9).mp q)) ?_
        exact gf_64_32 ih _ _ _ e1 _ _ (ga_add e2 kg_1) _ _ e3 _ _ (rfl : _ = gx q7.2) _ g0 h
def gm_64 (x0 : Nat) (s : gx_S) : Option (Int × gx_S) :=
  if fx_oc x0 6 = true then (
  (gm_58 x0 s).bind fun q14 =>
  gm_64_9 100000 x0 q14.1 0 0 q14.2) else none
theorem gf_64 {x0 : Nat} {s : gx_S} {σ : fx_S} (es : σ = gx s) {q : Int × gx_S} (h : gm_64 x0 s = some q) : fm_64 x0 σ = some (Int32.ofInt q.1, gx q.2) := by
  unfold gm_64 at h
  unfold fm_64
  obtain ⟨gg, h⟩ := fx_gd h
  refine gb_t gg ?_
  have g0 := gg
  obtain ⟨q14, w13, h⟩ := fx_bd h
  refine gb_bind (gf_58 es w13) ?_
  exact gf_64_9 100000 _ _ _ (gr q14.1) _ _ kg_0 _ _ kg_0 _ _ (rfl : _ = gx q14.2) _ g0 h

/-! ZoneShares$State.metBy(I)I -/
def gm_65_39 (k_10 : Nat → Int → Int → Int → Int → gx_S → Option (Int × gx_S)) (x0 : Nat) (x1 : Int) (x2 : Int) (x3 : Int) (x4 : Int) (s : gx_S) : Option (Int × gx_S) :=
  k_10 x0 x1 x2 x3 (x4 + 1) s
theorem gf_65_39 {kf_10 : Nat → Int32 → Int32 → Int32 → Int32 → fx_S → Option (Int32 × fx_S)} {kg_10 : Nat → Int → Int → Int → Int → gx_S → Option (Int × gx_S)} (hk_10 : ∀ (x0 : Nat) (x1 : Int) (yx1 : Int32) (e1 : yx1 = Int32.ofInt x1) (x2 : Int) (yx2 : Int32) (e2 : yx2 = Int32.ofInt x2) (x3 : Int) (yx3 : Int32) (e3 : yx3 = Int32.ofInt x3) (x4 : Int) (yx4 : Int32) (e4 : yx4 = Int32.ofInt x4) (s : gx_S) (σ : fx_S) (es : σ = gx s) (q : Int × gx_S) (g0 : fx_oc x0 6 = true), kg_10 x0 x1 x2 x3 x4 s = some q → kf_10 x0 yx1 yx2 yx3 yx4 σ = some (Int32.ofInt q.1, gx q.2)) (x0 : Nat) (x1 : Int) (yx1 : Int32) (e1 : yx1 = Int32.ofInt x1) (x2 : Int) (yx2 : Int32) (e2 : yx2 = Int32.ofInt x2) (x3 : Int) (yx3 : Int32) (e3 : yx3 = Int32.ofInt x3) (x4 : Int) (yx4 : Int32) (e4 : yx4 = Int32.ofInt x4) (s : gx_S) (σ : fx_S) (es : σ = gx s) (q : Int × gx_S) (g0 : fx_oc x0 6 = true) (h : gm_65_39 kg_10 x0 x1 x2 x3 x4 s = some q) : fm_65_39 kf_10 x0 yx1 yx2 yx3 yx4 σ = some (Int32.ofInt q.1, gx q.2) := by
  unfold gm_65_39 at h
  unfold fm_65_39
  exact hk_10 _ _ _ e1 _ _ e2 _ _ e3 _ _ (ga_add e4 kg_1) _ _ es _ g0 h
def gm_65_10 : Nat → Nat → Int → Int → Int → Int → gx_S → Option (Int × gx_S)
  | 0, _, _, _, _, _, _ => none
  | n + 1, x0, x1, x2, x3, x4, s =>
    if (-2147483648 ≤ x4 ∧ x4 ≤ 2147483647) then (
    if (-2147483648 ≤ x2 ∧ x2 ≤ 2147483647) then (
    if x2 ≤ x4 then (
      some (x3, s)) else (
      (gm_60 x0 0 x4 s).bind fun q5 =>
      if (-2147483648 ≤ q5.1 ∧ q5.1 ≤ 2147483647) then (
      if (-2147483648 ≤ x1 ∧ x1 ≤ 2147483647) then (
      if ¬ q5.1 = x1 then (
        gm_65_39 (gm_65_10 n) x0 x1 x2 x3 x4 q5.2) else (
        (gm_60 x0 1 x4 q5.2).bind fun q10 =>
        gm_65_39 (gm_65_10 n) x0 x1 x2 (((Int32.ofInt x3 ||| Int32.ofInt (((Int32.ofInt 1 <<< (Int32.ofInt q10.1 &&& 31))).toInt))).toInt) x4 q10.2)) else none) else none)) else none) else none
theorem gf_65_10 : ∀ (n : Nat) (x0 : Nat) (x1 : Int) (yx1 : Int32) (e1 : yx1 = Int32.ofInt x1) (x2 : Int) (yx2 : Int32) (e2 : yx2 = Int32.ofInt x2) (x3 : Int) (yx3 : Int32) (e3 : yx3 = Int32.ofInt x3) (x4 : Int) (yx4 : Int32) (e4 : yx4 = Int32.ofInt x4) (s : gx_S) (σ : fx_S) (es : σ = gx s) (q : Int × gx_S) (g0 : fx_oc x0 6 = true), gm_65_10 n x0 x1 x2 x3 x4 s = some q → fm_65_10 n x0 yx1 yx2 yx3 yx4 σ = some (Int32.ofInt q.1, gx q.2) := by
  intro n
  induction n with
  | zero =>
    intro x0 x1 yx1 e1 x2 yx2 e2 x3 yx3 e3 x4 yx4 e4 s σ es q g0 h
    rw [gm_65_10] at h
    exact fx_no h
  | succ n ih =>
    intro x0 x1 yx1 e1 x2 yx2 e2 x3 yx3 e3 x4 yx4 e4 s σ es q g0 h
    rw [gm_65_10] at h
    rw [fm_65_10]
    obtain ⟨z1, h⟩ := fx_gd h
    obtain ⟨z2, h⟩ := fx_gd h
    by_cases c3 : x2 ≤ x4
    · rw [if_pos c3] at h
      refine gb_t ((gc_le e2 e4 z2 z1).mpr c3) ?_
      have h := Option.some.inj h
      subst h
      exact gret e3 es
    · rw [if_neg c3] at h
      refine gb_f (fun q => c3 ((gc_le e2 e4 z2 z1).mp q)) ?_
      obtain ⟨q5, w4, h⟩ := fx_bd h
      refine gb_bind (gf_60 kg_0 e4 es w4) ?_
      obtain ⟨z6, h⟩ := fx_gd h
      obtain ⟨z7, h⟩ := fx_gd h
      by_cases c8 : ¬ q5.1 = x1
      · rw [if_pos c8] at h
        refine gb_t ((gc_ne (gr q5.1) e1 z6 z7).mpr c8) ?_
        exact gf_65_39 ih _ _ _ e1 _ _ e2 _ _ e3 _ _ e4 _ _ (rfl : _ = gx q5.2) _ g0 h
      · rw [if_neg c8] at h
        refine gb_f (fun q => c8 ((gc_ne (gr q5.1) e1 z6 z7).mp q)) ?_
        obtain ⟨q10, w9, h⟩ := fx_bd h
        refine gb_bind (gf_60 kg_1 e4 (rfl : _ = gx q5.2) w9) ?_
        exact gf_65_39 ih _ _ _ e1 _ _ e2 _ _ (ga_o2 (f := (fun a b => (a ||| b))) e3 (ga_o2 (f := (fun a b => (a <<< (b &&& 31)))) kg_1 (gr q10.1))) _ _ e4 _ _ (rfl : _ = gx q10.2) _ g0 h
def gm_65 (x0 : Nat) (x1 : Int) (s : gx_S) : Option (Int × gx_S) :=
  if fx_oc x0 6 = true then (
  (gm_58 x0 s).bind fun q14 =>
  gm_65_10 100000 x0 x1 q14.1 0 0 q14.2) else none
theorem gf_65 {x0 : Nat} {x1 : Int} {yx1 : Int32} (e1 : yx1 = Int32.ofInt x1) {s : gx_S} {σ : fx_S} (es : σ = gx s) {q : Int × gx_S} (h : gm_65 x0 x1 s = some q) : fm_65 x0 yx1 σ = some (Int32.ofInt q.1, gx q.2) := by
  unfold gm_65 at h
  unfold fm_65
  obtain ⟨gg, h⟩ := fx_gd h
  refine gb_t gg ?_
  have g0 := gg
  obtain ⟨q14, w13, h⟩ := fx_bd h
  refine gb_bind (gf_58 es w13) ?_
  exact gf_65_10 100000 _ _ _ e1 _ _ (gr q14.1) _ _ kg_0 _ _ kg_0 _ _ (rfl : _ = gx q14.2) _ g0 h

/-! ZoneShares$State.toldOf(I)I -/
def gm_66_4 : Nat → Nat → Int → Int → Int → gx_S → Option (Int × gx_S)
  | 0, _, _, _, _, _ => none
  | n + 1, x0, x1, x2, x3, s =>
    if (-2147483648 ≤ x3 ∧ x3 ≤ 2147483647) then (
    if 9 ≤ x3 then (
      some (x2, s)) else (
      if 0 ≤ ((x1 * 9) + x3) ∧ ((x1 * 9) + x3) < 27 then (
      gm_66_4 n x0 x1 (x2 + (s.1 (x0 + 2) (((x1 * 9) + x3)).toNat)) (x3 + 1) s) else none)) else none
theorem gf_66_4 : ∀ (n : Nat) (x0 : Nat) (x1 : Int) (yx1 : Int32) (e1 : yx1 = Int32.ofInt x1) (x2 : Int) (yx2 : Int32) (e2 : yx2 = Int32.ofInt x2) (x3 : Int) (yx3 : Int32) (e3 : yx3 = Int32.ofInt x3) (s : gx_S) (σ : fx_S) (es : σ = gx s) (q : Int × gx_S) (g0 : fx_oc x0 6 = true), gm_66_4 n x0 x1 x2 x3 s = some q → fm_66_4 n x0 yx1 yx2 yx3 σ = some (Int32.ofInt q.1, gx q.2) := by
  intro n
  induction n with
  | zero =>
    intro x0 x1 yx1 e1 x2 yx2 e2 x3 yx3 e3 s σ es q g0 h
    rw [gm_66_4] at h
    exact fx_no h
  | succ n ih =>
    intro x0 x1 yx1 e1 x2 yx2 e2 x3 yx3 e3 s σ es q g0 h
    rw [gm_66_4] at h
    rw [fm_66_4]
    obtain ⟨z1, h⟩ := fx_gd h
    by_cases c2 : 9 ≤ x3
    · rw [if_pos c2] at h
      refine gb_t ((gc_le kg_9 e3 (by decide) z1).mpr c2) ?_
      have h := Option.some.inj h
      subst h
      exact gret e2 es
    · rw [if_neg c2] at h
      refine gb_f (fun q => c2 ((gc_le kg_9 e3 (by decide) z1).mp q)) ?_
      obtain ⟨z5, h⟩ := fx_gd h
      refine gb_bind (gl_ld es (ga_add (ga_mul e1 kg_9) e3) (ga_6_1 g0) z5) ?_
      exact ih _ _ _ e1 _ _ (ga_add e2 (gr (s.1 (x0 + 2) (((x1 * 9) + x3)).toNat))) _ _ (ga_add e3 kg_1) _ _ es _ g0 h
def gm_66 (x0 : Nat) (x1 : Int) (s : gx_S) : Option (Int × gx_S) :=
  if fx_oc x0 6 = true then (
  gm_66_4 100000 x0 x1 0 0 s) else none
theorem gf_66 {x0 : Nat} {x1 : Int} {yx1 : Int32} (e1 : yx1 = Int32.ofInt x1) {s : gx_S} {σ : fx_S} (es : σ = gx s) {q : Int × gx_S} (h : gm_66 x0 x1 s = some q) : fm_66 x0 yx1 σ = some (Int32.ofInt q.1, gx q.2) := by
  unfold gm_66 at h
  unfold fm_66
  obtain ⟨gg, h⟩ := fx_gd h
  refine gb_t gg ?_
  have g0 := gg
  exact gf_66_4 100000 _ _ _ e1 _ _ kg_0 _ _ kg_0 _ _ es _ g0 h

/-! ZoneShares$Table.add(IIII)V -/
def gm_69 (x0 : Nat) (x1 : Int) (x2 : Int) (x3 : Int) (x4 : Int) (s : gx_S) : Option (gx_S) :=
  if fx_oc x0 7 = true then (
  if 0 ≤ ((x1 * 9) + x2) ∧ ((x1 * 9) + x2) < 72 then (
  some (gw1 (gw1 s (x0 + 4) (((x1 * 9) + x2)).toNat ((s.1 (x0 + 4) (((x1 * 9) + x2)).toNat) + x3)) (x0 + 5) (((x1 * 9) + x2)).toNat (((gw1 s (x0 + 4) (((x1 * 9) + x2)).toNat ((s.1 (x0 + 4) (((x1 * 9) + x2)).toNat) + x3)).1 (x0 + 5) (((x1 * 9) + x2)).toNat) + x4))) else none) else none
theorem gf_69 {x0 : Nat} {x1 : Int} {yx1 : Int32} (e1 : yx1 = Int32.ofInt x1) {x2 : Int} {yx2 : Int32} (e2 : yx2 = Int32.ofInt x2) {x3 : Int} {yx3 : Int32} (e3 : yx3 = Int32.ofInt x3) {x4 : Int} {yx4 : Int32} (e4 : yx4 = Int32.ofInt x4) {s : gx_S} {σ : fx_S} (es : σ = gx s) {q : gx_S} (h : gm_69 x0 x1 x2 x3 x4 s = some q) : fm_69 x0 yx1 yx2 yx3 yx4 σ = some (gx q) := by
  unfold gm_69 at h
  unfold fm_69
  obtain ⟨gg, h⟩ := fx_gd h
  refine gb_t gg ?_
  have g0 := gg
  obtain ⟨z12, h⟩ := fx_gd h
  refine gb_bind (gl_ld es (ga_add (ga_mul e1 kg_9) e2) (ga_7_3 g0) z12) ?_
  refine gb_bind (gl_st es (ga_add (ga_mul e1 kg_9) e2) (ga_add (gr (s.1 (x0 + 4) (((x1 * 9) + x2)).toNat)) e3) (ga_7_3 g0) z12) ?_
  refine gb_bind (gl_ld (rfl : _ = gx (gw1 s (x0 + 4) (((x1 * 9) + x2)).toNat ((s.1 (x0 + 4) (((x1 * 9) + x2)).toNat) + x3))) (ga_add (ga_mul e1 kg_9) e2) (ga_7_4 g0) z12) ?_
  refine gb_bind (gl_st (rfl : _ = gx (gw1 s (x0 + 4) (((x1 * 9) + x2)).toNat ((s.1 (x0 + 4) (((x1 * 9) + x2)).toNat) + x3))) (ga_add (ga_mul e1 kg_9) e2) (ga_add (gr ((gw1 s (x0 + 4) (((x1 * 9) + x2)).toNat ((s.1 (x0 + 4) (((x1 * 9) + x2)).toNat) + x3)).1 (x0 + 5) (((x1 * 9) + x2)).toNat)) e4) (ga_7_4 g0) z12) ?_
  have h := Option.some.inj h
  subst h
  exact gretv (rfl : _ = gx (gw1 (gw1 s (x0 + 4) (((x1 * 9) + x2)).toNat ((s.1 (x0 + 4) (((x1 * 9) + x2)).toNat) + x3)) (x0 + 5) (((x1 * 9) + x2)).toNat (((gw1 s (x0 + 4) (((x1 * 9) + x2)).toNat ((s.1 (x0 + 4) (((x1 * 9) + x2)).toNat) + x3)).1 (x0 + 5) (((x1 * 9) + x2)).toNat) + x4)))

/-! ZoneShares$Table.cutRow(II)V -/
def gm_71_72 (k_5 : Nat → Int → Int → Int → gx_S → Option (gx_S)) (x0 : Nat) (x1 : Int) (x2 : Int) (x3 : Int) (s0 : Nat) (s1 : Int) (s2 : Int) (s : gx_S) : Option (gx_S) :=
  if gx_p s0 = true then (
  if 0 ≤ s1 ∧ s1 < ((fx_sh s0).2 : Int) then (
  if 0 ≤ x3 ∧ x3 < 72 then (
  k_5 x0 x1 x2 (x3 + 1) (gw1 (gw1 s s0 (s1).toNat s2) (x0 + 8) (x3).toNat ((gw1 s s0 (s1).toNat s2).1 (x0 + 6) (x3).toNat))) else none) else none) else none
theorem gf_71_72 {kf_5 : Nat → Int32 → Int32 → Int32 → fx_S → Option (fx_S)} {kg_5 : Nat → Int → Int → Int → gx_S → Option (gx_S)} (hk_5 : ∀ (x0 : Nat) (x1 : Int) (yx1 : Int32) (e1 : yx1 = Int32.ofInt x1) (x2 : Int) (yx2 : Int32) (e2 : yx2 = Int32.ofInt x2) (x3 : Int) (yx3 : Int32) (e3 : yx3 = Int32.ofInt x3) (s : gx_S) (σ : fx_S) (es : σ = gx s) (q : gx_S) (g0 : fx_oc x0 7 = true), kg_5 x0 x1 x2 x3 s = some q → kf_5 x0 yx1 yx2 yx3 σ = some (gx q)) (x0 : Nat) (x1 : Int) (yx1 : Int32) (e1 : yx1 = Int32.ofInt x1) (x2 : Int) (yx2 : Int32) (e2 : yx2 = Int32.ofInt x2) (x3 : Int) (yx3 : Int32) (e3 : yx3 = Int32.ofInt x3) (s0 : Nat) (s1 : Int) (ys1 : Int32) (es1 : ys1 = Int32.ofInt s1) (s2 : Int) (ys2 : Int32) (es2 : ys2 = Int32.ofInt s2) (s : gx_S) (σ : fx_S) (es : σ = gx s) (q : gx_S) (g0 : fx_oc x0 7 = true) (h : gm_71_72 kg_5 x0 x1 x2 x3 s0 s1 s2 s = some q) : fm_71_72 kf_5 x0 yx1 yx2 yx3 s0 ys1 ys2 σ = some (gx q) := by
  unfold gm_71_72 at h
  unfold fm_71_72
  obtain ⟨z3, h⟩ := fx_gd h
  obtain ⟨z4, h⟩ := fx_gd h
  refine gb_bind (gl_st es es1 es2 z3 z4) ?_
  obtain ⟨z7, h⟩ := fx_gd h
  refine gb_bind (gl_ld (rfl : _ = gx (gw1 s s0 (s1).toNat s2)) e3 (ga_7_5 g0) z7) ?_
  refine gb_bind (gl_st (rfl : _ = gx (gw1 s s0 (s1).toNat s2)) e3 (gr ((gw1 s s0 (s1).toNat s2).1 (x0 + 6) (x3).toNat)) (ga_7_7 g0) z7) ?_
  exact hk_5 _ _ _ e1 _ _ e2 _ _ (ga_add e3 kg_1) _ _ (rfl : _ = gx (gw1 (gw1 s s0 (s1).toNat s2) (x0 + 8) (x3).toNat ((gw1 s s0 (s1).toNat s2).1 (x0 + 6) (x3).toNat))) _ g0 h
def gm_71_52 (k_5 : Nat → Int → Int → Int → gx_S → Option (gx_S)) (x0 : Nat) (x1 : Int) (x2 : Int) (x3 : Int) (x4 : Int) (s0 : Nat) (s1 : Int) (s2 : Int) (s : gx_S) : Option (gx_S) :=
  if gx_p s0 = true then (
  if 0 ≤ s1 ∧ s1 < ((fx_sh s0).2 : Int) then (
  if (-2147483648 ≤ x2 ∧ x2 ≤ 2147483647) then (
  if x2 ≤ 0 then (
    gm_71_72 k_5 x0 x1 x2 x3 (x0 + 7) x3 0 (gw1 s s0 (s1).toNat s2)) else (
    if 0 ≤ x4 ∧ x4 ≤ 9223372036854775807 ∧ 0 < x2 ∧ x2 ≤ 9223372036854775807 then (
    gm_71_72 k_5 x0 x1 x2 x3 (x0 + 7) x3 (x4 % x2) (gw1 s s0 (s1).toNat s2)) else none)) else none) else none) else none
theorem gf_71_52 {kf_5 : Nat → Int32 → Int32 → Int32 → fx_S → Option (fx_S)} {kg_5 : Nat → Int → Int → Int → gx_S → Option (gx_S)} (hk_5 : ∀ (x0 : Nat) (x1 : Int) (yx1 : Int32) (e1 : yx1 = Int32.ofInt x1) (x2 : Int) (yx2 : Int32) (e2 : yx2 = Int32.ofInt x2) (x3 : Int) (yx3 : Int32) (e3 : yx3 = Int32.ofInt x3) (s : gx_S) (σ : fx_S) (es : σ = gx s) (q : gx_S) (g0 : fx_oc x0 7 = true), kg_5 x0 x1 x2 x3 s = some q → kf_5 x0 yx1 yx2 yx3 σ = some (gx q)) (x0 : Nat) (x1 : Int) (yx1 : Int32) (e1 : yx1 = Int32.ofInt x1) (x2 : Int) (yx2 : Int32) (e2 : yx2 = Int32.ofInt x2) (x3 : Int) (yx3 : Int32) (e3 : yx3 = Int32.ofInt x3) (x4 : Int) (yx4 : Int64) (e4 : yx4 = Int64.ofInt x4) (s0 : Nat) (s1 : Int) (ys1 : Int32) (es1 : ys1 = Int32.ofInt s1) (s2 : Int) (ys2 : Int32) (es2 : ys2 = Int32.ofInt s2) (s : gx_S) (σ : fx_S) (es : σ = gx s) (q : gx_S) (g0 : fx_oc x0 7 = true) (h : gm_71_52 kg_5 x0 x1 x2 x3 x4 s0 s1 s2 s = some q) : fm_71_52 kf_5 x0 yx1 yx2 yx3 yx4 s0 ys1 ys2 σ = some (gx q) := by
  unfold gm_71_52 at h
  unfold fm_71_52
  obtain ⟨z3, h⟩ := fx_gd h
  obtain ⟨z4, h⟩ := fx_gd h
  refine gb_bind (gl_st es es1 es2 z3 z4) ?_
  obtain ⟨z5, h⟩ := fx_gd h
  by_cases c6 : x2 ≤ 0
  · rw [if_pos c6] at h
    refine gb_t ((gc_le e2 kg_0 z5 (by decide)).mpr c6) ?_
    exact gf_71_72 hk_5 _ _ _ e1 _ _ e2 _ _ e3 _ _ _ e3 _ _ kg_0 _ _ (rfl : _ = gx (gw1 s s0 (s1).toNat s2)) _ g0 h
  · rw [if_neg c6] at h
    refine gb_f (fun q => c6 ((gc_le e2 kg_0 z5 (by decide)).mp q)) ?_
    obtain ⟨z7, h⟩ := fx_gd h
    refine gb_t (gcl_nz (ga_i2l e2 z5) z7) ?_
    exact gf_71_72 hk_5 _ _ _ e1 _ _ e2 _ _ e3 _ _ _ e3 _ _ (ga_l2i (gal_rem e4 (ga_i2l e2 z5) z7)) _ _ (rfl : _ = gx (gw1 s s0 (s1).toNat s2)) _ g0 h
def gm_71_5 : Nat → Nat → Int → Int → Int → gx_S → Option (gx_S)
  | 0, _, _, _, _, _ => none
  | n + 1, x0, x1, x2, x3, s =>
    if (-2147483648 ≤ x3 ∧ x3 ≤ 2147483647) then (
    if (-2147483648 ≤ ((x1 * 9) + 9) ∧ ((x1 * 9) + 9) ≤ 2147483647) then (
    if ((x1 * 9) + 9) ≤ x3 then (
      some s) else (
      if 0 ≤ x1 ∧ x1 < 8 then (
      if (-2147483648 ≤ (s.1 (x0 + 1) (x1).toNat) ∧ (s.1 (x0 + 1) (x1).toNat) ≤ 2147483647) then (
      if 0 ≤ x3 ∧ x3 < 72 then (
      if (-2147483648 ≤ (s.1 (x0 + 4) (x3).toNat) ∧ (s.1 (x0 + 4) (x3).toNat) ≤ 2147483647) then (
      if (-2147483648 ≤ x2 ∧ x2 ≤ 2147483647) then (
      if x2 ≤ 0 then (
        gm_71_52 (gm_71_5 n) x0 x1 x2 x3 ((s.1 (x0 + 1) (x1).toNat) * (s.1 (x0 + 4) (x3).toNat)) (x0 + 6) x3 0 s) else (
        if 0 ≤ ((s.1 (x0 + 1) (x1).toNat) * (s.1 (x0 + 4) (x3).toNat)) ∧ ((s.1 (x0 + 1) (x1).toNat) * (s.1 (x0 + 4) (x3).toNat)) ≤ 9223372036854775807 ∧ 0 < x2 ∧ x2 ≤ 9223372036854775807 then (
        gm_71_52 (gm_71_5 n) x0 x1 x2 x3 ((s.1 (x0 + 1) (x1).toNat) * (s.1 (x0 + 4) (x3).toNat)) (x0 + 6) x3 (((s.1 (x0 + 1) (x1).toNat) * (s.1 (x0 + 4) (x3).toNat)) / x2) s) else none)) else none) else none) else none) else none) else none)) else none) else none
theorem gf_71_5 : ∀ (n : Nat) (x0 : Nat) (x1 : Int) (yx1 : Int32) (e1 : yx1 = Int32.ofInt x1) (x2 : Int) (yx2 : Int32) (e2 : yx2 = Int32.ofInt x2) (x3 : Int) (yx3 : Int32) (e3 : yx3 = Int32.ofInt x3) (s : gx_S) (σ : fx_S) (es : σ = gx s) (q : gx_S) (g0 : fx_oc x0 7 = true), gm_71_5 n x0 x1 x2 x3 s = some q → fm_71_5 n x0 yx1 yx2 yx3 σ = some (gx q) := by
  intro n
  induction n with
  | zero =>
    intro x0 x1 yx1 e1 x2 yx2 e2 x3 yx3 e3 s σ es q g0 h
    rw [gm_71_5] at h
    exact fx_no h
  | succ n ih =>
    intro x0 x1 yx1 e1 x2 yx2 e2 x3 yx3 e3 s σ es q g0 h
    rw [gm_71_5] at h
    rw [fm_71_5]
    obtain ⟨z1, h⟩ := fx_gd h
    obtain ⟨z2, h⟩ := fx_gd h
    by_cases c3 : ((x1 * 9) + 9) ≤ x3
    · rw [if_pos c3] at h
      refine gb_t ((gc_le (ga_add (ga_mul e1 kg_9) kg_9) e3 z2 z1).mpr c3) ?_
      have h := Option.some.inj h
      subst h
      exact gretv es
    · rw [if_neg c3] at h
      refine gb_f (fun q => c3 ((gc_le (ga_add (ga_mul e1 kg_9) kg_9) e3 z2 z1).mp q)) ?_
      obtain ⟨z6, h⟩ := fx_gd h
      refine gb_bind (gl_ld es e1 (ga_7_0 g0) z6) ?_
      obtain ⟨z7, h⟩ := fx_gd h
      obtain ⟨z10, h⟩ := fx_gd h
      refine gb_bind (gl_ld es e3 (ga_7_3 g0) z10) ?_
      obtain ⟨z11, h⟩ := fx_gd h
      obtain ⟨z12, h⟩ := fx_gd h
      by_cases c13 : x2 ≤ 0
      · rw [if_pos c13] at h
        refine gb_t ((gc_le e2 kg_0 z12 (by decide)).mpr c13) ?_
        exact gf_71_52 ih _ _ _ e1 _ _ e2 _ _ e3 _ _ (gal_mul (ga_i2l (gr (s.1 (x0 + 1) (x1).toNat)) z7) (ga_i2l (gr (s.1 (x0 + 4) (x3).toNat)) z11)) _ _ _ e3 _ _ kg_0 _ _ es _ g0 h
      · rw [if_neg c13] at h
        refine gb_f (fun q => c13 ((gc_le e2 kg_0 z12 (by decide)).mp q)) ?_
        obtain ⟨z14, h⟩ := fx_gd h
        refine gb_t (gcl_nz (ga_i2l e2 z12) z14) ?_
        exact gf_71_52 ih _ _ _ e1 _ _ e2 _ _ e3 _ _ (gal_mul (ga_i2l (gr (s.1 (x0 + 1) (x1).toNat)) z7) (ga_i2l (gr (s.1 (x0 + 4) (x3).toNat)) z11)) _ _ _ e3 _ _ (ga_l2i (gal_div (gal_mul (ga_i2l (gr (s.1 (x0 + 1) (x1).toNat)) z7) (ga_i2l (gr (s.1 (x0 + 4) (x3).toNat)) z11)) (ga_i2l e2 z12) z14)) _ _ es _ g0 h
def gm_71 (x0 : Nat) (x1 : Int) (x2 : Int) (s : gx_S) : Option (gx_S) :=
  if fx_oc x0 7 = true then (
  gm_71_5 100000 x0 x1 x2 (x1 * 9) s) else none
theorem gf_71 {x0 : Nat} {x1 : Int} {yx1 : Int32} (e1 : yx1 = Int32.ofInt x1) {x2 : Int} {yx2 : Int32} (e2 : yx2 = Int32.ofInt x2) {s : gx_S} {σ : fx_S} (es : σ = gx s) {q : gx_S} (h : gm_71 x0 x1 x2 s = some q) : fm_71 x0 yx1 yx2 σ = some (gx q) := by
  unfold gm_71 at h
  unfold fm_71
  obtain ⟨gg, h⟩ := fx_gd h
  refine gb_t gg ?_
  have g0 := gg
  exact gf_71_5 100000 _ _ _ e1 _ _ e2 _ _ (ga_mul e1 kg_9) _ _ es _ g0 h

/-! ZoneShares$Table.sum([II)I -/
def gm_72_4 : Nat → Nat → Int → Int → Int → gx_S → Option (Int × gx_S)
  | 0, _, _, _, _, _ => none
  | n + 1, x0, x1, x2, x3, s =>
    if (-2147483648 ≤ x3 ∧ x3 ≤ 2147483647) then (
    if 9 ≤ x3 then (
      some (x2, s)) else (
      if gx_p x0 = true then (
      if 0 ≤ ((x1 * 9) + x3) ∧ ((x1 * 9) + x3) < ((fx_sh x0).2 : Int) then (
      gm_72_4 n x0 x1 (x2 + (s.1 x0 (((x1 * 9) + x3)).toNat)) (x3 + 1) s) else none) else none)) else none
theorem gf_72_4 : ∀ (n : Nat) (x0 : Nat) (x1 : Int) (yx1 : Int32) (e1 : yx1 = Int32.ofInt x1) (x2 : Int) (yx2 : Int32) (e2 : yx2 = Int32.ofInt x2) (x3 : Int) (yx3 : Int32) (e3 : yx3 = Int32.ofInt x3) (s : gx_S) (σ : fx_S) (es : σ = gx s) (q : Int × gx_S), gm_72_4 n x0 x1 x2 x3 s = some q → fm_72_4 n x0 yx1 yx2 yx3 σ = some (Int32.ofInt q.1, gx q.2) := by
  intro n
  induction n with
  | zero =>
    intro x0 x1 yx1 e1 x2 yx2 e2 x3 yx3 e3 s σ es q  h
    rw [gm_72_4] at h
    exact fx_no h
  | succ n ih =>
    intro x0 x1 yx1 e1 x2 yx2 e2 x3 yx3 e3 s σ es q  h
    rw [gm_72_4] at h
    rw [fm_72_4]
    obtain ⟨z1, h⟩ := fx_gd h
    by_cases c2 : 9 ≤ x3
    · rw [if_pos c2] at h
      refine gb_t ((gc_le kg_9 e3 (by decide) z1).mpr c2) ?_
      have h := Option.some.inj h
      subst h
      exact gret e2 es
    · rw [if_neg c2] at h
      refine gb_f (fun q => c2 ((gc_le kg_9 e3 (by decide) z1).mp q)) ?_
      obtain ⟨z5, h⟩ := fx_gd h
      obtain ⟨z6, h⟩ := fx_gd h
      refine gb_bind (gl_ld es (ga_add (ga_mul e1 kg_9) e3) z5 z6) ?_
      exact ih _ _ _ e1 _ _ (ga_add e2 (gr (s.1 x0 (((x1 * 9) + x3)).toNat))) _ _ (ga_add e3 kg_1) _ _ es _ h
def gm_72 (x0 : Nat) (x1 : Int) (s : gx_S) : Option (Int × gx_S) :=
  gm_72_4 100000 x0 x1 0 0 s
theorem gf_72 {x0 : Nat} {x1 : Int} {yx1 : Int32} (e1 : yx1 = Int32.ofInt x1) {s : gx_S} {σ : fx_S} (es : σ = gx s) {q : Int × gx_S} (h : gm_72 x0 x1 s = some q) : fm_72 x0 yx1 σ = some (Int32.ofInt q.1, gx q.2) := by
  unfold gm_72 at h
  unfold fm_72
  exact gf_72_4 100000 _ _ _ e1 _ _ kg_0 _ _ kg_0 _ _ es _ h

/-! ZoneShares$Table.leftOver(I)I -/
def gm_73 (x0 : Nat) (x1 : Int) (s : gx_S) : Option (Int × gx_S) :=
  if fx_oc x0 7 = true then (
  if 0 ≤ x1 ∧ x1 < 8 then (
  if (-2147483648 ≤ (s.1 (x0 + 2) (x1).toNat) ∧ (s.1 (x0 + 2) (x1).toNat) ≤ 2147483647) then (
  if (s.1 (x0 + 2) (x1).toNat) ≤ 0 then (
    some (0, s)) else (
    (gm_72 (x0 + 6) x1 s).bind fun q18 =>
    some (((s.1 (x0 + 1) (x1).toNat) - q18.1), q18.2))) else none) else none) else none
theorem gf_73 {x0 : Nat} {x1 : Int} {yx1 : Int32} (e1 : yx1 = Int32.ofInt x1) {s : gx_S} {σ : fx_S} (es : σ = gx s) {q : Int × gx_S} (h : gm_73 x0 x1 s = some q) : fm_73 x0 yx1 σ = some (Int32.ofInt q.1, gx q.2) := by
  unfold gm_73 at h
  unfold fm_73
  obtain ⟨gg, h⟩ := fx_gd h
  refine gb_t gg ?_
  have g0 := gg
  obtain ⟨z12, h⟩ := fx_gd h
  refine gb_bind (gl_ld es e1 (ga_7_1 g0) z12) ?_
  obtain ⟨z13, h⟩ := fx_gd h
  by_cases c14 : (s.1 (x0 + 2) (x1).toNat) ≤ 0
  · rw [if_pos c14] at h
    refine gb_t ((gc_le (gr (s.1 (x0 + 2) (x1).toNat)) kg_0 z13 (by decide)).mpr c14) ?_
    have h := Option.some.inj h
    subst h
    exact gret kg_0 es
  · rw [if_neg c14] at h
    refine gb_f (fun q => c14 ((gc_le (gr (s.1 (x0 + 2) (x1).toNat)) kg_0 z13 (by decide)).mp q)) ?_
    refine gb_bind (gl_ld es e1 (ga_7_0 g0) z12) ?_
    obtain ⟨q18, w17, h⟩ := fx_bd h
    refine gb_bind (gf_72 e1 es w17) ?_
    have h := Option.some.inj h
    subst h
    exact gret (ga_sub (gr (s.1 (x0 + 1) (x1).toNat)) (gr q18.1)) (rfl : _ = gx q18.2)

/-! ZoneShares$Table.giveToGreatest(I)V -/
def gm_75_61 (k_10 : Nat → Int → Int → Int → Int → gx_S → Option (gx_S)) (x0 : Nat) (x1 : Int) (x2 : Int) (x3 : Int) (x4 : Int) (s : gx_S) : Option (gx_S) :=
  k_10 x0 x1 x2 x3 (x4 + 1) s
theorem gf_75_61 {kf_10 : Nat → Int32 → Int32 → Int32 → Int32 → fx_S → Option (fx_S)} {kg_10 : Nat → Int → Int → Int → Int → gx_S → Option (gx_S)} (hk_10 : ∀ (x0 : Nat) (x1 : Int) (yx1 : Int32) (e1 : yx1 = Int32.ofInt x1) (x2 : Int) (yx2 : Int32) (e2 : yx2 = Int32.ofInt x2) (x3 : Int) (yx3 : Int32) (e3 : yx3 = Int32.ofInt x3) (x4 : Int) (yx4 : Int32) (e4 : yx4 = Int32.ofInt x4) (s : gx_S) (σ : fx_S) (es : σ = gx s) (q : gx_S) (g0 : fx_oc x0 7 = true), kg_10 x0 x1 x2 x3 x4 s = some q → kf_10 x0 yx1 yx2 yx3 yx4 σ = some (gx q)) (x0 : Nat) (x1 : Int) (yx1 : Int32) (e1 : yx1 = Int32.ofInt x1) (x2 : Int) (yx2 : Int32) (e2 : yx2 = Int32.ofInt x2) (x3 : Int) (yx3 : Int32) (e3 : yx3 = Int32.ofInt x3) (x4 : Int) (yx4 : Int32) (e4 : yx4 = Int32.ofInt x4) (s : gx_S) (σ : fx_S) (es : σ = gx s) (q : gx_S) (g0 : fx_oc x0 7 = true) (h : gm_75_61 kg_10 x0 x1 x2 x3 x4 s = some q) : fm_75_61 kf_10 x0 yx1 yx2 yx3 yx4 σ = some (gx q) := by
  unfold gm_75_61 at h
  unfold fm_75_61
  exact hk_10 _ _ _ e1 _ _ e2 _ _ e3 _ _ (ga_add e4 kg_1) _ _ es _ g0 h
def gm_75_10 : Nat → Nat → Int → Int → Int → Int → gx_S → Option (gx_S)
  | 0, _, _, _, _, _, _ => none
  | n + 1, x0, x1, x2, x3, x4, s =>
    if (-2147483648 ≤ x4 ∧ x4 ≤ 2147483647) then (
    if (-2147483648 ≤ ((x1 * 9) + 9) ∧ ((x1 * 9) + 9) ≤ 2147483647) then (
    if ((x1 * 9) + 9) ≤ x4 then (
      if (-2147483648 ≤ x2 ∧ x2 ≤ 2147483647) then (
      if x2 = (-1) then (
        some s) else (
        if 0 ≤ x2 ∧ x2 < 72 then (
        some (gw1 s (x0 + 8) (x2).toNat ((s.1 (x0 + 8) (x2).toNat) + 1))) else none)) else none) else (
      if 0 ≤ x4 ∧ x4 < 72 then (
      if (-2147483648 ≤ (s.1 (x0 + 7) (x4).toNat) ∧ (s.1 (x0 + 7) (x4).toNat) ≤ 2147483647) then (
      if (-2147483648 ≤ x3 ∧ x3 ≤ 2147483647) then (
      if (s.1 (x0 + 7) (x4).toNat) ≤ x3 then (
        gm_75_61 (gm_75_10 n) x0 x1 x2 x3 x4 s) else (
        if (-2147483648 ≤ (s.1 (x0 + 8) (x4).toNat) ∧ (s.1 (x0 + 8) (x4).toNat) ≤ 2147483647) then (
        if (-2147483648 ≤ (s.1 (x0 + 6) (x4).toNat) ∧ (s.1 (x0 + 6) (x4).toNat) ≤ 2147483647) then (
        if ¬ (s.1 (x0 + 8) (x4).toNat) = (s.1 (x0 + 6) (x4).toNat) then (
          gm_75_61 (gm_75_10 n) x0 x1 x2 x3 x4 s) else (
          gm_75_61 (gm_75_10 n) x0 x1 x4 (s.1 (x0 + 7) (x4).toNat) x4 s)) else none) else none)) else none) else none) else none)) else none) else none
theorem gf_75_10 : ∀ (n : Nat) (x0 : Nat) (x1 : Int) (yx1 : Int32) (e1 : yx1 = Int32.ofInt x1) (x2 : Int) (yx2 : Int32) (e2 : yx2 = Int32.ofInt x2) (x3 : Int) (yx3 : Int32) (e3 : yx3 = Int32.ofInt x3) (x4 : Int) (yx4 : Int32) (e4 : yx4 = Int32.ofInt x4) (s : gx_S) (σ : fx_S) (es : σ = gx s) (q : gx_S) (g0 : fx_oc x0 7 = true), gm_75_10 n x0 x1 x2 x3 x4 s = some q → fm_75_10 n x0 yx1 yx2 yx3 yx4 σ = some (gx q) := by
  intro n
  induction n with
  | zero =>
    intro x0 x1 yx1 e1 x2 yx2 e2 x3 yx3 e3 x4 yx4 e4 s σ es q g0 h
    rw [gm_75_10] at h
    exact fx_no h
  | succ n ih =>
    intro x0 x1 yx1 e1 x2 yx2 e2 x3 yx3 e3 x4 yx4 e4 s σ es q g0 h
    rw [gm_75_10] at h
    rw [fm_75_10]
    obtain ⟨z1, h⟩ := fx_gd h
    obtain ⟨z2, h⟩ := fx_gd h
    by_cases c3 : ((x1 * 9) + 9) ≤ x4
    · rw [if_pos c3] at h
      refine gb_t ((gc_le (ga_add (ga_mul e1 kg_9) kg_9) e4 z2 z1).mpr c3) ?_
      obtain ⟨z4, h⟩ := fx_gd h
      by_cases c5 : x2 = (-1)
      · rw [if_pos c5] at h
        refine gb_t ((gc_eq e2 kg_m1 z4 (by decide)).mpr c5) ?_
        have h := Option.some.inj h
        subst h
        exact gretv es
      · rw [if_neg c5] at h
        refine gb_f (fun q => c5 ((gc_eq e2 kg_m1 z4 (by decide)).mp q)) ?_
        obtain ⟨z8, h⟩ := fx_gd h
        refine gb_bind (gl_ld es e2 (ga_7_7 g0) z8) ?_
        refine gb_bind (gl_st es e2 (ga_add (gr (s.1 (x0 + 8) (x2).toNat)) kg_1) (ga_7_7 g0) z8) ?_
        have h := Option.some.inj h
        subst h
        exact gretv (rfl : _ = gx (gw1 s (x0 + 8) (x2).toNat ((s.1 (x0 + 8) (x2).toNat) + 1)))
    · rw [if_neg c3] at h
      refine gb_f (fun q => c3 ((gc_le (ga_add (ga_mul e1 kg_9) kg_9) e4 z2 z1).mp q)) ?_
      obtain ⟨z13, h⟩ := fx_gd h
      refine gb_bind (gl_ld es e4 (ga_7_6 g0) z13) ?_
      obtain ⟨z14, h⟩ := fx_gd h
      obtain ⟨z15, h⟩ := fx_gd h
      by_cases c16 : (s.1 (x0 + 7) (x4).toNat) ≤ x3
      · rw [if_pos c16] at h
        refine gb_t ((gc_le (gr (s.1 (x0 + 7) (x4).toNat)) e3 z14 z15).mpr c16) ?_
        exact gf_75_61 ih _ _ _ e1 _ _ e2 _ _ e3 _ _ e4 _ _ es _ g0 h
      · rw [if_neg c16] at h
        refine gb_f (fun q => c16 ((gc_le (gr (s.1 (x0 + 7) (x4).toNat)) e3 z14 z15).mp q)) ?_
        refine gb_bind (gl_ld es e4 (ga_7_7 g0) z13) ?_
        refine gb_bind (gl_ld es e4 (ga_7_5 g0) z13) ?_
        obtain ⟨z21, h⟩ := fx_gd h
        obtain ⟨z22, h⟩ := fx_gd h
        by_cases c23 : ¬ (s.1 (x0 + 8) (x4).toNat) = (s.1 (x0 + 6) (x4).toNat)
        · rw [if_pos c23] at h
          refine gb_t ((gc_ne (gr (s.1 (x0 + 8) (x4).toNat)) (gr (s.1 (x0 + 6) (x4).toNat)) z21 z22).mpr c23) ?_
          exact gf_75_61 ih _ _ _ e1 _ _ e2 _ _ e3 _ _ e4 _ _ es _ g0 h
        · rw [if_neg c23] at h
          refine gb_f (fun q => c23 ((gc_ne (gr (s.1 (x0 + 8) (x4).toNat)) (gr (s.1 (x0 + 6) (x4).toNat)) z21 z22).mp q)) ?_
          refine gb_bind (gl_ld es e4 (ga_7_6 g0) z13) ?_
          exact gf_75_61 ih _ _ _ e1 _ _ e4 _ _ (gr (s.1 (x0 + 7) (x4).toNat)) _ _ e4 _ _ es _ g0 h
def gm_75 (x0 : Nat) (x1 : Int) (s : gx_S) : Option (gx_S) :=
  if fx_oc x0 7 = true then (
  gm_75_10 100000 x0 x1 (-1) 0 (x1 * 9) s) else none
theorem gf_75 {x0 : Nat} {x1 : Int} {yx1 : Int32} (e1 : yx1 = Int32.ofInt x1) {s : gx_S} {σ : fx_S} (es : σ = gx s) {q : gx_S} (h : gm_75 x0 x1 s = some q) : fm_75 x0 yx1 σ = some (gx q) := by
  unfold gm_75 at h
  unfold fm_75
  obtain ⟨gg, h⟩ := fx_gd h
  refine gb_t gg ?_
  have g0 := gg
  exact gf_75_10 100000 _ _ _ e1 _ _ kg_m1 _ _ kg_0 _ _ (ga_mul e1 kg_9) _ _ es _ g0 h

/-! ZoneShares$Table.column(I)I -/
def gm_76_4 : Nat → Nat → Int → Int → Int → gx_S → Option (Int × gx_S)
  | 0, _, _, _, _, _ => none
  | n + 1, x0, x1, x2, x3, s =>
    if (-2147483648 ≤ x3 ∧ x3 ≤ 2147483647) then (
    if 8 ≤ x3 then (
      some (x2, s)) else (
      if 0 ≤ ((x3 * 9) + x1) ∧ ((x3 * 9) + x1) < 72 then (
      gm_76_4 n x0 x1 (x2 + (s.1 (x0 + 8) (((x3 * 9) + x1)).toNat)) (x3 + 1) s) else none)) else none
theorem gf_76_4 : ∀ (n : Nat) (x0 : Nat) (x1 : Int) (yx1 : Int32) (e1 : yx1 = Int32.ofInt x1) (x2 : Int) (yx2 : Int32) (e2 : yx2 = Int32.ofInt x2) (x3 : Int) (yx3 : Int32) (e3 : yx3 = Int32.ofInt x3) (s : gx_S) (σ : fx_S) (es : σ = gx s) (q : Int × gx_S) (g0 : fx_oc x0 7 = true), gm_76_4 n x0 x1 x2 x3 s = some q → fm_76_4 n x0 yx1 yx2 yx3 σ = some (Int32.ofInt q.1, gx q.2) := by
  intro n
  induction n with
  | zero =>
    intro x0 x1 yx1 e1 x2 yx2 e2 x3 yx3 e3 s σ es q g0 h
    rw [gm_76_4] at h
    exact fx_no h
  | succ n ih =>
    intro x0 x1 yx1 e1 x2 yx2 e2 x3 yx3 e3 s σ es q g0 h
    rw [gm_76_4] at h
    rw [fm_76_4]
    obtain ⟨z1, h⟩ := fx_gd h
    by_cases c2 : 8 ≤ x3
    · rw [if_pos c2] at h
      refine gb_t ((gc_le kg_8 e3 (by decide) z1).mpr c2) ?_
      have h := Option.some.inj h
      subst h
      exact gret e2 es
    · rw [if_neg c2] at h
      refine gb_f (fun q => c2 ((gc_le kg_8 e3 (by decide) z1).mp q)) ?_
      obtain ⟨z5, h⟩ := fx_gd h
      refine gb_bind (gl_ld es (ga_add (ga_mul e3 kg_9) e1) (ga_7_7 g0) z5) ?_
      exact ih _ _ _ e1 _ _ (ga_add e2 (gr (s.1 (x0 + 8) (((x3 * 9) + x1)).toNat))) _ _ (ga_add e3 kg_1) _ _ es _ g0 h
def gm_76 (x0 : Nat) (x1 : Int) (s : gx_S) : Option (Int × gx_S) :=
  if fx_oc x0 7 = true then (
  gm_76_4 100000 x0 x1 0 0 s) else none
theorem gf_76 {x0 : Nat} {x1 : Int} {yx1 : Int32} (e1 : yx1 = Int32.ofInt x1) {s : gx_S} {σ : fx_S} (es : σ = gx s) {q : Int × gx_S} (h : gm_76 x0 x1 s = some q) : fm_76 x0 yx1 σ = some (Int32.ofInt q.1, gx q.2) := by
  unfold gm_76 at h
  unfold fm_76
  obtain ⟨gg, h⟩ := fx_gd h
  refine gb_t gg ?_
  have g0 := gg
  exact gf_76_4 100000 _ _ _ e1 _ _ kg_0 _ _ kg_0 _ _ es _ g0 h

/-! ZoneShares$Table.floorsOf(I)I -/
def gm_77_4 : Nat → Nat → Int → Int → Int → gx_S → Option (Int × gx_S)
  | 0, _, _, _, _, _ => none
  | n + 1, x0, x1, x2, x3, s =>
    if (-2147483648 ≤ x3 ∧ x3 ≤ 2147483647) then (
    if 8 ≤ x3 then (
      some (x2, s)) else (
      if 0 ≤ ((x3 * 9) + x1) ∧ ((x3 * 9) + x1) < 72 then (
      gm_77_4 n x0 x1 (x2 + (s.1 (x0 + 6) (((x3 * 9) + x1)).toNat)) (x3 + 1) s) else none)) else none
theorem gf_77_4 : ∀ (n : Nat) (x0 : Nat) (x1 : Int) (yx1 : Int32) (e1 : yx1 = Int32.ofInt x1) (x2 : Int) (yx2 : Int32) (e2 : yx2 = Int32.ofInt x2) (x3 : Int) (yx3 : Int32) (e3 : yx3 = Int32.ofInt x3) (s : gx_S) (σ : fx_S) (es : σ = gx s) (q : Int × gx_S) (g0 : fx_oc x0 7 = true), gm_77_4 n x0 x1 x2 x3 s = some q → fm_77_4 n x0 yx1 yx2 yx3 σ = some (Int32.ofInt q.1, gx q.2) := by
  intro n
  induction n with
  | zero =>
    intro x0 x1 yx1 e1 x2 yx2 e2 x3 yx3 e3 s σ es q g0 h
    rw [gm_77_4] at h
    exact fx_no h
  | succ n ih =>
    intro x0 x1 yx1 e1 x2 yx2 e2 x3 yx3 e3 s σ es q g0 h
    rw [gm_77_4] at h
    rw [fm_77_4]
    obtain ⟨z1, h⟩ := fx_gd h
    by_cases c2 : 8 ≤ x3
    · rw [if_pos c2] at h
      refine gb_t ((gc_le kg_8 e3 (by decide) z1).mpr c2) ?_
      have h := Option.some.inj h
      subst h
      exact gret e2 es
    · rw [if_neg c2] at h
      refine gb_f (fun q => c2 ((gc_le kg_8 e3 (by decide) z1).mp q)) ?_
      obtain ⟨z5, h⟩ := fx_gd h
      refine gb_bind (gl_ld es (ga_add (ga_mul e3 kg_9) e1) (ga_7_5 g0) z5) ?_
      exact ih _ _ _ e1 _ _ (ga_add e2 (gr (s.1 (x0 + 6) (((x3 * 9) + x1)).toNat))) _ _ (ga_add e3 kg_1) _ _ es _ g0 h
def gm_77 (x0 : Nat) (x1 : Int) (s : gx_S) : Option (Int × gx_S) :=
  if fx_oc x0 7 = true then (
  gm_77_4 100000 x0 x1 0 0 s) else none
theorem gf_77 {x0 : Nat} {x1 : Int} {yx1 : Int32} (e1 : yx1 = Int32.ofInt x1) {s : gx_S} {σ : fx_S} (es : σ = gx s) {q : Int × gx_S} (h : gm_77 x0 x1 s = some q) : fm_77 x0 yx1 σ = some (Int32.ofInt q.1, gx q.2) := by
  unfold gm_77 at h
  unfold fm_77
  obtain ⟨gg, h⟩ := fx_gd h
  refine gb_t gg ?_
  have g0 := gg
  exact gf_77_4 100000 _ _ _ e1 _ _ kg_0 _ _ kg_0 _ _ es _ g0 h

/-! ZoneShares$Table.restsOf(IJ)J -/
def gm_79_52 (k_6 : Nat → Int → Int → Int → Int → gx_S → Option (Int × gx_S)) (x0 : Nat) (x1 : Int) (x2 : Int) (x4 : Int) (x6 : Int) (s : gx_S) : Option (Int × gx_S) :=
  k_6 x0 x1 x2 x4 (x6 + 1) s
theorem gf_79_52 {kf_6 : Nat → Int32 → Int64 → Int64 → Int32 → fx_S → Option (Int64 × fx_S)} {kg_6 : Nat → Int → Int → Int → Int → gx_S → Option (Int × gx_S)} (hk_6 : ∀ (x0 : Nat) (x1 : Int) (yx1 : Int32) (e1 : yx1 = Int32.ofInt x1) (x2 : Int) (yx2 : Int64) (e2 : yx2 = Int64.ofInt x2) (x4 : Int) (yx4 : Int64) (e4 : yx4 = Int64.ofInt x4) (x6 : Int) (yx6 : Int32) (e6 : yx6 = Int32.ofInt x6) (s : gx_S) (σ : fx_S) (es : σ = gx s) (q : Int × gx_S) (g0 : fx_oc x0 7 = true), kg_6 x0 x1 x2 x4 x6 s = some q → kf_6 x0 yx1 yx2 yx4 yx6 σ = some (Int64.ofInt q.1, gx q.2)) (x0 : Nat) (x1 : Int) (yx1 : Int32) (e1 : yx1 = Int32.ofInt x1) (x2 : Int) (yx2 : Int64) (e2 : yx2 = Int64.ofInt x2) (x4 : Int) (yx4 : Int64) (e4 : yx4 = Int64.ofInt x4) (x6 : Int) (yx6 : Int32) (e6 : yx6 = Int32.ofInt x6) (s : gx_S) (σ : fx_S) (es : σ = gx s) (q : Int × gx_S) (g0 : fx_oc x0 7 = true) (h : gm_79_52 kg_6 x0 x1 x2 x4 x6 s = some q) : fm_79_52 kf_6 x0 yx1 yx2 yx4 yx6 σ = some (Int64.ofInt q.1, gx q.2) := by
  unfold gm_79_52 at h
  unfold fm_79_52
  exact hk_6 _ _ _ e1 _ _ e2 _ _ e4 _ _ (ga_add e6 kg_1) _ _ es _ g0 h
def gm_79_6 : Nat → Nat → Int → Int → Int → Int → gx_S → Option (Int × gx_S)
  | 0, _, _, _, _, _, _ => none
  | n + 1, x0, x1, x2, x4, x6, s =>
    if (-2147483648 ≤ x6 ∧ x6 ≤ 2147483647) then (
    if 8 ≤ x6 then (
      some (x4, s)) else (
      if 0 ≤ x6 ∧ x6 < 8 then (
      if (-2147483648 ≤ (s.1 (x0 + 2) (x6).toNat) ∧ (s.1 (x0 + 2) (x6).toNat) ≤ 2147483647) then (
      if (s.1 (x0 + 2) (x6).toNat) ≤ 0 then (
        gm_79_52 (gm_79_6 n) x0 x1 x2 x4 x6 s) else (
        if 0 ≤ ((x6 * 9) + x1) ∧ ((x6 * 9) + x1) < 72 then (
        if (-2147483648 ≤ (s.1 (x0 + 7) (((x6 * 9) + x1)).toNat) ∧ (s.1 (x0 + 7) (((x6 * 9) + x1)).toNat) ≤ 2147483647) then (
        if 0 ≤ x2 ∧ x2 ≤ 9223372036854775807 ∧ 0 < (s.1 (x0 + 2) (x6).toNat) ∧ (s.1 (x0 + 2) (x6).toNat) ≤ 9223372036854775807 then (
        gm_79_52 (gm_79_6 n) x0 x1 x2 (x4 + ((s.1 (x0 + 7) (((x6 * 9) + x1)).toNat) * (x2 / (s.1 (x0 + 2) (x6).toNat)))) x6 s) else none) else none) else none)) else none) else none)) else none
theorem gf_79_6 : ∀ (n : Nat) (x0 : Nat) (x1 : Int) (yx1 : Int32) (e1 : yx1 = Int32.ofInt x1) (x2 : Int) (yx2 : Int64) (e2 : yx2 = Int64.ofInt x2) (x4 : Int) (yx4 : Int64) (e4 : yx4 = Int64.ofInt x4) (x6 : Int) (yx6 : Int32) (e6 : yx6 = Int32.ofInt x6) (s : gx_S) (σ : fx_S) (es : σ = gx s) (q : Int × gx_S) (g0 : fx_oc x0 7 = true), gm_79_6 n x0 x1 x2 x4 x6 s = some q → fm_79_6 n x0 yx1 yx2 yx4 yx6 σ = some (Int64.ofInt q.1, gx q.2) := by
  intro n
  induction n with
  | zero =>
    intro x0 x1 yx1 e1 x2 yx2 e2 x4 yx4 e4 x6 yx6 e6 s σ es q g0 h
    rw [gm_79_6] at h
    exact fx_no h
  | succ n ih =>
    intro x0 x1 yx1 e1 x2 yx2 e2 x4 yx4 e4 x6 yx6 e6 s σ es q g0 h
    rw [gm_79_6] at h
    rw [fm_79_6]
    obtain ⟨z1, h⟩ := fx_gd h
    by_cases c2 : 8 ≤ x6
    · rw [if_pos c2] at h
      refine gb_t ((gc_le kg_8 e6 (by decide) z1).mpr c2) ?_
      have h := Option.some.inj h
      subst h
      exact gretl e4 es
    · rw [if_neg c2] at h
      refine gb_f (fun q => c2 ((gc_le kg_8 e6 (by decide) z1).mp q)) ?_
      obtain ⟨z5, h⟩ := fx_gd h
      refine gb_bind (gl_ld es e6 (ga_7_1 g0) z5) ?_
      obtain ⟨z6, h⟩ := fx_gd h
      by_cases c7 : (s.1 (x0 + 2) (x6).toNat) ≤ 0
      · rw [if_pos c7] at h
        refine gb_t ((gc_le (gr (s.1 (x0 + 2) (x6).toNat)) kg_0 z6 (by decide)).mpr c7) ?_
        exact gf_79_52 ih _ _ _ e1 _ _ e2 _ _ e4 _ _ e6 _ _ es _ g0 h
      · rw [if_neg c7] at h
        refine gb_f (fun q => c7 ((gc_le (gr (s.1 (x0 + 2) (x6).toNat)) kg_0 z6 (by decide)).mp q)) ?_
        obtain ⟨z10, h⟩ := fx_gd h
        refine gb_bind (gl_ld es (ga_add (ga_mul e6 kg_9) e1) (ga_7_6 g0) z10) ?_
        obtain ⟨z11, h⟩ := fx_gd h
        refine gb_bind (gl_ld es e6 (ga_7_1 g0) z5) ?_
        obtain ⟨z14, h⟩ := fx_gd h
        refine gb_t (gcl_nz (ga_i2l (gr (s.1 (x0 + 2) (x6).toNat)) z6) z14) ?_
        exact gf_79_52 ih _ _ _ e1 _ _ e2 _ _ (gal_add e4 (gal_mul (ga_i2l (gr (s.1 (x0 + 7) (((x6 * 9) + x1)).toNat)) z11) (gal_div e2 (ga_i2l (gr (s.1 (x0 + 2) (x6).toNat)) z6) z14))) _ _ e6 _ _ es _ g0 h
def gm_79 (x0 : Nat) (x1 : Int) (x2 : Int) (s : gx_S) : Option (Int × gx_S) :=
  if fx_oc x0 7 = true then (
  gm_79_6 100000 x0 x1 x2 0 0 s) else none
theorem gf_79 {x0 : Nat} {x1 : Int} {yx1 : Int32} (e1 : yx1 = Int32.ofInt x1) {x2 : Int} {yx2 : Int64} (e2 : yx2 = Int64.ofInt x2) {s : gx_S} {σ : fx_S} (es : σ = gx s) {q : Int × gx_S} (h : gm_79 x0 x1 x2 s = some q) : fm_79 x0 yx1 yx2 σ = some (Int64.ofInt q.1, gx q.2) := by
  unfold gm_79 at h
  unfold fm_79
  obtain ⟨gg, h⟩ := fx_gd h
  refine gb_t gg ?_
  have g0 := gg
  exact gf_79_6 100000 _ _ _ e1 _ _ e2 _ _ kgl_0 _ _ kg_0 _ _ es _ g0 h

/-! ZoneShares$Table.offBy(I)J -/
def gm_80 (x0 : Nat) (x1 : Int) (s : gx_S) : Option (Int × gx_S) :=
  if fx_oc x0 7 = true then (
  if 0 ≤ x1 ∧ x1 ≤ 2147483647 then (
  if 0 ≤ x1 ∧ x1 < 72 then (
  if (-2147483648 ≤ (s.1 (x0 + 8) (x1).toNat) ∧ (s.1 (x0 + 8) (x1).toNat) ≤ 2147483647) then (
  if 0 ≤ (x1 / 9) ∧ (x1 / 9) < 8 then (
  if (-2147483648 ≤ (s.1 (x0 + 2) ((x1 / 9)).toNat) ∧ (s.1 (x0 + 2) ((x1 / 9)).toNat) ≤ 2147483647) then (
  if (-2147483648 ≤ (s.1 (x0 + 1) ((x1 / 9)).toNat) ∧ (s.1 (x0 + 1) ((x1 / 9)).toNat) ≤ 2147483647) then (
  if (-2147483648 ≤ (s.1 (x0 + 4) (x1).toNat) ∧ (s.1 (x0 + 4) (x1).toNat) ≤ 2147483647) then (
  if (-9223372036854775808 ≤ (((s.1 (x0 + 8) (x1).toNat) * (s.1 (x0 + 2) ((x1 / 9)).toNat)) - ((s.1 (x0 + 1) ((x1 / 9)).toNat) * (s.1 (x0 + 4) (x1).toNat))) ∧ (((s.1 (x0 + 8) (x1).toNat) * (s.1 (x0 + 2) ((x1 / 9)).toNat)) - ((s.1 (x0 + 1) ((x1 / 9)).toNat) * (s.1 (x0 + 4) (x1).toNat))) ≤ 9223372036854775807) then (
  some ((if 0 < (((s.1 (x0 + 8) (x1).toNat) * (s.1 (x0 + 2) ((x1 / 9)).toNat)) - ((s.1 (x0 + 1) ((x1 / 9)).toNat) * (s.1 (x0 + 4) (x1).toNat))) then (((s.1 (x0 + 8) (x1).toNat) * (s.1 (x0 + 2) ((x1 / 9)).toNat)) - ((s.1 (x0 + 1) ((x1 / 9)).toNat) * (s.1 (x0 + 4) (x1).toNat))) else -(((s.1 (x0 + 8) (x1).toNat) * (s.1 (x0 + 2) ((x1 / 9)).toNat)) - ((s.1 (x0 + 1) ((x1 / 9)).toNat) * (s.1 (x0 + 4) (x1).toNat)))), s)) else none) else none) else none) else none) else none) else none) else none) else none) else none
/-! ZoneShares$Tape.put(I)V -/
def gm_82_3 : Nat → Int → Int → gx_S → Option (gx_S)
  | 0, _, _, _ => none
  | n + 1, x1, x2, s =>
    if (-2147483648 ≤ x2 ∧ x2 ≤ 2147483647) then (
    if x2 < 0 then (
      some s) else (
      if (-2147483648 ≤ (s.1 14 1) ∧ (s.1 14 1) ≤ 2147483647) then (
      if 200 ≤ (s.1 14 1) then (
        some s) else (
        if 0 ≤ (s.1 14 1) ∧ (s.1 14 1) < 200 then (
        gm_82_3 n x1 (x2 + (-8)) (gw1 (gw1 s 15 ((s.1 14 1)).toNat (((Int32.ofInt ((((Int32.ofInt x1).toUInt32 >>> ((Int32.ofInt x2).toUInt32 &&& Int32.toUInt32 31)).toInt32).toInt) &&& Int32.ofInt 255)).toInt)) 14 1 (((gw1 s 15 ((s.1 14 1)).toNat (((Int32.ofInt ((((Int32.ofInt x1).toUInt32 >>> ((Int32.ofInt x2).toUInt32 &&& Int32.toUInt32 31)).toInt32).toInt) &&& Int32.ofInt 255)).toInt)).1 14 1) + 1))) else none)) else none)) else none
theorem gf_82_3 : ∀ (n : Nat) (x1 : Int) (yx1 : Int32) (e1 : yx1 = Int32.ofInt x1) (x2 : Int) (yx2 : Int32) (e2 : yx2 = Int32.ofInt x2) (s : gx_S) (σ : fx_S) (es : σ = gx s) (q : gx_S), gm_82_3 n x1 x2 s = some q → fm_82_3 n yx1 yx2 σ = some (gx q) := by
  intro n
  induction n with
  | zero =>
    intro x1 yx1 e1 x2 yx2 e2 s σ es q  h
    rw [gm_82_3] at h
    exact fx_no h
  | succ n ih =>
    intro x1 yx1 e1 x2 yx2 e2 s σ es q  h
    rw [gm_82_3] at h
    rw [fm_82_3]
    obtain ⟨z1, h⟩ := fx_gd h
    by_cases c2 : x2 < 0
    · rw [if_pos c2] at h
      refine gb_t ((gc_lt e2 kg_0 z1 (by decide)).mpr c2) ?_
      have h := Option.some.inj h
      subst h
      exact gretv es
    · rw [if_neg c2] at h
      refine gb_f (fun q => c2 ((gc_lt e2 kg_0 z1 (by decide)).mp q)) ?_
      obtain ⟨z3, h⟩ := fx_gd h
      by_cases c4 : 200 ≤ (s.1 14 1)
      · rw [if_pos c4] at h
        refine gb_t ((gc_le kg_200 (gf1 es 14 1) (by decide) z3).mpr c4) ?_
        have h := Option.some.inj h
        subst h
        exact gretv es
      · rw [if_neg c4] at h
        refine gb_f (fun q => c4 ((gc_le kg_200 (gf1 es 14 1) (by decide) z3).mp q)) ?_
        obtain ⟨z7, h⟩ := fx_gd h
        refine gb_bind (gl_st es (gf1 es 14 1) (ga_o2 (f := (fun a b => (a &&& b))) (ga_o2 (f := (fun a b => ((a).toUInt32 >>> ((b).toUInt32 &&& Int32.toUInt32 31)).toInt32)) e1 e2) kg_255) ga_15 z7) ?_
        exact ih _ _ e1 _ _ (ga_add e2 kg_m8) _ _ (gx_w1 (rfl : _ = gx (gw1 s 15 ((s.1 14 1)).toNat (((Int32.ofInt ((((Int32.ofInt x1).toUInt32 >>> ((Int32.ofInt x2).toUInt32 &&& Int32.toUInt32 31)).toInt32).toInt) &&& Int32.ofInt 255)).toInt))) (ga_add (gf1 (rfl : _ = gx (gw1 s 15 ((s.1 14 1)).toNat (((Int32.ofInt ((((Int32.ofInt x1).toUInt32 >>> ((Int32.ofInt x2).toUInt32 &&& Int32.toUInt32 31)).toInt32).toInt) &&& Int32.ofInt 255)).toInt))) 14 1) kg_1)) _ h
def gm_82 (x1 : Int) (s : gx_S) : Option (gx_S) :=
  gm_82_3 100000 x1 24 s
theorem gf_82 {x1 : Int} {yx1 : Int32} (e1 : yx1 = Int32.ofInt x1) {s : gx_S} {σ : fx_S} (es : σ = gx s) {q : gx_S} (h : gm_82 x1 s = some q) : fm_82 yx1 σ = some (gx q) := by
  unfold gm_82 at h
  unfold fm_82
  exact gf_82_3 100000 _ _ e1 _ _ kg_24 _ _ es _ h

/-! ZoneShares$Tape.at(I)I -/
def gm_83 (x1 : Int) (s : gx_S) : Option (Int × gx_S) :=
  if (-2147483648 ≤ x1 ∧ x1 ≤ 2147483647) then (
  if x1 < 0 then (
    some ((-1), s)) else (
    if (-2147483648 ≤ (s.1 14 1) ∧ (s.1 14 1) ≤ 2147483647) then (
    if (s.1 14 1) ≤ x1 then (
      some ((-1), s)) else (
      if 0 ≤ x1 ∧ x1 < 200 then (
      some ((s.1 15 (x1).toNat), s)) else none)) else none)) else none
theorem gf_83 {x1 : Int} {yx1 : Int32} (e1 : yx1 = Int32.ofInt x1) {s : gx_S} {σ : fx_S} (es : σ = gx s) {q : Int × gx_S} (h : gm_83 x1 s = some q) : fm_83 yx1 σ = some (Int32.ofInt q.1, gx q.2) := by
  unfold gm_83 at h
  unfold fm_83
  obtain ⟨z8, h⟩ := fx_gd h
  by_cases c9 : x1 < 0
  · rw [if_pos c9] at h
    refine gb_t ((gc_lt e1 kg_0 z8 (by decide)).mpr c9) ?_
    have h := Option.some.inj h
    subst h
    exact gret kg_m1 es
  · rw [if_neg c9] at h
    refine gb_f (fun q => c9 ((gc_lt e1 kg_0 z8 (by decide)).mp q)) ?_
    obtain ⟨z10, h⟩ := fx_gd h
    by_cases c11 : (s.1 14 1) ≤ x1
    · rw [if_pos c11] at h
      refine gb_t ((gc_le (gf1 es 14 1) e1 z10 z8).mpr c11) ?_
      have h := Option.some.inj h
      subst h
      exact gret kg_m1 es
    · rw [if_neg c11] at h
      refine gb_f (fun q => c11 ((gc_le (gf1 es 14 1) e1 z10 z8).mp q)) ?_
      obtain ⟨z14, h⟩ := fx_gd h
      refine gb_bind (gl_ld es e1 ga_15 z14) ?_
      have h := Option.some.inj h
      subst h
      exact gret (gr (s.1 15 (x1).toNat)) es

/-! ZoneShares.feed(IIIII)I -/
def gm_85 (x1 : Int) (x2 : Int) (x3 : Int) (x4 : Int) (x5 : Int) (s : gx_S) : Option (Int × gx_S) :=
  if (-2147483648 ≤ ((s.1 14 1) + 20) ∧ ((s.1 14 1) + 20) ≤ 2147483647) then (
  if ((s.1 14 1) + 20) ≤ 200 then (
    (gm_82 x1 s).bind fun q16 =>
    (gm_82 x2 q16).bind fun q18 =>
    (gm_82 x3 q18).bind fun q20 =>
    (gm_82 x4 q20).bind fun q22 =>
    (gm_82 x5 q22).bind fun q24 =>
    some ((q24.1 14 1), q24)) else (
    some ((-1), s))) else none
theorem gf_85 {x1 : Int} {yx1 : Int32} (e1 : yx1 = Int32.ofInt x1) {x2 : Int} {yx2 : Int32} (e2 : yx2 = Int32.ofInt x2) {x3 : Int} {yx3 : Int32} (e3 : yx3 = Int32.ofInt x3) {x4 : Int} {yx4 : Int32} (e4 : yx4 = Int32.ofInt x4) {x5 : Int} {yx5 : Int32} (e5 : yx5 = Int32.ofInt x5) {s : gx_S} {σ : fx_S} (es : σ = gx s) {q : Int × gx_S} (h : gm_85 x1 x2 x3 x4 x5 s = some q) : fm_85 yx1 yx2 yx3 yx4 yx5 σ = some (Int32.ofInt q.1, gx q.2) := by
  unfold gm_85 at h
  unfold fm_85
  obtain ⟨z13, h⟩ := fx_gd h
  by_cases c14 : ((s.1 14 1) + 20) ≤ 200
  · rw [if_pos c14] at h
    refine gb_t ((gc_le (ga_add (gf1 es 14 1) kg_20) kg_200 z13 (by decide)).mpr c14) ?_
    obtain ⟨q16, w15, h⟩ := fx_bd h
    refine gb_bind (gf_82 e1 es w15) ?_
    obtain ⟨q18, w17, h⟩ := fx_bd h
    refine gb_bind (gf_82 e2 (rfl : _ = gx q16) w17) ?_
    obtain ⟨q20, w19, h⟩ := fx_bd h
    refine gb_bind (gf_82 e3 (rfl : _ = gx q18) w19) ?_
    obtain ⟨q22, w21, h⟩ := fx_bd h
    refine gb_bind (gf_82 e4 (rfl : _ = gx q20) w21) ?_
    obtain ⟨q24, w23, h⟩ := fx_bd h
    refine gb_bind (gf_82 e5 (rfl : _ = gx q22) w23) ?_
    have h := Option.some.inj h
    subst h
    exact gret (gf1 (rfl : _ = gx q24) 14 1) (rfl : _ = gx q24)
  · rw [if_neg c14] at h
    refine gb_f (fun q => c14 ((gc_le (ga_add (gf1 es 14 1) kg_20) kg_200 z13 (by decide)).mp q)) ?_
    have h := Option.some.inj h
    subst h
    exact gret kg_m1 es

/-! ZoneShares.end(I)I -/
def gm_86 (x1 : Int) (s : gx_S) : Option (Int × gx_S) :=
  if (-2147483648 ≤ x1 ∧ x1 ≤ 2147483647) then (
  if x1 < 0 then (
    some ((-1), s)) else (
    if (-2147483648 ≤ (s.1 14 1) ∧ (s.1 14 1) ≤ 2147483647) then (
    if x1 ≤ (s.1 14 1) then (
      some (x1, (gw1 s 14 1 x1))) else (
      some ((-1), s))) else none)) else none
theorem gf_86 {x1 : Int} {yx1 : Int32} (e1 : yx1 = Int32.ofInt x1) {s : gx_S} {σ : fx_S} (es : σ = gx s) {q : Int × gx_S} (h : gm_86 x1 s = some q) : fm_86 yx1 σ = some (Int32.ofInt q.1, gx q.2) := by
  unfold gm_86 at h
  unfold fm_86
  obtain ⟨z5, h⟩ := fx_gd h
  by_cases c6 : x1 < 0
  · rw [if_pos c6] at h
    refine gb_t ((gc_lt e1 kg_0 z5 (by decide)).mpr c6) ?_
    have h := Option.some.inj h
    subst h
    exact gret kg_m1 es
  · rw [if_neg c6] at h
    refine gb_f (fun q => c6 ((gc_lt e1 kg_0 z5 (by decide)).mp q)) ?_
    obtain ⟨z7, h⟩ := fx_gd h
    by_cases c8 : x1 ≤ (s.1 14 1)
    · rw [if_pos c8] at h
      refine gb_t ((gc_le e1 (gf1 es 14 1) z5 z7).mpr c8) ?_
      have h := Option.some.inj h
      subst h
      exact gret e1 (gx_w1 es e1)
    · rw [if_neg c8] at h
      refine gb_f (fun q => c8 ((gc_le e1 (gf1 es 14 1) z5 z7).mp q)) ?_
      have h := Option.some.inj h
      subst h
      exact gret kg_m1 es

/-! ZoneShares.cell(III)I -/
def gm_95 (x1 : Int) (x2 : Int) (x3 : Int) (s : gx_S) : Option (Int × gx_S) :=
  if (-2147483648 ≤ x1 ∧ x1 ≤ 2147483647) then (
  if x1 < 0 then (
    some ((-1), s)) else (
    if 2 < x1 then (
      some ((-1), s)) else (
      (gm_56 1 x1 s).bind fun q19 =>
      if (gb q19.1) = 0 then (
        some ((-1), q19.2)) else (
        (gm_59 1 x2 x3 q19.2).bind fun q22 =>
        if ¬ (gb q22.1) = 0 then (
          (gm_60 1 x1 ((x2 * (q22.2.1 1 5)) + x3) q22.2).bind fun q25 =>
          if ¬ x1 = 2 then (
            if (-2147483648 ≤ q25.1 ∧ q25.1 ≤ 2147483647) then (
            if ¬ q25.1 = 8 then (
              some ((97 + q25.1), q25.2)) else (
              some (46, q25.2))) else none) else (
            some ((48 + q25.1), q25.2))) else (
          some ((-1), q22.2)))))) else none
theorem gf_95 {x1 : Int} {yx1 : Int32} (e1 : yx1 = Int32.ofInt x1) {x2 : Int} {yx2 : Int32} (e2 : yx2 = Int32.ofInt x2) {x3 : Int} {yx3 : Int32} (e3 : yx3 = Int32.ofInt x3) {s : gx_S} {σ : fx_S} (es : σ = gx s) {q : Int × gx_S} (h : gm_95 x1 x2 x3 s = some q) : fm_95 yx1 yx2 yx3 σ = some (Int32.ofInt q.1, gx q.2) := by
  unfold gm_95 at h
  unfold fm_95
  obtain ⟨z15, h⟩ := fx_gd h
  by_cases c16 : x1 < 0
  · rw [if_pos c16] at h
    refine gb_t ((gc_lt e1 kg_0 z15 (by decide)).mpr c16) ?_
    have h := Option.some.inj h
    subst h
    exact gret kg_m1 es
  · rw [if_neg c16] at h
    refine gb_f (fun q => c16 ((gc_lt e1 kg_0 z15 (by decide)).mp q)) ?_
    by_cases c17 : 2 < x1
    · rw [if_pos c17] at h
      refine gb_t ((gc_lt kg_2 e1 (by decide) z15).mpr c17) ?_
      have h := Option.some.inj h
      subst h
      exact gret kg_m1 es
    · rw [if_neg c17] at h
      refine gb_f (fun q => c17 ((gc_lt kg_2 e1 (by decide) z15).mp q)) ?_
      obtain ⟨q19, w18, h⟩ := fx_bd h
      refine gb_bind (gf_56 e1 es w18) ?_
      by_cases c20 : (gb q19.1) = 0
      · rw [if_pos c20] at h
        refine gb_t ((gc_eq (gb_b q19.1) kg_0 (gb_r _) (by decide)).mpr c20) ?_
        have h := Option.some.inj h
        subst h
        exact gret kg_m1 (rfl : _ = gx q19.2)
      · rw [if_neg c20] at h
        refine gb_f (fun q => c20 ((gc_eq (gb_b q19.1) kg_0 (gb_r _) (by decide)).mp q)) ?_
        obtain ⟨q22, w21, h⟩ := fx_bd h
        refine gb_bind (gf_59 e2 e3 (rfl : _ = gx q19.2) w21) ?_
        by_cases c23 : ¬ (gb q22.1) = 0
        · rw [if_pos c23] at h
          refine gb_t ((gc_ne (gb_b q22.1) kg_0 (gb_r _) (by decide)).mpr c23) ?_
          obtain ⟨q25, w24, h⟩ := fx_bd h
          refine gb_bind (gf_60 e1 (ga_add (ga_mul e2 (gf1 (rfl : _ = gx q22.2) 1 5)) e3) (rfl : _ = gx q22.2) w24) ?_
          by_cases c26 : ¬ x1 = 2
          · rw [if_pos c26] at h
            refine gb_t ((gc_ne e1 kg_2 z15 (by decide)).mpr c26) ?_
            obtain ⟨z27, h⟩ := fx_gd h
            by_cases c28 : ¬ q25.1 = 8
            · rw [if_pos c28] at h
              refine gb_t ((gc_ne (gr q25.1) kg_8 z27 (by decide)).mpr c28) ?_
              have h := Option.some.inj h
              subst h
              exact gret (ga_add kg_97 (gr q25.1)) (rfl : _ = gx q25.2)
            · rw [if_neg c28] at h
              refine gb_f (fun q => c28 ((gc_ne (gr q25.1) kg_8 z27 (by decide)).mp q)) ?_
              have h := Option.some.inj h
              subst h
              exact gret kg_46 (rfl : _ = gx q25.2)
          · rw [if_neg c26] at h
            refine gb_f (fun q => c26 ((gc_ne e1 kg_2 z15 (by decide)).mp q)) ?_
            have h := Option.some.inj h
            subst h
            exact gret (ga_add kg_48 (gr q25.1)) (rfl : _ = gx q25.2)
        · rw [if_neg c23] at h
          refine gb_f (fun q => c23 ((gc_ne (gb_b q22.1) kg_0 (gb_r _) (by decide)).mp q)) ?_
          have h := Option.some.inj h
          subst h
          exact gret kg_m1 (rfl : _ = gx q22.2)

/-! ZoneShares.isGroup(I)Z -/
def gm_114 (x0 : Int) (s : gx_S) : Option (Bool × gx_S) :=
  if (-2147483648 ≤ x0 ∧ x0 ≤ 2147483647) then (
  if x0 < 0 then (
    some (false, s)) else (
    if 3 ≤ x0 then (
      some (false, s)) else (
      some (true, s)))) else none
theorem gf_114 {x0 : Int} {yx0 : Int32} (e0 : yx0 = Int32.ofInt x0) {s : gx_S} {σ : fx_S} (es : σ = gx s) {q : Bool × gx_S} (h : gm_114 x0 s = some q) : fm_114 yx0 σ = some (q.1, gx q.2) := by
  unfold gm_114 at h
  unfold fm_114
  obtain ⟨z4, h⟩ := fx_gd h
  by_cases c5 : x0 < 0
  · rw [if_pos c5] at h
    refine gb_t ((gc_lt e0 kg_0 z4 (by decide)).mpr c5) ?_
    have h := Option.some.inj h
    subst h
    exact gretb es
  · rw [if_neg c5] at h
    refine gb_f (fun q => c5 ((gc_lt e0 kg_0 z4 (by decide)).mp q)) ?_
    by_cases c6 : 3 ≤ x0
    · rw [if_pos c6] at h
      refine gb_t ((gc_le kg_3 e0 (by decide) z4).mpr c6) ?_
      have h := Option.some.inj h
      subst h
      exact gretb es
    · rw [if_neg c6] at h
      refine gb_f (fun q => c6 ((gc_le kg_3 e0 (by decide) z4).mp q)) ?_
      have h := Option.some.inj h
      subst h
      exact gretb es

/-! ZoneShares.isZone(I)Z -/
def gm_115 (x0 : Int) (s : gx_S) : Option (Bool × gx_S) :=
  if (-2147483648 ≤ x0 ∧ x0 ≤ 2147483647) then (
  if x0 < 0 then (
    some (false, s)) else (
    if 8 ≤ x0 then (
      some (false, s)) else (
      some (true, s)))) else none
theorem gf_115 {x0 : Int} {yx0 : Int32} (e0 : yx0 = Int32.ofInt x0) {s : gx_S} {σ : fx_S} (es : σ = gx s) {q : Bool × gx_S} (h : gm_115 x0 s = some q) : fm_115 yx0 σ = some (q.1, gx q.2) := by
  unfold gm_115 at h
  unfold fm_115
  obtain ⟨z4, h⟩ := fx_gd h
  by_cases c5 : x0 < 0
  · rw [if_pos c5] at h
    refine gb_t ((gc_lt e0 kg_0 z4 (by decide)).mpr c5) ?_
    have h := Option.some.inj h
    subst h
    exact gretb es
  · rw [if_neg c5] at h
    refine gb_f (fun q => c5 ((gc_lt e0 kg_0 z4 (by decide)).mp q)) ?_
    by_cases c6 : 8 ≤ x0
    · rw [if_pos c6] at h
      refine gb_t ((gc_le kg_8 e0 (by decide) z4).mpr c6) ?_
      have h := Option.some.inj h
      subst h
      exact gretb es
    · rw [if_neg c6] at h
      refine gb_f (fun q => c6 ((gc_le kg_8 e0 (by decide) z4).mp q)) ?_
      have h := Option.some.inj h
      subst h
      exact gretb es

/-! ZoneShares.isLand(I)Z -/
def gm_116 (x0 : Int) (s : gx_S) : Option (Bool × gx_S) :=
  if (-2147483648 ≤ x0 ∧ x0 ≤ 2147483647) then (
  if x0 < 0 then (
    some (false, s)) else (
    if 4 ≤ x0 then (
      some (false, s)) else (
      some (true, s)))) else none
theorem gf_116 {x0 : Int} {yx0 : Int32} (e0 : yx0 = Int32.ofInt x0) {s : gx_S} {σ : fx_S} (es : σ = gx s) {q : Bool × gx_S} (h : gm_116 x0 s = some q) : fm_116 yx0 σ = some (q.1, gx q.2) := by
  unfold gm_116 at h
  unfold fm_116
  obtain ⟨z4, h⟩ := fx_gd h
  by_cases c5 : x0 < 0
  · rw [if_pos c5] at h
    refine gb_t ((gc_lt e0 kg_0 z4 (by decide)).mpr c5) ?_
    have h := Option.some.inj h
    subst h
    exact gretb es
  · rw [if_neg c5] at h
    refine gb_f (fun q => c5 ((gc_lt e0 kg_0 z4 (by decide)).mp q)) ?_
    by_cases c6 : 4 ≤ x0
    · rw [if_pos c6] at h
      refine gb_t ((gc_le kg_4 e0 (by decide) z4).mpr c6) ?_
      have h := Option.some.inj h
      subst h
      exact gretb es
    · rw [if_neg c6] at h
      refine gb_f (fun q => c6 ((gc_le kg_4 e0 (by decide) z4).mp q)) ?_
      have h := Option.some.inj h
      subst h
      exact gretb es

/-! ZoneShares.isDistrict(I)Z -/
def gm_117 (x0 : Int) (s : gx_S) : Option (Bool × gx_S) :=
  if (-2147483648 ≤ x0 ∧ x0 ≤ 2147483647) then (
  if x0 < 0 then (
    some (false, s)) else (
    if 4 ≤ x0 then (
      some (false, s)) else (
      some (true, s)))) else none
theorem gf_117 {x0 : Int} {yx0 : Int32} (e0 : yx0 = Int32.ofInt x0) {s : gx_S} {σ : fx_S} (es : σ = gx s) {q : Bool × gx_S} (h : gm_117 x0 s = some q) : fm_117 yx0 σ = some (q.1, gx q.2) := by
  unfold gm_117 at h
  unfold fm_117
  obtain ⟨z4, h⟩ := fx_gd h
  by_cases c5 : x0 < 0
  · rw [if_pos c5] at h
    refine gb_t ((gc_lt e0 kg_0 z4 (by decide)).mpr c5) ?_
    have h := Option.some.inj h
    subst h
    exact gretb es
  · rw [if_neg c5] at h
    refine gb_f (fun q => c5 ((gc_lt e0 kg_0 z4 (by decide)).mp q)) ?_
    by_cases c6 : 4 ≤ x0
    · rw [if_pos c6] at h
      refine gb_t ((gc_le kg_4 e0 (by decide) z4).mpr c6) ?_
      have h := Option.some.inj h
      subst h
      exact gretb es
    · rw [if_neg c6] at h
      refine gb_f (fun q => c6 ((gc_le kg_4 e0 (by decide) z4).mp q)) ?_
      have h := Option.some.inj h
      subst h
      exact gretb es

/-! ZoneShares.isTarget(II)Z -/
def gm_118 (x1 : Int) (x2 : Int) (s : gx_S) : Option (Bool × gx_S) :=
  (gm_114 x1 s).bind fun q11 =>
  if (gb q11.1) = 0 then (
    some (false, q11.2)) else (
    if (-2147483648 ≤ x2 ∧ x2 ≤ 2147483647) then (
    if x2 < 0 then (
      some (false, q11.2)) else (
      if 8 < x2 then (
        some (false, q11.2)) else (
        (gm_57 1 q11.2).bind fun q17 =>
        if (gb q17.1) = 0 then (
          some (false, q17.2)) else (
          some (true, q17.2))))) else none)
theorem gf_118 {x1 : Int} {yx1 : Int32} (e1 : yx1 = Int32.ofInt x1) {x2 : Int} {yx2 : Int32} (e2 : yx2 = Int32.ofInt x2) {s : gx_S} {σ : fx_S} (es : σ = gx s) {q : Bool × gx_S} (h : gm_118 x1 x2 s = some q) : fm_118 yx1 yx2 σ = some (q.1, gx q.2) := by
  unfold gm_118 at h
  unfold fm_118
  obtain ⟨q11, w10, h⟩ := fx_bd h
  refine gb_bind (gf_114 e1 es w10) ?_
  by_cases c12 : (gb q11.1) = 0
  · rw [if_pos c12] at h
    refine gb_t ((gc_eq (gb_b q11.1) kg_0 (gb_r _) (by decide)).mpr c12) ?_
    have h := Option.some.inj h
    subst h
    exact gretb (rfl : _ = gx q11.2)
  · rw [if_neg c12] at h
    refine gb_f (fun q => c12 ((gc_eq (gb_b q11.1) kg_0 (gb_r _) (by decide)).mp q)) ?_
    obtain ⟨z13, h⟩ := fx_gd h
    by_cases c14 : x2 < 0
    · rw [if_pos c14] at h
      refine gb_t ((gc_lt e2 kg_0 z13 (by decide)).mpr c14) ?_
      have h := Option.some.inj h
      subst h
      exact gretb (rfl : _ = gx q11.2)
    · rw [if_neg c14] at h
      refine gb_f (fun q => c14 ((gc_lt e2 kg_0 z13 (by decide)).mp q)) ?_
      by_cases c15 : 8 < x2
      · rw [if_pos c15] at h
        refine gb_t ((gc_lt kg_8 e2 (by decide) z13).mpr c15) ?_
        have h := Option.some.inj h
        subst h
        exact gretb (rfl : _ = gx q11.2)
      · rw [if_neg c15] at h
        refine gb_f (fun q => c15 ((gc_lt kg_8 e2 (by decide) z13).mp q)) ?_
        obtain ⟨q17, w16, h⟩ := fx_bd h
        refine gb_bind (gf_57 (rfl : _ = gx q11.2) w16) ?_
        by_cases c18 : (gb q17.1) = 0
        · rw [if_pos c18] at h
          refine gb_t ((gc_eq (gb_b q17.1) kg_0 (gb_r _) (by decide)).mpr c18) ?_
          have h := Option.some.inj h
          subst h
          exact gretb (rfl : _ = gx q17.2)
        · rw [if_neg c18] at h
          refine gb_f (fun q => c18 ((gc_eq (gb_b q17.1) kg_0 (gb_r _) (by decide)).mp q)) ?_
          have h := Option.some.inj h
          subst h
          exact gretb (rfl : _ = gx q17.2)

/-! ZoneShares.forgetTables()V -/
def gm_120_2 : Nat → Int → gx_S → Option (gx_S)
  | 0, _, _ => none
  | n + 1, x1, s =>
    if (-2147483648 ≤ x1 ∧ x1 ≤ 2147483647) then (
    if 3 ≤ x1 then (
      some s) else (
      if 0 ≤ x1 ∧ x1 < 3 then (
      (some (fx_rf 70 (x1).toNat)).bind fun v3 =>
      gm_120_2 n (x1 + 1) (gw1 s v3 8 0)) else none)) else none
theorem gf_120_2 : ∀ (n : Nat) (x1 : Int) (yx1 : Int32) (e1 : yx1 = Int32.ofInt x1) (s : gx_S) (σ : fx_S) (es : σ = gx s) (q : gx_S), gm_120_2 n x1 s = some q → fm_120_2 n yx1 σ = some (gx q) := by
  intro n
  induction n with
  | zero =>
    intro x1 yx1 e1 s σ es q  h
    rw [gm_120_2] at h
    exact fx_no h
  | succ n ih =>
    intro x1 yx1 e1 s σ es q  h
    rw [gm_120_2] at h
    rw [fm_120_2]
    obtain ⟨z1, h⟩ := fx_gd h
    by_cases c2 : 3 ≤ x1
    · rw [if_pos c2] at h
      refine gb_t ((gc_le kg_3 e1 (by decide) z1).mpr c2) ?_
      have h := Option.some.inj h
      subst h
      exact gretv es
    · rw [if_neg c2] at h
      refine gb_f (fun q => c2 ((gc_le kg_3 e1 (by decide) z1).mp q)) ?_
      obtain ⟨z6, h⟩ := fx_gd h
      obtain ⟨v3, w4, h⟩ := fx_bd h
      have g5 := fa_70 ((gl_ldr (t := 4) e1 ga_70 z6).trans w4)
      refine gb_bind ((gl_ldr e1 ga_70 z6).trans w4) ?_
      exact ih _ _ (ga_add e1 kg_1) _ _ (gx_w1 es kg_0) _ h
def gm_120 (s : gx_S) : Option (gx_S) :=
  gm_120_2 100000 0 s
theorem gf_120 {s : gx_S} {σ : fx_S} (es : σ = gx s) {q : gx_S} (h : gm_120 s = some q) : fm_120 σ = some (gx q) := by
  unfold gm_120 at h
  unfold fm_120
  exact gf_120_2 100000 _ _ kg_0 _ _ es _ h

/-! ZoneShares.adoptCounts(I)I -/
def gm_122_12 : Nat → Int → Nat → Int → Int → gx_S → Option (Int × gx_S)
  | 0, _, _, _, _, _ => none
  | n + 1, x1, x2, x3, x4, s =>
    if (-2147483648 ≤ x4 ∧ x4 ≤ 2147483647) then (
    if 8 ≤ x4 then (
      (gm_76 (x2 + 3) 8 s).bind fun q4 =>
      if 0 ≤ ((x1 * 9) + 8) ∧ ((x1 * 9) + 8) < 27 then (
      some (x3, (gw1 q4.2 3 (((x1 * 9) + 8)).toNat (q4.1 + (q4.2.1 x2 7))))) else none) else (
      (gm_76 (x2 + 3) x4 s).bind fun q9 =>
      if 0 ≤ ((x1 * 9) + x4) ∧ ((x1 * 9) + x4) < 27 then (
      gm_122_12 n x1 x2 (x3 + q9.1) (x4 + 1) (gw1 q9.2 3 (((x1 * 9) + x4)).toNat q9.1)) else none)) else none
theorem gf_122_12 : ∀ (n : Nat) (x1 : Int) (yx1 : Int32) (e1 : yx1 = Int32.ofInt x1) (x2 : Nat) (x3 : Int) (yx3 : Int32) (e3 : yx3 = Int32.ofInt x3) (x4 : Int) (yx4 : Int32) (e4 : yx4 = Int32.ofInt x4) (s : gx_S) (σ : fx_S) (es : σ = gx s) (q : Int × gx_S) (g2 : fx_oc x2 2 = true), gm_122_12 n x1 x2 x3 x4 s = some q → fm_122_12 n yx1 x2 yx3 yx4 σ = some (Int32.ofInt q.1, gx q.2) := by
  intro n
  induction n with
  | zero =>
    intro x1 yx1 e1 x2 x3 yx3 e3 x4 yx4 e4 s σ es q g2 h
    rw [gm_122_12] at h
    exact fx_no h
  | succ n ih =>
    intro x1 yx1 e1 x2 x3 yx3 e3 x4 yx4 e4 s σ es q g2 h
    rw [gm_122_12] at h
    rw [fm_122_12]
    obtain ⟨z1, h⟩ := fx_gd h
    by_cases c2 : 8 ≤ x4
    · rw [if_pos c2] at h
      refine gb_t ((gc_le kg_8 e4 (by decide) z1).mpr c2) ?_
      obtain ⟨q4, w3, h⟩ := fx_bd h
      refine gb_bind (gf_76 kg_8 es w3) ?_
      obtain ⟨z7, h⟩ := fx_gd h
      refine gb_bind (gl_st (rfl : _ = gx q4.2) (ga_add (ga_mul e1 kg_9) kg_8) (ga_add (gr q4.1) (gf1 (rfl : _ = gx q4.2) x2 7)) ga_3 z7) ?_
      have h := Option.some.inj h
      subst h
      exact gret e3 (rfl : _ = gx (gw1 q4.2 3 (((x1 * 9) + 8)).toNat (q4.1 + (q4.2.1 x2 7))))
    · rw [if_neg c2] at h
      refine gb_f (fun q => c2 ((gc_le kg_8 e4 (by decide) z1).mp q)) ?_
      obtain ⟨q9, w8, h⟩ := fx_bd h
      refine gb_bind (gf_76 e4 es w8) ?_
      obtain ⟨z12, h⟩ := fx_gd h
      refine gb_bind (gl_st (rfl : _ = gx q9.2) (ga_add (ga_mul e1 kg_9) e4) (gr q9.1) ga_3 z12) ?_
      exact ih _ _ e1 _ _ _ (ga_add e3 (gr q9.1)) _ _ (ga_add e4 kg_1) _ _ (rfl : _ = gx (gw1 q9.2 3 (((x1 * 9) + x4)).toNat q9.1)) _ g2 h
def gm_122 (x1 : Int) (s : gx_S) : Option (Int × gx_S) :=
  if 0 ≤ x1 ∧ x1 < 3 then (
  (some (fx_rf 70 (x1).toNat)).bind fun v29 =>
  gm_122_12 100000 x1 v29 0 0 s) else none
theorem gf_122 {x1 : Int} {yx1 : Int32} (e1 : yx1 = Int32.ofInt x1) {s : gx_S} {σ : fx_S} (es : σ = gx s) {q : Int × gx_S} (h : gm_122 x1 s = some q) : fm_122 yx1 σ = some (Int32.ofInt q.1, gx q.2) := by
  unfold gm_122 at h
  unfold fm_122
  obtain ⟨z32, h⟩ := fx_gd h
  obtain ⟨v29, w30, h⟩ := fx_bd h
  have g31 := fa_70 ((gl_ldr (t := 4) e1 ga_70 z32).trans w30)
  refine gb_bind ((gl_ldr e1 ga_70 z32).trans w30) ?_
  exact gf_122_12 100000 _ _ e1 _ _ _ kg_0 _ _ kg_0 _ _ es _ g31 h

/-! ZoneShares.placeOfPiece(I)I -/
def gm_124_29 (k_4 : Int → Int → gx_S → Option (Int × gx_S)) (x2 : Int) (x3 : Int) (s : gx_S) : Option (Int × gx_S) :=
  k_4 x2 (x3 + 1) s
def gm_124_4 : Nat → Int → Int → gx_S → Option (Int × gx_S)
  | 0, _, _, _ => none
  | n + 1, x2, x3, s =>
    if (-2147483648 ≤ x3 ∧ x3 ≤ 2147483647) then (
    if 288 ≤ x3 then (
      some (0, s)) else (
      if 0 ≤ x3 ∧ x3 < 288 then (
      if (-2147483648 ≤ (s.1 69 (x3).toNat) ∧ (s.1 69 (x3).toNat) ≤ 2147483647) then (
      if (s.1 69 (x3).toNat) ≤ 0 then (
        gm_124_29 (gm_124_4 n) x2 x3 s) else (
        if (-2147483648 ≤ x2 ∧ x2 ≤ 2147483647) then (
        if ¬ x2 = 0 then (
          gm_124_29 (gm_124_4 n) (x2 + (-1)) x3 s) else (
          some (x3, s))) else none)) else none) else none)) else none
def gm_124 (x1 : Int) (s : gx_S) : Option (Int × gx_S) :=
  gm_124_4 100000 x1 0 s
/-! ZoneShares.gcd(JJ)J -/
def gm_128_44 (x4 : Int) (s : gx_S) : Option (Int × gx_S) :=
  some (x4, s)
theorem gf_128_44 (x4 : Int) (yx4 : Int64) (e4 : yx4 = Int64.ofInt x4) (s : gx_S) (σ : fx_S) (es : σ = gx s) (q : Int × gx_S) (h : gm_128_44 x4 s = some q) : fm_128_44 yx4 σ = some (Int64.ofInt q.1, gx q.2) := by
  unfold gm_128_44 at h
  unfold fm_128_44
  have h := Option.some.inj h
  subst h
  exact gretl e4 es
def gm_128_9 : Nat → Int → Int → Int → gx_S → Option (Int × gx_S)
  | 0, _, _, _, _ => none
  | n + 1, x4, x6, x8, s =>
    if (-2147483648 ≤ x8 ∧ x8 ≤ 2147483647) then (
    if 100 ≤ x8 then (
      gm_128_44 x4 s) else (
      if (-9223372036854775808 ≤ x6 ∧ x6 ≤ 9223372036854775807) then (
      if x6 = 0 then (
        gm_128_44 x4 s) else (
        if 0 ≤ x4 ∧ x4 ≤ 9223372036854775807 ∧ 0 < x6 ∧ x6 ≤ 9223372036854775807 then (
        gm_128_9 n x6 (x4 % x6) (x8 + 1) s) else none)) else none)) else none
theorem gf_128_9 : ∀ (n : Nat) (x4 : Int) (yx4 : Int64) (e4 : yx4 = Int64.ofInt x4) (x6 : Int) (yx6 : Int64) (e6 : yx6 = Int64.ofInt x6) (x8 : Int) (yx8 : Int32) (e8 : yx8 = Int32.ofInt x8) (s : gx_S) (σ : fx_S) (es : σ = gx s) (q : Int × gx_S), gm_128_9 n x4 x6 x8 s = some q → fm_128_9 n yx4 yx6 yx8 σ = some (Int64.ofInt q.1, gx q.2) := by
  intro n
  induction n with
  | zero =>
    intro x4 yx4 e4 x6 yx6 e6 x8 yx8 e8 s σ es q  h
    rw [gm_128_9] at h
    exact fx_no h
  | succ n ih =>
    intro x4 yx4 e4 x6 yx6 e6 x8 yx8 e8 s σ es q  h
    rw [gm_128_9] at h
    rw [fm_128_9]
    obtain ⟨z1, h⟩ := fx_gd h
    by_cases c2 : 100 ≤ x8
    · rw [if_pos c2] at h
      refine gb_t ((gc_le kg_100 e8 (by decide) z1).mpr c2) ?_
      exact gf_128_44 _ _ e4 _ _ es _ h
    · rw [if_neg c2] at h
      refine gb_f (fun q => c2 ((gc_le kg_100 e8 (by decide) z1).mp q)) ?_
      obtain ⟨z3, h⟩ := fx_gd h
      by_cases c4 : x6 = 0
      · rw [if_pos c4] at h
        refine gb_t ((gcl_eq e6 kgl_0 z3 (by decide)).mpr c4) ?_
        exact gf_128_44 _ _ e4 _ _ es _ h
      · rw [if_neg c4] at h
        refine gb_f (fun q => c4 ((gcl_eq e6 kgl_0 z3 (by decide)).mp q)) ?_
        obtain ⟨z5, h⟩ := fx_gd h
        refine gb_t (gcl_nz e6 z5) ?_
        exact ih _ _ e6 _ _ (gal_rem e4 e6 z5) _ _ (ga_add e8 kg_1) _ _ es _ h
def gm_128 (x0 : Int) (x2 : Int) (s : gx_S) : Option (Int × gx_S) :=
  gm_128_9 100000 x0 x2 0 s
theorem gf_128 {x0 : Int} {yx0 : Int64} (e0 : yx0 = Int64.ofInt x0) {x2 : Int} {yx2 : Int64} (e2 : yx2 = Int64.ofInt x2) {s : gx_S} {σ : fx_S} (es : σ = gx s) {q : Int × gx_S} (h : gm_128 x0 x2 s = some q) : fm_128 yx0 yx2 σ = some (Int64.ofInt q.1, gx q.2) := by
  unfold gm_128 at h
  unfold fm_128
  exact gf_128_9 100000 _ _ e0 _ _ e2 _ _ kg_0 _ _ es _ h
