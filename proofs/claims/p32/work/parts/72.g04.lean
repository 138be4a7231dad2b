/-! ZoneShares$Group.fillBack()V -/
def gm_24_76 : Nat → Nat → Int → gx_S → Option (gx_S)
  | 0, _, _, _ => none
  | n + 1, x0, x2, s =>
    if (-2147483648 ≤ x2 ∧ x2 ≤ 2147483647) then (
    if 8 ≤ x2 then (
      some s) else (
      (gm_76 (x0 + 3) x2 s).bind fun q4 =>
      if 0 ≤ x2 ∧ x2 < 8 then (
      gm_24_76 n x0 (x2 + 1) (gw1 q4.2 ((x0 + 12) + 1) (x2).toNat q4.1)) else none)) else none
theorem gf_24_76 : ∀ (n : Nat) (x0 : Nat) (x2 : Int) (yx2 : Int32) (e2 : yx2 = Int32.ofInt x2) (s : gx_S) (σ : fx_S) (es : σ = gx s) (q : gx_S) (g0 : fx_oc x0 2 = true), gm_24_76 n x0 x2 s = some q → fm_24_76 n x0 yx2 σ = some (gx q) := by
  intro n
  induction n with
  | zero =>
    intro x0 x2 yx2 e2 s σ es q g0 h
    rw [gm_24_76] at h
    exact fx_no h
  | succ n ih =>
    intro x0 x2 yx2 e2 s σ es q g0 h
    rw [gm_24_76] at h
    rw [fm_24_76]
    obtain ⟨z1, h⟩ := fx_gd h
    by_cases c2 : 8 ≤ x2
    · rw [if_pos c2] at h
      refine gb_t ((gc_le kg_8 e2 (by decide) z1).mpr c2) ?_
      have h := Option.some.inj h
      subst h
      exact gretv es
    · rw [if_neg c2] at h
      refine gb_f (fun q => c2 ((gc_le kg_8 e2 (by decide) z1).mp q)) ?_
      obtain ⟨q4, w3, h⟩ := fx_bd h
      refine gb_bind (gf_76 e2 es w3) ?_
      obtain ⟨z7, h⟩ := fx_gd h
      refine gb_bind (gl_st (rfl : _ = gx q4.2) e2 (gr q4.1) (ga_7_0 (fg_2_3 g0)) z7) ?_
      exact ih _ _ _ (ga_add e2 kg_1) _ _ (rfl : _ = gx (gw1 q4.2 ((x0 + 12) + 1) (x2).toNat q4.1)) _ g0 h
def gm_24_68 (k_17 : Nat → Int → Int → gx_S → Option (gx_S)) (x0 : Nat) (x1 : Int) (x2 : Int) (s : gx_S) : Option (gx_S) :=
  k_17 x0 x1 (x2 + 1) s
theorem gf_24_68 {kf_17 : Nat → Int32 → Int32 → fx_S → Option (fx_S)} {kg_17 : Nat → Int → Int → gx_S → Option (gx_S)} (hk_17 : ∀ (x0 : Nat) (x1 : Int) (yx1 : Int32) (e1 : yx1 = Int32.ofInt x1) (x2 : Int) (yx2 : Int32) (e2 : yx2 = Int32.ofInt x2) (s : gx_S) (σ : fx_S) (es : σ = gx s) (q : gx_S) (g0 : fx_oc x0 2 = true), kg_17 x0 x1 x2 s = some q → kf_17 x0 yx1 yx2 σ = some (gx q)) (x0 : Nat) (x1 : Int) (yx1 : Int32) (e1 : yx1 = Int32.ofInt x1) (x2 : Int) (yx2 : Int32) (e2 : yx2 = Int32.ofInt x2) (s : gx_S) (σ : fx_S) (es : σ = gx s) (q : gx_S) (g0 : fx_oc x0 2 = true) (h : gm_24_68 kg_17 x0 x1 x2 s = some q) : fm_24_68 kf_17 x0 yx1 yx2 σ = some (gx q) := by
  unfold gm_24_68 at h
  unfold fm_24_68
  exact hk_17 _ _ _ e1 _ _ (ga_add e2 kg_1) _ _ es _ g0 h
def gm_24_17 : Nat → Nat → Int → Int → gx_S → Option (gx_S)
  | 0, _, _, _, _ => none
  | n + 1, x0, x1, x2, s =>
    if (-2147483648 ≤ x2 ∧ x2 ≤ 2147483647) then (
    if (-2147483648 ≤ x1 ∧ x1 ≤ 2147483647) then (
    if x1 ≤ x2 then (
      gm_24_76 100000 x0 0 s) else (
      (gm_60 1 1 x2 s).bind fun q5 =>
      if (-2147483648 ≤ q5.1 ∧ q5.1 ≤ 2147483647) then (
      if 8 ≤ q5.1 then (
        gm_24_68 (gm_24_17 n) x0 x1 x2 q5.2) else (
        (gm_60 1 0 x2 q5.2).bind fun q9 =>
        (gm_61 1 (q9.2.1 x0 9) x2 q9.2).bind fun q11 =>
        (gm_69 (x0 + 12) q5.1 q9.1 q11.1 1 q11.2).bind fun q13 =>
        gm_24_68 (gm_24_17 n) x0 x1 x2 q13)) else none)) else none) else none
theorem gf_24_17 : ∀ (n : Nat) (x0 : Nat) (x1 : Int) (yx1 : Int32) (e1 : yx1 = Int32.ofInt x1) (x2 : Int) (yx2 : Int32) (e2 : yx2 = Int32.ofInt x2) (s : gx_S) (σ : fx_S) (es : σ = gx s) (q : gx_S) (g0 : fx_oc x0 2 = true), gm_24_17 n x0 x1 x2 s = some q → fm_24_17 n x0 yx1 yx2 σ = some (gx q) := by
  intro n
  induction n with
  | zero =>
    intro x0 x1 yx1 e1 x2 yx2 e2 s σ es q g0 h
    rw [gm_24_17] at h
    exact fx_no h
  | succ n ih =>
    intro x0 x1 yx1 e1 x2 yx2 e2 s σ es q g0 h
    rw [gm_24_17] at h
    rw [fm_24_17]
    obtain ⟨z1, h⟩ := fx_gd h
    obtain ⟨z2, h⟩ := fx_gd h
    by_cases c3 : x1 ≤ x2
    · rw [if_pos c3] at h
      refine gb_t ((gc_le e1 e2 z2 z1).mpr c3) ?_
      exact gf_24_76 100000 _ _ _ kg_0 _ _ es _ g0 h
    · rw [if_neg c3] at h
      refine gb_f (fun q => c3 ((gc_le e1 e2 z2 z1).mp q)) ?_
      obtain ⟨q5, w4, h⟩ := fx_bd h
      refine gb_bind (gf_60 kg_1 e2 es w4) ?_
      obtain ⟨z6, h⟩ := fx_gd h
      by_cases c7 : 8 ≤ q5.1
      · rw [if_pos c7] at h
        refine gb_t ((gc_le kg_8 (gr q5.1) (by decide) z6).mpr c7) ?_
        exact gf_24_68 ih _ _ _ e1 _ _ e2 _ _ (rfl : _ = gx q5.2) _ g0 h
      · rw [if_neg c7] at h
        refine gb_f (fun q => c7 ((gc_le kg_8 (gr q5.1) (by decide) z6).mp q)) ?_
        obtain ⟨q9, w8, h⟩ := fx_bd h
        refine gb_bind (gf_60 kg_0 e2 (rfl : _ = gx q5.2) w8) ?_
        obtain ⟨q11, w10, h⟩ := fx_bd h
        refine gb_bind (gf_61 (gf1 (rfl : _ = gx q9.2) x0 9) e2 (rfl : _ = gx q9.2) w10) ?_
        obtain ⟨q13, w12, h⟩ := fx_bd h
        refine gb_bind (gf_69 (gr q5.1) (gr q9.1) (gr q11.1) kg_1 (rfl : _ = gx q11.2) w12) ?_
        exact gf_24_68 ih _ _ _ e1 _ _ e2 _ _ (rfl : _ = gx q13) _ g0 h
def gm_24 (x0 : Nat) (s : gx_S) : Option (gx_S) :=
  if fx_oc x0 2 = true then (
  (gm_68 (x0 + 12) s).bind fun q46 =>
  (gm_58 1 q46).bind fun q48 =>
  gm_24_17 100000 x0 q48.1 0 q48.2) else none
theorem gf_24 {x0 : Nat} {s : gx_S} {σ : fx_S} (es : σ = gx s) {q : gx_S} (h : gm_24 x0 s = some q) : fm_24 x0 σ = some (gx q) := by
  unfold gm_24 at h
  unfold fm_24
  obtain ⟨gg, h⟩ := fx_gd h
  refine gb_t gg ?_
  have g0 := gg
  obtain ⟨q46, w45, h⟩ := fx_bd h
  refine gb_bind (gf_68 es w45) ?_
  obtain ⟨q48, w47, h⟩ := fx_bd h
  refine gb_bind (gf_58 (rfl : _ = gx q46) w47) ?_
  exact gf_24_17 100000 _ _ _ (gr q48.1) _ _ kg_0 _ _ (rfl : _ = gx q48.2) _ g0 h

/-! ZoneShares$Group.fillCoarse()V -/
def gm_25_113 (k_35 : Nat → Int → Int → gx_S → Option (gx_S)) (x0 : Nat) (x1 : Int) (x2 : Int) (s : gx_S) : Option (gx_S) :=
  k_35 x0 x1 (x2 + 1) s
theorem gf_25_113 {kf_35 : Nat → Int32 → Int32 → fx_S → Option (fx_S)} {kg_35 : Nat → Int → Int → gx_S → Option (gx_S)} (hk_35 : ∀ (x0 : Nat) (x1 : Int) (yx1 : Int32) (e1 : yx1 = Int32.ofInt x1) (x2 : Int) (yx2 : Int32) (e2 : yx2 = Int32.ofInt x2) (s : gx_S) (σ : fx_S) (es : σ = gx s) (q : gx_S) (g0 : fx_oc x0 2 = true), kg_35 x0 x1 x2 s = some q → kf_35 x0 yx1 yx2 σ = some (gx q)) (x0 : Nat) (x1 : Int) (yx1 : Int32) (e1 : yx1 = Int32.ofInt x1) (x2 : Int) (yx2 : Int32) (e2 : yx2 = Int32.ofInt x2) (s : gx_S) (σ : fx_S) (es : σ = gx s) (q : gx_S) (g0 : fx_oc x0 2 = true) (h : gm_25_113 kg_35 x0 x1 x2 s = some q) : fm_25_113 kf_35 x0 yx1 yx2 σ = some (gx q) := by
  unfold gm_25_113 at h
  unfold fm_25_113
  exact hk_35 _ _ _ e1 _ _ (ga_add e2 kg_1) _ _ es _ g0 h
def gm_25_88 (k_35 : Nat → Int → Int → gx_S → Option (gx_S)) (x0 : Nat) (x1 : Int) (x2 : Int) (x3 : Int) (s0 : Int) (s : gx_S) : Option (gx_S) :=
  (gm_61 1 (s.1 x0 9) x2 s).bind fun q2 =>
  (gm_69 (x0 + 21) x3 s0 q2.1 1 q2.2).bind fun q4 =>
  gm_25_113 k_35 x0 x1 x2 q4
theorem gf_25_88 {kf_35 : Nat → Int32 → Int32 → fx_S → Option (fx_S)} {kg_35 : Nat → Int → Int → gx_S → Option (gx_S)} (hk_35 : ∀ (x0 : Nat) (x1 : Int) (yx1 : Int32) (e1 : yx1 = Int32.ofInt x1) (x2 : Int) (yx2 : Int32) (e2 : yx2 = Int32.ofInt x2) (s : gx_S) (σ : fx_S) (es : σ = gx s) (q : gx_S) (g0 : fx_oc x0 2 = true), kg_35 x0 x1 x2 s = some q → kf_35 x0 yx1 yx2 σ = some (gx q)) (x0 : Nat) (x1 : Int) (yx1 : Int32) (e1 : yx1 = Int32.ofInt x1) (x2 : Int) (yx2 : Int32) (e2 : yx2 = Int32.ofInt x2) (x3 : Int) (yx3 : Int32) (e3 : yx3 = Int32.ofInt x3) (s0 : Int) (ys0 : Int32) (es0 : ys0 = Int32.ofInt s0) (s : gx_S) (σ : fx_S) (es : σ = gx s) (q : gx_S) (g0 : fx_oc x0 2 = true) (h : gm_25_88 kg_35 x0 x1 x2 x3 s0 s = some q) : fm_25_88 kf_35 x0 yx1 yx2 yx3 ys0 σ = some (gx q) := by
  unfold gm_25_88 at h
  unfold fm_25_88
  obtain ⟨q2, w1, h⟩ := fx_bd h
  refine gb_bind (gf_61 (gf1 es x0 9) e2 es w1) ?_
  obtain ⟨q4, w3, h⟩ := fx_bd h
  refine gb_bind (gf_69 e3 es0 (gr q2.1) kg_1 (rfl : _ = gx q2.2) w3) ?_
  exact gf_25_113 hk_35 _ _ _ e1 _ _ e2 _ _ (rfl : _ = gx q4) _ g0 h
def gm_25_35 : Nat → Nat → Int → Int → gx_S → Option (gx_S)
  | 0, _, _, _, _ => none
  | n + 1, x0, x1, x2, s =>
    if (-2147483648 ≤ x2 ∧ x2 ≤ 2147483647) then (
    if (-2147483648 ≤ x1 ∧ x1 ≤ 2147483647) then (
    if x1 ≤ x2 then (
      some s) else (
      (gm_60 1 0 x2 s).bind fun q5 =>
      (gm_60 1 1 x2 q5.2).bind fun q7 =>
      if (-2147483648 ≤ q5.1 ∧ q5.1 ≤ 2147483647) then (
      if 8 ≤ q5.1 then (
        gm_25_113 (gm_25_35 n) x0 x1 x2 q7.2) else (
        if (-2147483648 ≤ q7.1 ∧ q7.1 ≤ 2147483647) then (
        if 8 ≤ q7.1 then (
          gm_25_88 (gm_25_35 n) x0 x1 x2 q5.1 4 q7.2) else (
          if 0 ≤ q7.1 ∧ q7.1 < 8 then (
          gm_25_88 (gm_25_35 n) x0 x1 x2 q5.1 (q7.2.1 5 (q7.1).toNat) q7.2) else none)) else none)) else none)) else none) else none
theorem gf_25_35 : ∀ (n : Nat) (x0 : Nat) (x1 : Int) (yx1 : Int32) (e1 : yx1 = Int32.ofInt x1) (x2 : Int) (yx2 : Int32) (e2 : yx2 = Int32.ofInt x2) (s : gx_S) (σ : fx_S) (es : σ = gx s) (q : gx_S) (g0 : fx_oc x0 2 = true), gm_25_35 n x0 x1 x2 s = some q → fm_25_35 n x0 yx1 yx2 σ = some (gx q) := by
  intro n
  induction n with
  | zero =>
    intro x0 x1 yx1 e1 x2 yx2 e2 s σ es q g0 h
    rw [gm_25_35] at h
    exact fx_no h
  | succ n ih =>
    intro x0 x1 yx1 e1 x2 yx2 e2 s σ es q g0 h
    rw [gm_25_35] at h
    rw [fm_25_35]
    obtain ⟨z1, h⟩ := fx_gd h
    obtain ⟨z2, h⟩ := fx_gd h
    by_cases c3 : x1 ≤ x2
    · rw [if_pos c3] at h
      refine gb_t ((gc_le e1 e2 z2 z1).mpr c3) ?_
      have h := Option.some.inj h
      subst h
      exact gretv es
    · rw [if_neg c3] at h
      refine gb_f (fun q => c3 ((gc_le e1 e2 z2 z1).mp q)) ?_
      obtain ⟨q5, w4, h⟩ := fx_bd h
      refine gb_bind (gf_60 kg_0 e2 es w4) ?_
      obtain ⟨q7, w6, h⟩ := fx_bd h
      refine gb_bind (gf_60 kg_1 e2 (rfl : _ = gx q5.2) w6) ?_
      obtain ⟨z8, h⟩ := fx_gd h
      by_cases c9 : 8 ≤ q5.1
      · rw [if_pos c9] at h
        refine gb_t ((gc_le kg_8 (gr q5.1) (by decide) z8).mpr c9) ?_
        exact gf_25_113 ih _ _ _ e1 _ _ e2 _ _ (rfl : _ = gx q7.2) _ g0 h
      · rw [if_neg c9] at h
        refine gb_f (fun q => c9 ((gc_le kg_8 (gr q5.1) (by decide) z8).mp q)) ?_
        obtain ⟨z10, h⟩ := fx_gd h
        by_cases c11 : 8 ≤ q7.1
        · rw [if_pos c11] at h
          refine gb_t ((gc_le kg_8 (gr q7.1) (by decide) z10).mpr c11) ?_
          exact gf_25_88 ih _ _ _ e1 _ _ e2 _ _ (gr q5.1) _ _ kg_4 _ _ (rfl : _ = gx q7.2) _ g0 h
        · rw [if_neg c11] at h
          refine gb_f (fun q => c11 ((gc_le kg_8 (gr q7.1) (by decide) z10).mp q)) ?_
          obtain ⟨z14, h⟩ := fx_gd h
          refine gb_bind (gl_ld (rfl : _ = gx q7.2) (gr q7.1) ga_5 z14) ?_
          exact gf_25_88 ih _ _ _ e1 _ _ e2 _ _ (gr q5.1) _ _ (gr (q7.2.1 5 (q7.1).toNat)) _ _ (rfl : _ = gx q7.2) _ g0 h
def gm_25 (x0 : Nat) (s : gx_S) : Option (gx_S) :=
  if fx_oc x0 2 = true then (
  (gm_68 (x0 + 21) s).bind fun q44 =>
  (gm_58 1 (gcp q44 (x0 + 1) 0 ((x0 + 21) + 1) 0 8)).bind fun q48 =>
  gm_25_35 100000 x0 q48.1 0 q48.2) else none
theorem gf_25 {x0 : Nat} {s : gx_S} {σ : fx_S} (es : σ = gx s) {q : gx_S} (h : gm_25 x0 s = some q) : fm_25 x0 σ = some (gx q) := by
  unfold gm_25 at h
  unfold fm_25
  obtain ⟨gg, h⟩ := fx_gd h
  refine gb_t gg ?_
  have g0 := gg
  obtain ⟨q44, w43, h⟩ := fx_bd h
  refine gb_bind (gf_68 es w43) ?_
  refine gb_bind (gl_cpy (rfl : _ = gx q44) kg_0 kg_0 kg_8 (ga_2_0 g0) (ga_7_0 (fg_2_4 g0)) (by decide)) ?_
  obtain ⟨q48, w47, h⟩ := fx_bd h
  refine gb_bind (gf_58 (rfl : _ = gx (gcp q44 (x0 + 1) 0 ((x0 + 21) + 1) 0 8)) w47) ?_
  exact gf_25_35 100000 _ _ _ (gr q48.1) _ _ kg_0 _ _ (rfl : _ = gx q48.2) _ g0 h

/-! ZoneShares$Group.fillWay()V -/
def gm_26_76 : Nat → Nat → Int → gx_S → Option (gx_S)
  | 0, _, _, _ => none
  | n + 1, x0, x2, s =>
    if (-2147483648 ≤ x2 ∧ x2 ≤ 2147483647) then (
    if 4 ≤ x2 then (
      some s) else (
      (gm_76 (x0 + 21) x2 s).bind fun q4 =>
      if 0 ≤ x2 ∧ x2 < 8 then (
      gm_26_76 n x0 (x2 + 1) (gw1 q4.2 ((x0 + 30) + 1) (x2).toNat q4.1)) else none)) else none
theorem gf_26_76 : ∀ (n : Nat) (x0 : Nat) (x2 : Int) (yx2 : Int32) (e2 : yx2 = Int32.ofInt x2) (s : gx_S) (σ : fx_S) (es : σ = gx s) (q : gx_S) (g0 : fx_oc x0 2 = true), gm_26_76 n x0 x2 s = some q → fm_26_76 n x0 yx2 σ = some (gx q) := by
  intro n
  induction n with
  | zero =>
    intro x0 x2 yx2 e2 s σ es q g0 h
    rw [gm_26_76] at h
    exact fx_no h
  | succ n ih =>
    intro x0 x2 yx2 e2 s σ es q g0 h
    rw [gm_26_76] at h
    rw [fm_26_76]
    obtain ⟨z1, h⟩ := fx_gd h
    by_cases c2 : 4 ≤ x2
    · rw [if_pos c2] at h
      refine gb_t ((gc_le kg_4 e2 (by decide) z1).mpr c2) ?_
      have h := Option.some.inj h
      subst h
      exact gretv es
    · rw [if_neg c2] at h
      refine gb_f (fun q => c2 ((gc_le kg_4 e2 (by decide) z1).mp q)) ?_
      obtain ⟨q4, w3, h⟩ := fx_bd h
      refine gb_bind (gf_76 e2 es w3) ?_
      obtain ⟨z7, h⟩ := fx_gd h
      refine gb_bind (gl_st (rfl : _ = gx q4.2) e2 (gr q4.1) (ga_7_0 (fg_2_5 g0)) z7) ?_
      exact ih _ _ _ (ga_add e2 kg_1) _ _ (rfl : _ = gx (gw1 q4.2 ((x0 + 30) + 1) (x2).toNat q4.1)) _ g0 h
def gm_26_68 (k_17 : Nat → Int → Int → gx_S → Option (gx_S)) (x0 : Nat) (x1 : Int) (x2 : Int) (s : gx_S) : Option (gx_S) :=
  k_17 x0 x1 (x2 + 1) s
theorem gf_26_68 {kf_17 : Nat → Int32 → Int32 → fx_S → Option (fx_S)} {kg_17 : Nat → Int → Int → gx_S → Option (gx_S)} (hk_17 : ∀ (x0 : Nat) (x1 : Int) (yx1 : Int32) (e1 : yx1 = Int32.ofInt x1) (x2 : Int) (yx2 : Int32) (e2 : yx2 = Int32.ofInt x2) (s : gx_S) (σ : fx_S) (es : σ = gx s) (q : gx_S) (g0 : fx_oc x0 2 = true), kg_17 x0 x1 x2 s = some q → kf_17 x0 yx1 yx2 σ = some (gx q)) (x0 : Nat) (x1 : Int) (yx1 : Int32) (e1 : yx1 = Int32.ofInt x1) (x2 : Int) (yx2 : Int32) (e2 : yx2 = Int32.ofInt x2) (s : gx_S) (σ : fx_S) (es : σ = gx s) (q : gx_S) (g0 : fx_oc x0 2 = true) (h : gm_26_68 kg_17 x0 x1 x2 s = some q) : fm_26_68 kf_17 x0 yx1 yx2 σ = some (gx q) := by
  unfold gm_26_68 at h
  unfold fm_26_68
  exact hk_17 _ _ _ e1 _ _ (ga_add e2 kg_1) _ _ es _ g0 h
def gm_26_17 : Nat → Nat → Int → Int → gx_S → Option (gx_S)
  | 0, _, _, _, _ => none
  | n + 1, x0, x1, x2, s =>
    if (-2147483648 ≤ x2 ∧ x2 ≤ 2147483647) then (
    if (-2147483648 ≤ x1 ∧ x1 ≤ 2147483647) then (
    if x1 ≤ x2 then (
      gm_26_76 100000 x0 0 s) else (
      (gm_60 1 1 x2 s).bind fun q5 =>
      if (-2147483648 ≤ q5.1 ∧ q5.1 ≤ 2147483647) then (
      if 8 ≤ q5.1 then (
        gm_26_68 (gm_26_17 n) x0 x1 x2 q5.2) else (
        if 0 ≤ q5.1 ∧ q5.1 < 8 then (
        (gm_61 1 (q5.2.1 x0 9) x2 q5.2).bind fun q12 =>
        (gm_69 (x0 + 30) (q5.2.1 5 (q5.1).toNat) q5.1 q12.1 1 q12.2).bind fun q14 =>
        gm_26_68 (gm_26_17 n) x0 x1 x2 q14) else none)) else none)) else none) else none
theorem gf_26_17 : ∀ (n : Nat) (x0 : Nat) (x1 : Int) (yx1 : Int32) (e1 : yx1 = Int32.ofInt x1) (x2 : Int) (yx2 : Int32) (e2 : yx2 = Int32.ofInt x2) (s : gx_S) (σ : fx_S) (es : σ = gx s) (q : gx_S) (g0 : fx_oc x0 2 = true), gm_26_17 n x0 x1 x2 s = some q → fm_26_17 n x0 yx1 yx2 σ = some (gx q) := by
  intro n
  induction n with
  | zero =>
    intro x0 x1 yx1 e1 x2 yx2 e2 s σ es q g0 h
    rw [gm_26_17] at h
    exact fx_no h
  | succ n ih =>
    intro x0 x1 yx1 e1 x2 yx2 e2 s σ es q g0 h
    rw [gm_26_17] at h
    rw [fm_26_17]
    obtain ⟨z1, h⟩ := fx_gd h
    obtain ⟨z2, h⟩ := fx_gd h
    by_cases c3 : x1 ≤ x2
    · rw [if_pos c3] at h
      refine gb_t ((gc_le e1 e2 z2 z1).mpr c3) ?_
      exact gf_26_76 100000 _ _ _ kg_0 _ _ es _ g0 h
    · rw [if_neg c3] at h
      refine gb_f (fun q => c3 ((gc_le e1 e2 z2 z1).mp q)) ?_
      obtain ⟨q5, w4, h⟩ := fx_bd h
      refine gb_bind (gf_60 kg_1 e2 es w4) ?_
      obtain ⟨z6, h⟩ := fx_gd h
      by_cases c7 : 8 ≤ q5.1
      · rw [if_pos c7] at h
        refine gb_t ((gc_le kg_8 (gr q5.1) (by decide) z6).mpr c7) ?_
        exact gf_26_68 ih _ _ _ e1 _ _ e2 _ _ (rfl : _ = gx q5.2) _ g0 h
      · rw [if_neg c7] at h
        refine gb_f (fun q => c7 ((gc_le kg_8 (gr q5.1) (by decide) z6).mp q)) ?_
        obtain ⟨z10, h⟩ := fx_gd h
        refine gb_bind (gl_ld (rfl : _ = gx q5.2) (gr q5.1) ga_5 z10) ?_
        obtain ⟨q12, w11, h⟩ := fx_bd h
        refine gb_bind (gf_61 (gf1 (rfl : _ = gx q5.2) x0 9) e2 (rfl : _ = gx q5.2) w11) ?_
        obtain ⟨q14, w13, h⟩ := fx_bd h
        refine gb_bind (gf_69 (gr (q5.2.1 5 (q5.1).toNat)) (gr q5.1) (gr q12.1) kg_1 (rfl : _ = gx q12.2) w13) ?_
        exact gf_26_68 ih _ _ _ e1 _ _ e2 _ _ (rfl : _ = gx q14) _ g0 h
def gm_26 (x0 : Nat) (s : gx_S) : Option (gx_S) :=
  if fx_oc x0 2 = true then (
  (gm_68 (x0 + 30) s).bind fun q48 =>
  (gm_58 1 q48).bind fun q50 =>
  gm_26_17 100000 x0 q50.1 0 q50.2) else none
theorem gf_26 {x0 : Nat} {s : gx_S} {σ : fx_S} (es : σ = gx s) {q : gx_S} (h : gm_26 x0 s = some q) : fm_26 x0 σ = some (gx q) := by
  unfold gm_26 at h
  unfold fm_26
  obtain ⟨gg, h⟩ := fx_gd h
  refine gb_t gg ?_
  have g0 := gg
  obtain ⟨q48, w47, h⟩ := fx_bd h
  refine gb_bind (gf_68 es w47) ?_
  obtain ⟨q50, w49, h⟩ := fx_bd h
  refine gb_bind (gf_58 (rfl : _ = gx q48) w49) ?_
  exact gf_26_17 100000 _ _ _ (gr q50.1) _ _ kg_0 _ _ (rfl : _ = gx q50.2) _ g0 h

/-! ZoneShares$Rounder.open(LZoneShares$Table;)V -/
def gm_42_115 (k_54 : Nat → Int → Int → gx_S → Option (gx_S)) (x1 : Nat) (x2 : Int) (x4 : Int) (s1 : Int) (s2 : Int) (s3 : Int) (s : gx_S) : Option (gx_S) :=
  if 0 ≤ s1 ∧ s1 < 9 then (
  if 0 ≤ x4 ∧ x4 < 9 then (
  k_54 x1 x2 (x4 + 1) (gw1 (gw1 s 10 (s1).toNat (s2 + s3)) 11 (x4).toNat 0)) else none) else none
theorem gf_42_115 {kf_54 : Nat → Int64 → Int32 → fx_S → Option (fx_S)} {kg_54 : Nat → Int → Int → gx_S → Option (gx_S)} (hk_54 : ∀ (x1 : Nat) (x2 : Int) (yx2 : Int64) (e2 : yx2 = Int64.ofInt x2) (x4 : Int) (yx4 : Int32) (e4 : yx4 = Int32.ofInt x4) (s : gx_S) (σ : fx_S) (es : σ = gx s) (q : gx_S) (g1 : fx_oc x1 7 = true), kg_54 x1 x2 x4 s = some q → kf_54 x1 yx2 yx4 σ = some (gx q)) (x1 : Nat) (x2 : Int) (yx2 : Int64) (e2 : yx2 = Int64.ofInt x2) (x4 : Int) (yx4 : Int32) (e4 : yx4 = Int32.ofInt x4) (s1 : Int) (ys1 : Int32) (es1 : ys1 = Int32.ofInt s1) (s2 : Int) (ys2 : Int32) (es2 : ys2 = Int32.ofInt s2) (s3 : Int) (ys3 : Int32) (es3 : ys3 = Int32.ofInt s3) (s : gx_S) (σ : fx_S) (es : σ = gx s) (q : gx_S) (g1 : fx_oc x1 7 = true) (h : gm_42_115 kg_54 x1 x2 x4 s1 s2 s3 s = some q) : fm_42_115 kf_54 x1 yx2 yx4 ys1 ys2 ys3 σ = some (gx q) := by
  unfold gm_42_115 at h
  unfold fm_42_115
  obtain ⟨z3, h⟩ := fx_gd h
  refine gb_bind (gl_st es es1 (ga_add es2 es3) ga_10 z3) ?_
  obtain ⟨z6, h⟩ := fx_gd h
  refine gb_bind (gl_st (rfl : _ = gx (gw1 s 10 (s1).toNat (s2 + s3))) e4 kg_0 ga_11 z6) ?_
  exact hk_54 _ _ _ e2 _ _ (ga_add e4 kg_1) _ _ (rfl : _ = gx (gw1 (gw1 s 10 (s1).toNat (s2 + s3)) 11 (x4).toNat 0)) _ g1 h
def gm_42_54 : Nat → Nat → Int → Int → gx_S → Option (gx_S)
  | 0, _, _, _, _ => none
  | n + 1, x1, x2, x4, s =>
    if (-2147483648 ≤ x4 ∧ x4 ≤ 2147483647) then (
    if 9 ≤ x4 then (
      some s) else (
      if (-9223372036854775808 ≤ x2 ∧ x2 ≤ 9223372036854775807) then (
      if x2 ≤ 0 then (
        some s) else (
        (gm_79 x1 x4 x2 s).bind fun q6 =>
        if 0 ≤ q6.1 ∧ q6.1 ≤ 9223372036854775807 ∧ 0 < x2 ∧ x2 ≤ 9223372036854775807 then (
        if 0 ≤ x4 ∧ x4 < 9 then (
        if (-9223372036854775808 ≤ (q6.1 % x2) ∧ (q6.1 % x2) ≤ 9223372036854775807) then (
        if ¬ (q6.1 % x2) = 0 then (
          gm_42_115 (gm_42_54 n) x1 x2 x4 x4 ((gw1 q6.2 9 (x4).toNat (q6.1 / x2)).1 9 (x4).toNat) 1 (gw1 q6.2 9 (x4).toNat (q6.1 / x2))) else (
          gm_42_115 (gm_42_54 n) x1 x2 x4 x4 ((gw1 q6.2 9 (x4).toNat (q6.1 / x2)).1 9 (x4).toNat) 0 (gw1 q6.2 9 (x4).toNat (q6.1 / x2)))) else none) else none) else none)) else none)) else none
theorem gf_42_54 : ∀ (n : Nat) (x1 : Nat) (x2 : Int) (yx2 : Int64) (e2 : yx2 = Int64.ofInt x2) (x4 : Int) (yx4 : Int32) (e4 : yx4 = Int32.ofInt x4) (s : gx_S) (σ : fx_S) (es : σ = gx s) (q : gx_S) (g1 : fx_oc x1 7 = true), gm_42_54 n x1 x2 x4 s = some q → fm_42_54 n x1 yx2 yx4 σ = some (gx q) := by
  intro n
  induction n with
  | zero =>
    intro x1 x2 yx2 e2 x4 yx4 e4 s σ es q g1 h
    rw [gm_42_54] at h
    exact fx_no h
  | succ n ih =>
    intro x1 x2 yx2 e2 x4 yx4 e4 s σ es q g1 h
    rw [gm_42_54] at h
    rw [fm_42_54]
    obtain ⟨z1, h⟩ := fx_gd h
    by_cases c2 : 9 ≤ x4
    · rw [if_pos c2] at h
      refine gb_t ((gc_le kg_9 e4 (by decide) z1).mpr c2) ?_
      have h := Option.some.inj h
      subst h
      exact gretv es
    · rw [if_neg c2] at h
      refine gb_f (fun q => c2 ((gc_le kg_9 e4 (by decide) z1).mp q)) ?_
      obtain ⟨z3, h⟩ := fx_gd h
      by_cases c4 : x2 ≤ 0
      · rw [if_pos c4] at h
        refine gb_t ((gcl_le e2 kgl_0 z3 (by decide)).mpr c4) ?_
        have h := Option.some.inj h
        subst h
        exact gretv es
      · rw [if_neg c4] at h
        refine gb_f (fun q => c4 ((gcl_le e2 kgl_0 z3 (by decide)).mp q)) ?_
        obtain ⟨q6, w5, h⟩ := fx_bd h
        refine gb_bind (gf_79 e4 e2 es w5) ?_
        obtain ⟨z7, h⟩ := fx_gd h
        refine gb_t (gcl_nz e2 z7) ?_
        obtain ⟨z11, h⟩ := fx_gd h
        refine gb_bind (gl_st (rfl : _ = gx q6.2) e4 (ga_l2i (gal_div (gr2 q6.1) e2 z7)) ga_9 z11) ?_
        refine gb_bind (gl_ld (rfl : _ = gx (gw1 q6.2 9 (x4).toNat (q6.1 / x2))) e4 ga_9 z11) ?_
        refine gb_t (gcl_nz e2 z7) ?_
        obtain ⟨z15, h⟩ := fx_gd h
        by_cases c16 : ¬ (q6.1 % x2) = 0
        · rw [if_pos c16] at h
          refine gb_t ((gcl_ne (gal_rem (gr2 q6.1) e2 z7) kgl_0 z15 (by decide)).mpr c16) ?_
          exact gf_42_115 ih _ _ _ e2 _ _ e4 _ _ e4 _ _ (gr ((gw1 q6.2 9 (x4).toNat (q6.1 / x2)).1 9 (x4).toNat)) _ _ kg_1 _ _ (rfl : _ = gx (gw1 q6.2 9 (x4).toNat (q6.1 / x2))) _ g1 h
        · rw [if_neg c16] at h
          refine gb_f (fun q => c16 ((gcl_ne (gal_rem (gr2 q6.1) e2 z7) kgl_0 z15 (by decide)).mp q)) ?_
          exact gf_42_115 ih _ _ _ e2 _ _ e4 _ _ e4 _ _ (gr ((gw1 q6.2 9 (x4).toNat (q6.1 / x2)).1 9 (x4).toNat)) _ _ kg_0 _ _ (rfl : _ = gx (gw1 q6.2 9 (x4).toNat (q6.1 / x2))) _ g1 h
def gm_42_36 (k_8 : Nat → Int → Int → gx_S → Option (gx_S)) (x1 : Nat) (x2 : Int) (x4 : Int) (s1 : Int) (s2 : Int) (s : gx_S) : Option (gx_S) :=
  if 0 ≤ s1 ∧ s1 < 72 then (
  if 0 ≤ x4 ∧ x4 < 72 then (
  k_8 x1 x2 (x4 + 1) (gw1 (gw1 s 7 (s1).toNat s2) 8 (x4).toNat 0)) else none) else none
theorem gf_42_36 {kf_8 : Nat → Int64 → Int32 → fx_S → Option (fx_S)} {kg_8 : Nat → Int → Int → gx_S → Option (gx_S)} (hk_8 : ∀ (x1 : Nat) (x2 : Int) (yx2 : Int64) (e2 : yx2 = Int64.ofInt x2) (x4 : Int) (yx4 : Int32) (e4 : yx4 = Int32.ofInt x4) (s : gx_S) (σ : fx_S) (es : σ = gx s) (q : gx_S) (g1 : fx_oc x1 7 = true), kg_8 x1 x2 x4 s = some q → kf_8 x1 yx2 yx4 σ = some (gx q)) (x1 : Nat) (x2 : Int) (yx2 : Int64) (e2 : yx2 = Int64.ofInt x2) (x4 : Int) (yx4 : Int32) (e4 : yx4 = Int32.ofInt x4) (s1 : Int) (ys1 : Int32) (es1 : ys1 = Int32.ofInt s1) (s2 : Int) (ys2 : Int32) (es2 : ys2 = Int32.ofInt s2) (s : gx_S) (σ : fx_S) (es : σ = gx s) (q : gx_S) (g1 : fx_oc x1 7 = true) (h : gm_42_36 kg_8 x1 x2 x4 s1 s2 s = some q) : fm_42_36 kf_8 x1 yx2 yx4 ys1 ys2 σ = some (gx q) := by
  unfold gm_42_36 at h
  unfold fm_42_36
  obtain ⟨z3, h⟩ := fx_gd h
  refine gb_bind (gl_st es es1 es2 ga_7 z3) ?_
  obtain ⟨z6, h⟩ := fx_gd h
  refine gb_bind (gl_st (rfl : _ = gx (gw1 s 7 (s1).toNat s2)) e4 kg_0 ga_8 z6) ?_
  exact hk_8 _ _ _ e2 _ _ (ga_add e4 kg_1) _ _ (rfl : _ = gx (gw1 (gw1 s 7 (s1).toNat s2) 8 (x4).toNat 0)) _ g1 h
def gm_42_8 : Nat → Nat → Int → Int → gx_S → Option (gx_S)
  | 0, _, _, _, _ => none
  | n + 1, x1, x2, x4, s =>
    if (-2147483648 ≤ x4 ∧ x4 ≤ 2147483647) then (
    if 72 ≤ x4 then (
      gm_42_54 100000 x1 x2 0 s) else (
      if 0 ≤ x4 ∧ x4 < 72 then (
      if (-2147483648 ≤ (s.1 (x1 + 7) (x4).toNat) ∧ (s.1 (x1 + 7) (x4).toNat) ≤ 2147483647) then (
      if (s.1 (x1 + 7) (x4).toNat) ≤ 0 then (
        gm_42_36 (gm_42_8 n) x1 x2 x4 x4 0 s) else (
        gm_42_36 (gm_42_8 n) x1 x2 x4 x4 1 s)) else none) else none)) else none
theorem gf_42_8 : ∀ (n : Nat) (x1 : Nat) (x2 : Int) (yx2 : Int64) (e2 : yx2 = Int64.ofInt x2) (x4 : Int) (yx4 : Int32) (e4 : yx4 = Int32.ofInt x4) (s : gx_S) (σ : fx_S) (es : σ = gx s) (q : gx_S) (g1 : fx_oc x1 7 = true), gm_42_8 n x1 x2 x4 s = some q → fm_42_8 n x1 yx2 yx4 σ = some (gx q) := by
  intro n
  induction n with
  | zero =>
    intro x1 x2 yx2 e2 x4 yx4 e4 s σ es q g1 h
    rw [gm_42_8] at h
    exact fx_no h
  | succ n ih =>
    intro x1 x2 yx2 e2 x4 yx4 e4 s σ es q g1 h
    rw [gm_42_8] at h
    rw [fm_42_8]
    obtain ⟨z1, h⟩ := fx_gd h
    by_cases c2 : 72 ≤ x4
    · rw [if_pos c2] at h
      refine gb_t ((gc_le kg_72 e4 (by decide) z1).mpr c2) ?_
      exact gf_42_54 100000 _ _ _ e2 _ _ kg_0 _ _ es _ g1 h
    · rw [if_neg c2] at h
      refine gb_f (fun q => c2 ((gc_le kg_72 e4 (by decide) z1).mp q)) ?_
      obtain ⟨z5, h⟩ := fx_gd h
      refine gb_bind (gl_ld es e4 (ga_7_6 g1) z5) ?_
      obtain ⟨z6, h⟩ := fx_gd h
      by_cases c7 : (s.1 (x1 + 7) (x4).toNat) ≤ 0
      · rw [if_pos c7] at h
        refine gb_t ((gc_le (gr (s.1 (x1 + 7) (x4).toNat)) kg_0 z6 (by decide)).mpr c7) ?_
        exact gf_42_36 ih _ _ _ e2 _ _ e4 _ _ e4 _ _ kg_0 _ _ es _ g1 h
      · rw [if_neg c7] at h
        refine gb_f (fun q => c7 ((gc_le (gr (s.1 (x1 + 7) (x4).toNat)) kg_0 z6 (by decide)).mp q)) ?_
        exact gf_42_36 ih _ _ _ e2 _ _ e4 _ _ e4 _ _ kg_1 _ _ es _ g1 h
def gm_42 (x1 : Nat) (s : gx_S) : Option (gx_S) :=
  if fx_oc x1 7 = true then (
  (gm_78 x1 s).bind fun q55 =>
  gm_42_8 100000 x1 q55.1 0 q55.2) else none
theorem gf_42 {x1 : Nat} {s : gx_S} {σ : fx_S} (es : σ = gx s) {q : gx_S} (h : gm_42 x1 s = some q) : fm_42 x1 σ = some (gx q) := by
  unfold gm_42 at h
  unfold fm_42
  obtain ⟨gg, h⟩ := fx_gd h
  refine gb_t gg ?_
  have g1 := gg
  obtain ⟨q55, w54, h⟩ := fx_bd h
  refine gb_bind (gf_78 es w54) ?_
  exact gf_42_8 100000 _ _ _ (gr2 q55.1) _ _ kg_0 _ _ (rfl : _ = gx q55.2) _ g1 h

/-! ZoneShares$Rounder.fillRow(II)V -/
def gm_43_30 (k_2 : Int → Int → Int → gx_S → Option (gx_S)) (x1 : Int) (x2 : Int) (x3 : Int) (s : gx_S) : Option (gx_S) :=
  k_2 x1 x2 (x3 + 1) s
theorem gf_43_30 {kf_2 : Int32 → Int32 → Int32 → fx_S → Option (fx_S)} {kg_2 : Int → Int → Int → gx_S → Option (gx_S)} (hk_2 : ∀ (x1 : Int) (yx1 : Int32) (e1 : yx1 = Int32.ofInt x1) (x2 : Int) (yx2 : Int32) (e2 : yx2 = Int32.ofInt x2) (x3 : Int) (yx3 : Int32) (e3 : yx3 = Int32.ofInt x3) (s : gx_S) (σ : fx_S) (es : σ = gx s) (q : gx_S), kg_2 x1 x2 x3 s = some q → kf_2 yx1 yx2 yx3 σ = some (gx q)) (x1 : Int) (yx1 : Int32) (e1 : yx1 = Int32.ofInt x1) (x2 : Int) (yx2 : Int32) (e2 : yx2 = Int32.ofInt x2) (x3 : Int) (yx3 : Int32) (e3 : yx3 = Int32.ofInt x3) (s : gx_S) (σ : fx_S) (es : σ = gx s) (q : gx_S) (h : gm_43_30 kg_2 x1 x2 x3 s = some q) : fm_43_30 kf_2 yx1 yx2 yx3 σ = some (gx q) := by
  unfold gm_43_30 at h
  unfold fm_43_30
  exact hk_2 _ _ e1 _ _ e2 _ _ (ga_add e3 kg_1) _ _ es _ h
def gm_43_2 : Nat → Int → Int → Int → gx_S → Option (gx_S)
  | 0, _, _, _, _ => none
  | n + 1, x1, x2, x3, s =>
    if (-2147483648 ≤ x3 ∧ x3 ≤ 2147483647) then (
    if (-2147483648 ≤ x2 ∧ x2 ≤ 2147483647) then (
    if x2 ≤ x3 then (
      some s) else (
      if 9 ≤ x3 then (
        some s) else (
        (gm_46 x1 17 s).bind fun q6 =>
        if (gb q6.1) = 0 then (
          gm_43_30 (gm_43_2 n) x1 x2 x3 q6.2) else (
          (gm_51 x1 17 q6.2).bind fun q9 =>
          gm_43_30 (gm_43_2 n) x1 x2 x3 q9)))) else none) else none
theorem gf_43_2 : ∀ (n : Nat) (x1 : Int) (yx1 : Int32) (e1 : yx1 = Int32.ofInt x1) (x2 : Int) (yx2 : Int32) (e2 : yx2 = Int32.ofInt x2) (x3 : Int) (yx3 : Int32) (e3 : yx3 = Int32.ofInt x3) (s : gx_S) (σ : fx_S) (es : σ = gx s) (q : gx_S), gm_43_2 n x1 x2 x3 s = some q → fm_43_2 n yx1 yx2 yx3 σ = some (gx q) := by
  intro n
  induction n with
  | zero =>
    intro x1 yx1 e1 x2 yx2 e2 x3 yx3 e3 s σ es q  h
    rw [gm_43_2] at h
    exact fx_no h
  | succ n ih =>
    intro x1 yx1 e1 x2 yx2 e2 x3 yx3 e3 s σ es q  h
    rw [gm_43_2] at h
    rw [fm_43_2]
    obtain ⟨z1, h⟩ := fx_gd h
    obtain ⟨z2, h⟩ := fx_gd h
    by_cases c3 : x2 ≤ x3
    · rw [if_pos c3] at h
      refine gb_t ((gc_le e2 e3 z2 z1).mpr c3) ?_
      have h := Option.some.inj h
      subst h
      exact gretv es
    · rw [if_neg c3] at h
      refine gb_f (fun q => c3 ((gc_le e2 e3 z2 z1).mp q)) ?_
      by_cases c4 : 9 ≤ x3
      · rw [if_pos c4] at h
        refine gb_t ((gc_le kg_9 e3 (by decide) z1).mpr c4) ?_
        have h := Option.some.inj h
        subst h
        exact gretv es
      · rw [if_neg c4] at h
        refine gb_f (fun q => c4 ((gc_le kg_9 e3 (by decide) z1).mp q)) ?_
        obtain ⟨q6, w5, h⟩ := fx_bd h
        refine gb_bind (gf_46 e1 kg_17 es w5) ?_
        by_cases c7 : (gb q6.1) = 0
        · rw [if_pos c7] at h
          refine gb_t ((gc_eq (gb_b q6.1) kg_0 (gb_r _) (by decide)).mpr c7) ?_
          exact gf_43_30 ih _ _ e1 _ _ e2 _ _ e3 _ _ (rfl : _ = gx q6.2) _ h
        · rw [if_neg c7] at h
          refine gb_f (fun q => c7 ((gc_eq (gb_b q6.1) kg_0 (gb_r _) (by decide)).mp q)) ?_
          obtain ⟨q9, w8, h⟩ := fx_bd h
          refine gb_bind (gf_51 e1 kg_17 (rfl : _ = gx q6.2) w8) ?_
          exact gf_43_30 ih _ _ e1 _ _ e2 _ _ e3 _ _ (rfl : _ = gx q9) _ h
def gm_43 (x1 : Int) (x2 : Int) (s : gx_S) : Option (gx_S) :=
  gm_43_2 100000 x1 x2 0 s
theorem gf_43 {x1 : Int} {yx1 : Int32} (e1 : yx1 = Int32.ofInt x1) {x2 : Int} {yx2 : Int32} (e2 : yx2 = Int32.ofInt x2) {s : gx_S} {σ : fx_S} (es : σ = gx s) {q : gx_S} (h : gm_43 x1 x2 s = some q) : fm_43 yx1 yx2 σ = some (gx q) := by
  unfold gm_43 at h
  unfold fm_43
  exact gf_43_2 100000 _ _ e1 _ _ e2 _ _ kg_0 _ _ es _ h

/-! ZoneShares$Rounder.fillColumn(I)V -/
def gm_44_56 (k_2 : Int → Int → gx_S → Option (gx_S)) (x1 : Int) (x2 : Int) (s : gx_S) : Option (gx_S) :=
  k_2 x1 (x2 + 1) s
theorem gf_44_56 {kf_2 : Int32 → Int32 → fx_S → Option (fx_S)} {kg_2 : Int → Int → gx_S → Option (gx_S)} (hk_2 : ∀ (x1 : Int) (yx1 : Int32) (e1 : yx1 = Int32.ofInt x1) (x2 : Int) (yx2 : Int32) (e2 : yx2 = Int32.ofInt x2) (s : gx_S) (σ : fx_S) (es : σ = gx s) (q : gx_S), kg_2 x1 x2 s = some q → kf_2 yx1 yx2 σ = some (gx q)) (x1 : Int) (yx1 : Int32) (e1 : yx1 = Int32.ofInt x1) (x2 : Int) (yx2 : Int32) (e2 : yx2 = Int32.ofInt x2) (s : gx_S) (σ : fx_S) (es : σ = gx s) (q : gx_S) (h : gm_44_56 kg_2 x1 x2 s = some q) : fm_44_56 kf_2 yx1 yx2 σ = some (gx q) := by
  unfold gm_44_56 at h
  unfold fm_44_56
  exact hk_2 _ _ e1 _ _ (ga_add e2 kg_1) _ _ es _ h
def gm_44_2 : Nat → Int → Int → gx_S → Option (gx_S)
  | 0, _, _, _ => none
  | n + 1, x1, x2, s =>
    if (-2147483648 ≤ x2 ∧ x2 ≤ 2147483647) then (
    if 8 ≤ x2 then (
      some s) else (
      if 0 ≤ x1 ∧ x1 < 9 then (
      if (-2147483648 ≤ (s.1 11 (x1).toNat) ∧ (s.1 11 (x1).toNat) ≤ 2147483647) then (
      if (-2147483648 ≤ (s.1 9 (x1).toNat) ∧ (s.1 9 (x1).toNat) ≤ 2147483647) then (
      if (s.1 9 (x1).toNat) ≤ (s.1 11 (x1).toNat) then (
        some s) else (
        (gm_46 17 (8 + x1) s).bind fun q12 =>
        if (gb q12.1) = 0 then (
          gm_44_56 (gm_44_2 n) x1 x2 q12.2) else (
          (gm_51 17 (8 + x1) q12.2).bind fun q15 =>
          gm_44_56 (gm_44_2 n) x1 x2 (gw1 q15 11 (x1).toNat ((q15.1 11 (x1).toNat) + 1))))) else none) else none) else none)) else none
theorem gf_44_2 : ∀ (n : Nat) (x1 : Int) (yx1 : Int32) (e1 : yx1 = Int32.ofInt x1) (x2 : Int) (yx2 : Int32) (e2 : yx2 = Int32.ofInt x2) (s : gx_S) (σ : fx_S) (es : σ = gx s) (q : gx_S), gm_44_2 n x1 x2 s = some q → fm_44_2 n yx1 yx2 σ = some (gx q) := by
  intro n
  induction n with
  | zero =>
    intro x1 yx1 e1 x2 yx2 e2 s σ es q  h
    rw [gm_44_2] at h
    exact fx_no h
  | succ n ih =>
    intro x1 yx1 e1 x2 yx2 e2 s σ es q  h
    rw [gm_44_2] at h
    rw [fm_44_2]
    obtain ⟨z1, h⟩ := fx_gd h
    by_cases c2 : 8 ≤ x2
    · rw [if_pos c2] at h
      refine gb_t ((gc_le kg_8 e2 (by decide) z1).mpr c2) ?_
      have h := Option.some.inj h
      subst h
      exact gretv es
    · rw [if_neg c2] at h
      refine gb_f (fun q => c2 ((gc_le kg_8 e2 (by decide) z1).mp q)) ?_
      obtain ⟨z5, h⟩ := fx_gd h
      refine gb_bind (gl_ld es e1 ga_11 z5) ?_
      refine gb_bind (gl_ld es e1 ga_9 z5) ?_
      obtain ⟨z8, h⟩ := fx_gd h
      obtain ⟨z9, h⟩ := fx_gd h
      by_cases c10 : (s.1 9 (x1).toNat) ≤ (s.1 11 (x1).toNat)
      · rw [if_pos c10] at h
        refine gb_t ((gc_le (gr (s.1 9 (x1).toNat)) (gr (s.1 11 (x1).toNat)) z9 z8).mpr c10) ?_
        have h := Option.some.inj h
        subst h
        exact gretv es
      · rw [if_neg c10] at h
        refine gb_f (fun q => c10 ((gc_le (gr (s.1 9 (x1).toNat)) (gr (s.1 11 (x1).toNat)) z9 z8).mp q)) ?_
        obtain ⟨q12, w11, h⟩ := fx_bd h
        refine gb_bind (gf_46 kg_17 (ga_add kg_8 e1) es w11) ?_
        by_cases c13 : (gb q12.1) = 0
        · rw [if_pos c13] at h
          refine gb_t ((gc_eq (gb_b q12.1) kg_0 (gb_r _) (by decide)).mpr c13) ?_
          exact gf_44_56 ih _ _ e1 _ _ e2 _ _ (rfl : _ = gx q12.2) _ h
        · rw [if_neg c13] at h
          refine gb_f (fun q => c13 ((gc_eq (gb_b q12.1) kg_0 (gb_r _) (by decide)).mp q)) ?_
          obtain ⟨q15, w14, h⟩ := fx_bd h
          refine gb_bind (gf_51 kg_17 (ga_add kg_8 e1) (rfl : _ = gx q12.2) w14) ?_
          refine gb_bind (gl_ld (rfl : _ = gx q15) e1 ga_11 z5) ?_
          refine gb_bind (gl_st (rfl : _ = gx q15) e1 (ga_add (gr (q15.1 11 (x1).toNat)) kg_1) ga_11 z5) ?_
          exact gf_44_56 ih _ _ e1 _ _ e2 _ _ (rfl : _ = gx (gw1 q15 11 (x1).toNat ((q15.1 11 (x1).toNat) + 1))) _ h
def gm_44 (x1 : Int) (s : gx_S) : Option (gx_S) :=
  gm_44_2 100000 x1 0 s
theorem gf_44 {x1 : Int} {yx1 : Int32} (e1 : yx1 = Int32.ofInt x1) {s : gx_S} {σ : fx_S} (es : σ = gx s) {q : gx_S} (h : gm_44 x1 s = some q) : fm_44 yx1 σ = some (gx q) := by
  unfold gm_44 at h
  unfold fm_44
  exact gf_44_2 100000 _ _ e1 _ _ kg_0 _ _ es _ h

/-! ZoneShares$Rounder.fix(I)V -/
def gm_45 (x1 : Int) (s : gx_S) : Option (gx_S) :=
  if 0 ≤ x1 ∧ x1 < 72 then (
  if 0 ≤ x1 ∧ x1 ≤ 2147483647 then (
  if (-2147483648 ≤ ((gw1 s 7 (x1).toNat 0).1 8 (x1).toNat) ∧ ((gw1 s 7 (x1).toNat 0).1 8 (x1).toNat) ≤ 2147483647) then (
  if ¬ ((gw1 s 7 (x1).toNat 0).1 8 (x1).toNat) = 0 then (
    some (gw1 s 7 (x1).toNat 0)) else (
    (gm_46 (8 + (x1 % 9)) (x1 / 9) (gw1 s 7 (x1).toNat 0)).bind fun q25 =>
    if (gb q25.1) = 0 then (
      some q25.2) else (
      (gm_51 (8 + (x1 % 9)) (x1 / 9) q25.2).bind fun q28 =>
      some (gw1 q28 8 (x1).toNat 1)))) else none) else none) else none
theorem gf_45 {x1 : Int} {yx1 : Int32} (e1 : yx1 = Int32.ofInt x1) {s : gx_S} {σ : fx_S} (es : σ = gx s) {q : gx_S} (h : gm_45 x1 s = some q) : fm_45 yx1 σ = some (gx q) := by
  unfold gm_45 at h
  unfold fm_45
  obtain ⟨z18, h⟩ := fx_gd h
  refine gb_bind (gl_st es e1 kg_0 ga_7 z18) ?_
  obtain ⟨z19, h⟩ := fx_gd h
  refine gb_bind (gl_ld (rfl : _ = gx (gw1 s 7 (x1).toNat 0)) e1 ga_8 z18) ?_
  obtain ⟨z22, h⟩ := fx_gd h
  by_cases c23 : ¬ ((gw1 s 7 (x1).toNat 0).1 8 (x1).toNat) = 0
  · rw [if_pos c23] at h
    refine gb_t ((gc_ne (gr ((gw1 s 7 (x1).toNat 0).1 8 (x1).toNat)) kg_0 z22 (by decide)).mpr c23) ?_
    have h := Option.some.inj h
    subst h
    exact gretv (rfl : _ = gx (gw1 s 7 (x1).toNat 0))
  · rw [if_neg c23] at h
    refine gb_f (fun q => c23 ((gc_ne (gr ((gw1 s 7 (x1).toNat 0).1 8 (x1).toNat)) kg_0 z22 (by decide)).mp q)) ?_
    obtain ⟨q25, w24, h⟩ := fx_bd h
    refine gb_bind (gf_46 (ga_add kg_8 (ga_rem e1 kg_9 ⟨z19.1, z19.2, by decide, by decide⟩)) (ga_div e1 kg_9 ⟨z19.1, z19.2, by decide, by decide⟩) (rfl : _ = gx (gw1 s 7 (x1).toNat 0)) w24) ?_
    by_cases c26 : (gb q25.1) = 0
    · rw [if_pos c26] at h
      refine gb_t ((gc_eq (gb_b q25.1) kg_0 (gb_r _) (by decide)).mpr c26) ?_
      have h := Option.some.inj h
      subst h
      exact gretv (rfl : _ = gx q25.2)
    · rw [if_neg c26] at h
      refine gb_f (fun q => c26 ((gc_eq (gb_b q25.1) kg_0 (gb_r _) (by decide)).mp q)) ?_
      obtain ⟨q28, w27, h⟩ := fx_bd h
      refine gb_bind (gf_51 (ga_add kg_8 (ga_rem e1 kg_9 ⟨z19.1, z19.2, by decide, by decide⟩)) (ga_div e1 kg_9 ⟨z19.1, z19.2, by decide, by decide⟩) (rfl : _ = gx q25.2) w27) ?_
      refine gb_bind (gl_st (rfl : _ = gx q28) e1 kg_1 ga_8 z18) ?_
      have h := Option.some.inj h
      subst h
      exact gretv (rfl : _ = gx (gw1 q28 8 (x1).toNat 1))

/-! ZoneShares.layer(I)I -/
def gm_87_26 (x1 : Int) (s : gx_S) : Option (Int × gx_S) :=
  (gm_34 x1 1 s).bind fun q2 =>
  if (-2147483648 ≤ q2.1 ∧ q2.1 ≤ 2147483647) then (
  if q2.1 = (-1) then (
    (gm_119 (gw1 q2.2 14 1 0)).bind fun q6 =>
    (gm_55 1 x1 q6).bind fun q8 =>
    (gm_58 1 q8).bind fun q10 =>
    some (q10.1, q10.2)) else (
    some (((-2) - q2.1), (gw1 q2.2 14 1 0)))) else none
theorem gf_87_26 (x1 : Int) (yx1 : Int32) (e1 : yx1 = Int32.ofInt x1) (s : gx_S) (σ : fx_S) (es : σ = gx s) (q : Int × gx_S) (h : gm_87_26 x1 s = some q) : fm_87_26 yx1 σ = some (Int32.ofInt q.1, gx q.2) := by
  unfold gm_87_26 at h
  unfold fm_87_26
  obtain ⟨q2, w1, h⟩ := fx_bd h
  refine gb_bind (gf_34 e1 es w1) ?_
  obtain ⟨z3, h⟩ := fx_gd h
  by_cases c4 : q2.1 = (-1)
  · rw [if_pos c4] at h
    refine gb_t ((gc_eq (gr q2.1) kg_m1 z3 (by decide)).mpr c4) ?_
    obtain ⟨q6, w5, h⟩ := fx_bd h
    refine gb_bind (gf_119 (gx_w1 (rfl : _ = gx q2.2) kg_0) w5) ?_
    obtain ⟨q8, w7, h⟩ := fx_bd h
    refine gb_bind (gf_55 e1 (rfl : _ = gx q6) w7) ?_
    obtain ⟨q10, w9, h⟩ := fx_bd h
    refine gb_bind (gf_58 (rfl : _ = gx q8) w9) ?_
    have h := Option.some.inj h
    subst h
    exact gret (gr q10.1) (rfl : _ = gx q10.2)
  · rw [if_neg c4] at h
    refine gb_f (fun q => c4 ((gc_eq (gr q2.1) kg_m1 z3 (by decide)).mp q)) ?_
    have h := Option.some.inj h
    subst h
    exact gret (ga_sub kg_m2 (gr q2.1)) (gx_w1 (rfl : _ = gx q2.2) kg_0)
def gm_87 (x1 : Int) (s : gx_S) : Option (Int × gx_S) :=
  if (-2147483648 ≤ x1 ∧ x1 ≤ 2147483647) then (
  if x1 < 0 then (
    some ((-1), s)) else (
    if 2 < x1 then (
      some ((-1), s)) else (
      if x1 = 0 then (
        gm_87_26 x1 s) else (
        (gm_56 1 0 s).bind fun q23 =>
        if ¬ (gb q23.1) = 0 then (
          gm_87_26 x1 q23.2) else (
          some ((-1), q23.2)))))) else none
theorem gf_87 {x1 : Int} {yx1 : Int32} (e1 : yx1 = Int32.ofInt x1) {s : gx_S} {σ : fx_S} (es : σ = gx s) {q : Int × gx_S} (h : gm_87 x1 s = some q) : fm_87 yx1 σ = some (Int32.ofInt q.1, gx q.2) := by
  unfold gm_87 at h
  unfold fm_87
  obtain ⟨z18, h⟩ := fx_gd h
  by_cases c19 : x1 < 0
  · rw [if_pos c19] at h
    refine gb_t ((gc_lt e1 kg_0 z18 (by decide)).mpr c19) ?_
    have h := Option.some.inj h
    subst h
    exact gret kg_m1 es
  · rw [if_neg c19] at h
    refine gb_f (fun q => c19 ((gc_lt e1 kg_0 z18 (by decide)).mp q)) ?_
    by_cases c20 : 2 < x1
    · rw [if_pos c20] at h
      refine gb_t ((gc_lt kg_2 e1 (by decide) z18).mpr c20) ?_
      have h := Option.some.inj h
      subst h
      exact gret kg_m1 es
    · rw [if_neg c20] at h
      refine gb_f (fun q => c20 ((gc_lt kg_2 e1 (by decide) z18).mp q)) ?_
      by_cases c21 : x1 = 0
      · rw [if_pos c21] at h
        refine gb_t ((gc_eq e1 kg_0 z18 (by decide)).mpr c21) ?_
        exact gf_87_26 _ _ e1 _ _ es _ h
      · rw [if_neg c21] at h
        refine gb_f (fun q => c21 ((gc_eq e1 kg_0 z18 (by decide)).mp q)) ?_
        obtain ⟨q23, w22, h⟩ := fx_bd h
        refine gb_bind (gf_56 kg_0 es w22) ?_
        by_cases c24 : ¬ (gb q23.1) = 0
        · rw [if_pos c24] at h
          refine gb_t ((gc_ne (gb_b q23.1) kg_0 (gb_r _) (by decide)).mpr c24) ?_
          exact gf_87_26 _ _ e1 _ _ (rfl : _ = gx q23.2) _ h
        · rw [if_neg c24] at h
          refine gb_f (fun q => c24 ((gc_ne (gb_b q23.1) kg_0 (gb_r _) (by decide)).mp q)) ?_
          have h := Option.some.inj h
          subst h
          exact gret kg_m1 (rfl : _ = gx q23.2)

/-! ZoneShares.weigh(III)I -/
def gm_89_137 : Nat → Int → Int → Int → Int → Int → gx_S → Option (Int × gx_S)
  | 0, _, _, _, _, _, _ => none
  | n + 1, x2, x3, x5, x7, x8, s =>
    if (-2147483648 ≤ x8 ∧ x8 ≤ 2147483647) then (
    if (-2147483648 ≤ x5 ∧ x5 ≤ 2147483647) then (
    if x5 < x8 then (
      some (x7, s)) else (
      if 0 ≤ ((x8 * 4) + x2) ∧ ((x8 * 4) + x2) < 12 then (
      gm_89_137 n x2 x3 x5 x7 (x8 + 1) (gw1 s 4 (((x8 * 4) + x2)).toNat x3)) else none)) else none) else none
theorem gf_89_137 : ∀ (n : Nat) (x2 : Int) (yx2 : Int32) (e2 : yx2 = Int32.ofInt x2) (x3 : Int) (yx3 : Int32) (e3 : yx3 = Int32.ofInt x3) (x5 : Int) (yx5 : Int32) (e5 : yx5 = Int32.ofInt x5) (x7 : Int) (yx7 : Int32) (e7 : yx7 = Int32.ofInt x7) (x8 : Int) (yx8 : Int32) (e8 : yx8 = Int32.ofInt x8) (s : gx_S) (σ : fx_S) (es : σ = gx s) (q : Int × gx_S), gm_89_137 n x2 x3 x5 x7 x8 s = some q → fm_89_137 n yx2 yx3 yx5 yx7 yx8 σ = some (Int32.ofInt q.1, gx q.2) := by
  intro n
  induction n with
  | zero =>
    intro x2 yx2 e2 x3 yx3 e3 x5 yx5 e5 x7 yx7 e7 x8 yx8 e8 s σ es q  h
    rw [gm_89_137] at h
    exact fx_no h
  | succ n ih =>
    intro x2 yx2 e2 x3 yx3 e3 x5 yx5 e5 x7 yx7 e7 x8 yx8 e8 s σ es q  h
    rw [gm_89_137] at h
    rw [fm_89_137]
    obtain ⟨z1, h⟩ := fx_gd h
    obtain ⟨z2, h⟩ := fx_gd h
    by_cases c3 : x5 < x8
    · rw [if_pos c3] at h
      refine gb_t ((gc_lt e5 e8 z2 z1).mpr c3) ?_
      have h := Option.some.inj h
      subst h
      exact gret e7 es
    · rw [if_neg c3] at h
      refine gb_f (fun q => c3 ((gc_lt e5 e8 z2 z1).mp q)) ?_
      obtain ⟨z6, h⟩ := fx_gd h
      refine gb_bind (gl_st es (ga_add (ga_mul e8 kg_4) e2) e3 ga_4 z6) ?_
      exact ih _ _ e2 _ _ e3 _ _ e5 _ _ e7 _ _ (ga_add e8 kg_1) _ _ (rfl : _ = gx (gw1 s 4 (((x8 * 4) + x2)).toNat x3)) _ h
def gm_89_97 (k_62 : Int → Int → Int → Int → Int → Int → gx_S → Option (Int × gx_S)) (x2 : Int) (x3 : Int) (x4 : Int) (x5 : Int) (x7 : Int) (s0 : Int) (s : gx_S) : Option (Int × gx_S) :=
  k_62 x2 x3 x4 x5 s0 (x7 + 1) s
theorem gf_89_97 {kf_62 : Int32 → Int32 → Int32 → Int32 → Int32 → Int32 → fx_S → Option (Int32 × fx_S)} {kg_62 : Int → Int → Int → Int → Int → Int → gx_S → Option (Int × gx_S)} (hk_62 : ∀ (x2 : Int) (yx2 : Int32) (e2 : yx2 = Int32.ofInt x2) (x3 : Int) (yx3 : Int32) (e3 : yx3 = Int32.ofInt x3) (x4 : Int) (yx4 : Int32) (e4 : yx4 = Int32.ofInt x4) (x5 : Int) (yx5 : Int32) (e5 : yx5 = Int32.ofInt x5) (x6 : Int) (yx6 : Int32) (e6 : yx6 = Int32.ofInt x6) (x7 : Int) (yx7 : Int32) (e7 : yx7 = Int32.ofInt x7) (s : gx_S) (σ : fx_S) (es : σ = gx s) (q : Int × gx_S), kg_62 x2 x3 x4 x5 x6 x7 s = some q → kf_62 yx2 yx3 yx4 yx5 yx6 yx7 σ = some (Int32.ofInt q.1, gx q.2)) (x2 : Int) (yx2 : Int32) (e2 : yx2 = Int32.ofInt x2) (x3 : Int) (yx3 : Int32) (e3 : yx3 = Int32.ofInt x3) (x4 : Int) (yx4 : Int32) (e4 : yx4 = Int32.ofInt x4) (x5 : Int) (yx5 : Int32) (e5 : yx5 = Int32.ofInt x5) (x7 : Int) (yx7 : Int32) (e7 : yx7 = Int32.ofInt x7) (s0 : Int) (ys0 : Int32) (es0 : ys0 = Int32.ofInt s0) (s : gx_S) (σ : fx_S) (es : σ = gx s) (q : Int × gx_S) (h : gm_89_97 kg_62 x2 x3 x4 x5 x7 s0 s = some q) : fm_89_97 kf_62 yx2 yx3 yx4 yx5 yx7 ys0 σ = some (Int32.ofInt q.1, gx q.2) := by
  unfold gm_89_97 at h
  unfold fm_89_97
  exact hk_62 _ _ e2 _ _ e3 _ _ e4 _ _ e5 _ _ es0 _ _ (ga_add e7 kg_1) _ _ es _ h
def gm_89_62 : Nat → Int → Int → Int → Int → Int → Int → gx_S → Option (Int × gx_S)
  | 0, _, _, _, _, _, _, _ => none
  | n + 1, x2, x3, x4, x5, x6, x7, s =>
    if (-2147483648 ≤ x7 ∧ x7 ≤ 2147483647) then (
    if (-2147483648 ≤ x5 ∧ x5 ≤ 2147483647) then (
    if x5 < x7 then (
      if (-2147483648 ≤ x6 ∧ x6 ≤ 2147483647) then (
      if x6 = 0 then (
        if 0 ≤ ((x4 * 4) + x2) ∧ ((x4 * 4) + x2) < 12 then (
        (gm_119 s).bind fun q10 =>
        gm_89_137 100000 x2 x3 x5 (s.1 4 (((x4 * 4) + x2)).toNat) x4 q10) else none) else (
        some ((-2), s))) else none) else (
      if (-2147483648 ≤ x6 ∧ x6 ≤ 2147483647) then (
      if x6 = 0 then (
        gm_89_97 (gm_89_62 n) x2 x3 x4 x5 x7 0 s) else (
        if 0 ≤ ((x7 * 4) + x2) ∧ ((x7 * 4) + x2) < 12 then (
        if (-2147483648 ≤ (s.1 4 (((x7 * 4) + x2)).toNat) ∧ (s.1 4 (((x7 * 4) + x2)).toNat) ≤ 2147483647) then (
        if (-2147483648 ≤ x3 ∧ x3 ≤ 2147483647) then (
        if ¬ (s.1 4 (((x7 * 4) + x2)).toNat) = x3 then (
          gm_89_97 (gm_89_62 n) x2 x3 x4 x5 x7 0 s) else (
          gm_89_97 (gm_89_62 n) x2 x3 x4 x5 x7 1 s)) else none) else none) else none)) else none)) else none) else none
theorem gf_89_62 : ∀ (n : Nat) (x2 : Int) (yx2 : Int32) (e2 : yx2 = Int32.ofInt x2) (x3 : Int) (yx3 : Int32) (e3 : yx3 = Int32.ofInt x3) (x4 : Int) (yx4 : Int32) (e4 : yx4 = Int32.ofInt x4) (x5 : Int) (yx5 : Int32) (e5 : yx5 = Int32.ofInt x5) (x6 : Int) (yx6 : Int32) (e6 : yx6 = Int32.ofInt x6) (x7 : Int) (yx7 : Int32) (e7 : yx7 = Int32.ofInt x7) (s : gx_S) (σ : fx_S) (es : σ = gx s) (q : Int × gx_S), gm_89_62 n x2 x3 x4 x5 x6 x7 s = some q → fm_89_62 n yx2 yx3 yx4 yx5 yx6 yx7 σ = some (Int32.ofInt q.1, gx q.2) := by
  intro n
  induction n with
  | zero =>
    intro x2 yx2 e2 x3 yx3 e3 x4 yx4 e4 x5 yx5 e5 x6 yx6 e6 x7 yx7 e7 s σ es q  h
    rw [gm_89_62] at h
    exact fx_no h
  | succ n ih =>
    intro x2 yx2 e2 x3 yx3 e3 x4 yx4 e4 x5 yx5 e5 x6 yx6 e6 x7 yx7 e7 s σ es q  h
    rw [gm_89_62] at h
    rw [fm_89_62]
    obtain ⟨z1, h⟩ := fx_gd h
    obtain ⟨z2, h⟩ := fx_gd h
    by_cases c3 : x5 < x7
    · rw [if_pos c3] at h
      refine gb_t ((gc_lt e5 e7 z2 z1).mpr c3) ?_
      obtain ⟨z4, h⟩ := fx_gd h
      by_cases c5 : x6 = 0
      · rw [if_pos c5] at h
        refine gb_t ((gc_eq e6 kg_0 z4 (by decide)).mpr c5) ?_
        obtain ⟨z8, h⟩ := fx_gd h
        refine gb_bind (gl_ld es (ga_add (ga_mul e4 kg_4) e2) ga_4 z8) ?_
        obtain ⟨q10, w9, h⟩ := fx_bd h
        refine gb_bind (gf_119 es w9) ?_
        exact gf_89_137 100000 _ _ e2 _ _ e3 _ _ e5 _ _ (gr (s.1 4 (((x4 * 4) + x2)).toNat)) _ _ e4 _ _ (rfl : _ = gx q10) _ h
      · rw [if_neg c5] at h
        refine gb_f (fun q => c5 ((gc_eq e6 kg_0 z4 (by decide)).mp q)) ?_
        have h := Option.some.inj h
        subst h
        exact gret kg_m2 es
    · rw [if_neg c3] at h
      refine gb_f (fun q => c3 ((gc_lt e5 e7 z2 z1).mp q)) ?_
      obtain ⟨z11, h⟩ := fx_gd h
      by_cases c12 : x6 = 0
      · rw [if_pos c12] at h
        refine gb_t ((gc_eq e6 kg_0 z11 (by decide)).mpr c12) ?_
        exact gf_89_97 ih _ _ e2 _ _ e3 _ _ e4 _ _ e5 _ _ e7 _ _ kg_0 _ _ es _ h
      · rw [if_neg c12] at h
        refine gb_f (fun q => c12 ((gc_eq e6 kg_0 z11 (by decide)).mp q)) ?_
        obtain ⟨z15, h⟩ := fx_gd h
        refine gb_bind (gl_ld es (ga_add (ga_mul e7 kg_4) e2) ga_4 z15) ?_
        obtain ⟨z16, h⟩ := fx_gd h
        obtain ⟨z17, h⟩ := fx_gd h
        by_cases c18 : ¬ (s.1 4 (((x7 * 4) + x2)).toNat) = x3
        · rw [if_pos c18] at h
          refine gb_t ((gc_ne (gr (s.1 4 (((x7 * 4) + x2)).toNat)) e3 z16 z17).mpr c18) ?_
          exact gf_89_97 ih _ _ e2 _ _ e3 _ _ e4 _ _ e5 _ _ e7 _ _ kg_0 _ _ es _ h
        · rw [if_neg c18] at h
          refine gb_f (fun q => c18 ((gc_ne (gr (s.1 4 (((x7 * 4) + x2)).toNat)) e3 z16 z17).mp q)) ?_
          exact gf_89_97 ih _ _ e2 _ _ e3 _ _ e4 _ _ e5 _ _ e7 _ _ kg_1 _ _ es _ h
def gm_89_53 (x2 : Int) (x3 : Int) (x4 : Int) (s0 : Int) (s : gx_S) : Option (Int × gx_S) :=
  gm_89_62 100000 x2 x3 x4 s0 1 x4 s
theorem gf_89_53 (x2 : Int) (yx2 : Int32) (e2 : yx2 = Int32.ofInt x2) (x3 : Int) (yx3 : Int32) (e3 : yx3 = Int32.ofInt x3) (x4 : Int) (yx4 : Int32) (e4 : yx4 = Int32.ofInt x4) (s0 : Int) (ys0 : Int32) (es0 : ys0 = Int32.ofInt s0) (s : gx_S) (σ : fx_S) (es : σ = gx s) (q : Int × gx_S) (h : gm_89_53 x2 x3 x4 s0 s = some q) : fm_89_53 yx2 yx3 yx4 ys0 σ = some (Int32.ofInt q.1, gx q.2) := by
  unfold gm_89_53 at h
  unfold fm_89_53
  exact gf_89_62 100000 _ _ e2 _ _ e3 _ _ e4 _ _ es0 _ _ kg_1 _ _ e4 _ _ es _ h
def gm_89_41 (x1 : Int) (x2 : Int) (x3 : Int) (s0 : Int) (s : gx_S) : Option (Int × gx_S) :=
  if (-2147483648 ≤ x1 ∧ x1 ≤ 2147483647) then (
  if ¬ x1 = (-1) then (
    gm_89_53 x2 x3 s0 x1 s) else (
    gm_89_53 x2 x3 s0 2 s)) else none
theorem gf_89_41 (x1 : Int) (yx1 : Int32) (e1 : yx1 = Int32.ofInt x1) (x2 : Int) (yx2 : Int32) (e2 : yx2 = Int32.ofInt x2) (x3 : Int) (yx3 : Int32) (e3 : yx3 = Int32.ofInt x3) (s0 : Int) (ys0 : Int32) (es0 : ys0 = Int32.ofInt s0) (s : gx_S) (σ : fx_S) (es : σ = gx s) (q : Int × gx_S) (h : gm_89_41 x1 x2 x3 s0 s = some q) : fm_89_41 yx1 yx2 yx3 ys0 σ = some (Int32.ofInt q.1, gx q.2) := by
  unfold gm_89_41 at h
  unfold fm_89_41
  obtain ⟨z1, h⟩ := fx_gd h
  by_cases c2 : ¬ x1 = (-1)
  · rw [if_pos c2] at h
    refine gb_t ((gc_ne e1 kg_m1 z1 (by decide)).mpr c2) ?_
    exact gf_89_53 _ _ e2 _ _ e3 _ _ es0 _ _ e1 _ _ es _ h
  · rw [if_neg c2] at h
    refine gb_f (fun q => c2 ((gc_ne e1 kg_m1 z1 (by decide)).mp q)) ?_
    exact gf_89_53 _ _ e2 _ _ e3 _ _ es0 _ _ kg_2 _ _ es _ h
def gm_89_12 (x1 : Int) (x2 : Int) (x3 : Int) (s : gx_S) : Option (Int × gx_S) :=
  (gm_116 x2 s).bind fun q2 =>
  if (gb q2.1) = 0 then (
    some ((-1), q2.2)) else (
    if (-2147483648 ≤ x3 ∧ x3 ≤ 2147483647) then (
    if x3 < 0 then (
      some ((-1), q2.2)) else (
      if x3 ≤ 9 then (
        if (-2147483648 ≤ x1 ∧ x1 ≤ 2147483647) then (
        if ¬ x1 = (-1) then (
          gm_89_41 x1 x2 x3 x1 q2.2) else (
          gm_89_41 x1 x2 x3 0 q2.2)) else none) else (
        some ((-1), q2.2)))) else none)
theorem gf_89_12 (x1 : Int) (yx1 : Int32) (e1 : yx1 = Int32.ofInt x1) (x2 : Int) (yx2 : Int32) (e2 : yx2 = Int32.ofInt x2) (x3 : Int) (yx3 : Int32) (e3 : yx3 = Int32.ofInt x3) (s : gx_S) (σ : fx_S) (es : σ = gx s) (q : Int × gx_S) (h : gm_89_12 x1 x2 x3 s = some q) : fm_89_12 yx1 yx2 yx3 σ = some (Int32.ofInt q.1, gx q.2) := by
  unfold gm_89_12 at h
  unfold fm_89_12
  obtain ⟨q2, w1, h⟩ := fx_bd h
  refine gb_bind (gf_116 e2 es w1) ?_
  by_cases c3 : (gb q2.1) = 0
  · rw [if_pos c3] at h
    refine gb_t ((gc_eq (gb_b q2.1) kg_0 (gb_r _) (by decide)).mpr c3) ?_
    have h := Option.some.inj h
    subst h
    exact gret kg_m1 (rfl : _ = gx q2.2)
  · rw [if_neg c3] at h
    refine gb_f (fun q => c3 ((gc_eq (gb_b q2.1) kg_0 (gb_r _) (by decide)).mp q)) ?_
    obtain ⟨z4, h⟩ := fx_gd h
    by_cases c5 : x3 < 0
    · rw [if_pos c5] at h
      refine gb_t ((gc_lt e3 kg_0 z4 (by decide)).mpr c5) ?_
      have h := Option.some.inj h
      subst h
      exact gret kg_m1 (rfl : _ = gx q2.2)
    · rw [if_neg c5] at h
      refine gb_f (fun q => c5 ((gc_lt e3 kg_0 z4 (by decide)).mp q)) ?_
      by_cases c6 : x3 ≤ 9
      · rw [if_pos c6] at h
        refine gb_t ((gc_le e3 kg_9 z4 (by decide)).mpr c6) ?_
        obtain ⟨z7, h⟩ := fx_gd h
        by_cases c8 : ¬ x1 = (-1)
        · rw [if_pos c8] at h
          refine gb_t ((gc_ne e1 kg_m1 z7 (by decide)).mpr c8) ?_
          exact gf_89_41 _ _ e1 _ _ e2 _ _ e3 _ _ e1 _ _ (rfl : _ = gx q2.2) _ h
        · rw [if_neg c8] at h
          refine gb_f (fun q => c8 ((gc_ne e1 kg_m1 z7 (by decide)).mp q)) ?_
          exact gf_89_41 _ _ e1 _ _ e2 _ _ e3 _ _ kg_0 _ _ (rfl : _ = gx q2.2) _ h
      · rw [if_neg c6] at h
        refine gb_f (fun q => c6 ((gc_le e3 kg_9 z4 (by decide)).mp q)) ?_
        have h := Option.some.inj h
        subst h
        exact gret kg_m1 (rfl : _ = gx q2.2)
def gm_89 (x1 : Int) (x2 : Int) (x3 : Int) (s : gx_S) : Option (Int × gx_S) :=
  if (-2147483648 ≤ x1 ∧ x1 ≤ 2147483647) then (
  if x1 = (-1) then (
    gm_89_12 x1 x2 x3 s) else (
    (gm_114 x1 s).bind fun q43 =>
    if (gb q43.1) = 0 then (
      some ((-1), q43.2)) else (
      gm_89_12 x1 x2 x3 q43.2))) else none
theorem gf_89 {x1 : Int} {yx1 : Int32} (e1 : yx1 = Int32.ofInt x1) {x2 : Int} {yx2 : Int32} (e2 : yx2 = Int32.ofInt x2) {x3 : Int} {yx3 : Int32} (e3 : yx3 = Int32.ofInt x3) {s : gx_S} {σ : fx_S} (es : σ = gx s) {q : Int × gx_S} (h : gm_89 x1 x2 x3 s = some q) : fm_89 yx1 yx2 yx3 σ = some (Int32.ofInt q.1, gx q.2) := by
  unfold gm_89 at h
  unfold fm_89
  obtain ⟨z40, h⟩ := fx_gd h
  by_cases c41 : x1 = (-1)
  · rw [if_pos c41] at h
    refine gb_t ((gc_eq e1 kg_m1 z40 (by decide)).mpr c41) ?_
    exact gf_89_12 _ _ e1 _ _ e2 _ _ e3 _ _ es _ h
  · rw [if_neg c41] at h
    refine gb_f (fun q => c41 ((gc_eq e1 kg_m1 z40 (by decide)).mp q)) ?_
    obtain ⟨q43, w42, h⟩ := fx_bd h
    refine gb_bind (gf_114 e1 es w42) ?_
    by_cases c44 : (gb q43.1) = 0
    · rw [if_pos c44] at h
      refine gb_t ((gc_eq (gb_b q43.1) kg_0 (gb_r _) (by decide)).mpr c44) ?_
      have h := Option.some.inj h
      subst h
      exact gret kg_m1 (rfl : _ = gx q43.2)
    · rw [if_neg c44] at h
      refine gb_f (fun q => c44 ((gc_eq (gb_b q43.1) kg_0 (gb_r _) (by decide)).mp q)) ?_
      exact gf_89_12 _ _ e1 _ _ e2 _ _ e3 _ _ (rfl : _ = gx q43.2) _ h

/-! ZoneShares.settle(II)I -/
def gm_90_77 (x3 : Int) (s : gx_S) : Option (Int × gx_S) :=
  some (x3, s)
theorem gf_90_77 (x3 : Int) (yx3 : Int32) (e3 : yx3 = Int32.ofInt x3) (s : gx_S) (σ : fx_S) (es : σ = gx s) (q : Int × gx_S) (h : gm_90_77 x3 s = some q) : fm_90_77 yx3 σ = some (Int32.ofInt q.1, gx q.2) := by
  unfold gm_90_77 at h
  unfold fm_90_77
  have h := Option.some.inj h
  subst h
  exact gret e3 es
def gm_90_41 (x1 : Int) (x2 : Int) (s0 : Int) (s : gx_S) : Option (Int × gx_S) :=
  if (-2147483648 ≤ s0 ∧ s0 ≤ 2147483647) then (
  if (-2147483648 ≤ x2 ∧ x2 ≤ 2147483647) then (
  if ¬ s0 = x2 then (
    (gm_119 s).bind fun q5 =>
    if (-2147483648 ≤ x1 ∧ x1 ≤ 2147483647) then (
    if ¬ x1 = 0 then (
      gm_90_77 s0 (gw1 q5 1 8 x2)) else (
      gm_90_77 s0 (gw1 q5 1 7 x2))) else none) else (
    some ((-2), s))) else none) else none
theorem gf_90_41 (x1 : Int) (yx1 : Int32) (e1 : yx1 = Int32.ofInt x1) (x2 : Int) (yx2 : Int32) (e2 : yx2 = Int32.ofInt x2) (s0 : Int) (ys0 : Int32) (es0 : ys0 = Int32.ofInt s0) (s : gx_S) (σ : fx_S) (es : σ = gx s) (q : Int × gx_S) (h : gm_90_41 x1 x2 s0 s = some q) : fm_90_41 yx1 yx2 ys0 σ = some (Int32.ofInt q.1, gx q.2) := by
  unfold gm_90_41 at h
  unfold fm_90_41
  obtain ⟨z1, h⟩ := fx_gd h
  obtain ⟨z2, h⟩ := fx_gd h
  by_cases c3 : ¬ s0 = x2
  · rw [if_pos c3] at h
    refine gb_t ((gc_ne es0 e2 z1 z2).mpr c3) ?_
    obtain ⟨q5, w4, h⟩ := fx_bd h
    refine gb_bind (gf_119 es w4) ?_
    obtain ⟨z6, h⟩ := fx_gd h
    by_cases c7 : ¬ x1 = 0
    · rw [if_pos c7] at h
      refine gb_t ((gc_ne e1 kg_0 z6 (by decide)).mpr c7) ?_
      exact gf_90_77 _ _ es0 _ _ (gx_w1 (rfl : _ = gx q5) e2) _ h
    · rw [if_neg c7] at h
      refine gb_f (fun q => c7 ((gc_ne e1 kg_0 z6 (by decide)).mp q)) ?_
      exact gf_90_77 _ _ es0 _ _ (gx_w1 (rfl : _ = gx q5) e2) _ h
  · rw [if_neg c3] at h
    refine gb_f (fun q => c3 ((gc_ne es0 e2 z1 z2).mp q)) ?_
    have h := Option.some.inj h
    subst h
    exact gret kg_m2 es
def gm_90 (x1 : Int) (x2 : Int) (s : gx_S) : Option (Int × gx_S) :=
  if (-2147483648 ≤ x1 ∧ x1 ≤ 2147483647) then (
  if x1 < 0 then (
    some ((-1), s)) else (
    if 1 < x1 then (
      some ((-1), s)) else (
      if (-2147483648 ≤ x2 ∧ x2 ≤ 2147483647) then (
      if x2 < 0 then (
        some ((-1), s)) else (
        if x2 ≤ 1 then (
          if ¬ x1 = 0 then (
            gm_90_41 x1 x2 (s.1 1 8) s) else (
            gm_90_41 x1 x2 (s.1 1 7) s)) else (
          some ((-1), s)))) else none))) else none
theorem gf_90 {x1 : Int} {yx1 : Int32} (e1 : yx1 = Int32.ofInt x1) {x2 : Int} {yx2 : Int32} (e2 : yx2 = Int32.ofInt x2) {s : gx_S} {σ : fx_S} (es : σ = gx s) {q : Int × gx_S} (h : gm_90 x1 x2 s = some q) : fm_90 yx1 yx2 σ = some (Int32.ofInt q.1, gx q.2) := by
  unfold gm_90 at h
  unfold fm_90
  obtain ⟨z15, h⟩ := fx_gd h
  by_cases c16 : x1 < 0
  · rw [if_pos c16] at h
    refine gb_t ((gc_lt e1 kg_0 z15 (by decide)).mpr c16) ?_
    have h := Option.some.inj h
    subst h
    exact gret kg_m1 es
  · rw [if_neg c16] at h
    refine gb_f (fun q => c16 ((gc_lt e1 kg_0 z15 (by decide)).mp q)) ?_
    by_cases c17 : 1 < x1
    · rw [if_pos c17] at h
      refine gb_t ((gc_lt kg_1 e1 (by decide) z15).mpr c17) ?_
      have h := Option.some.inj h
      subst h
      exact gret kg_m1 es
    · rw [if_neg c17] at h
      refine gb_f (fun q => c17 ((gc_lt kg_1 e1 (by decide) z15).mp q)) ?_
      obtain ⟨z18, h⟩ := fx_gd h
      by_cases c19 : x2 < 0
      · rw [if_pos c19] at h
        refine gb_t ((gc_lt e2 kg_0 z18 (by decide)).mpr c19) ?_
        have h := Option.some.inj h
        subst h
        exact gret kg_m1 es
      · rw [if_neg c19] at h
        refine gb_f (fun q => c19 ((gc_lt e2 kg_0 z18 (by decide)).mp q)) ?_
        by_cases c20 : x2 ≤ 1
        · rw [if_pos c20] at h
          refine gb_t ((gc_le e2 kg_1 z18 (by decide)).mpr c20) ?_
          by_cases c21 : ¬ x1 = 0
          · rw [if_pos c21] at h
            refine gb_t ((gc_ne e1 kg_0 z15 (by decide)).mpr c21) ?_
            exact gf_90_41 _ _ e1 _ _ e2 _ _ (gf1 es 1 8) _ _ es _ h
          · rw [if_neg c21] at h
            refine gb_f (fun q => c21 ((gc_ne e1 kg_0 z15 (by decide)).mp q)) ?_
            exact gf_90_41 _ _ e1 _ _ e2 _ _ (gf1 es 1 7) _ _ es _ h
        · rw [if_neg c20] at h
          refine gb_f (fun q => c20 ((gc_le e2 kg_1 z18 (by decide)).mp q)) ?_
          have h := Option.some.inj h
          subst h
          exact gret kg_m1 es

/-! ZoneShares.district(II)I -/
def gm_91 (x1 : Int) (x2 : Int) (s : gx_S) : Option (Int × gx_S) :=
  (gm_115 x1 s).bind fun q18 =>
  if (gb q18.1) = 0 then (
    some ((-1), q18.2)) else (
    (gm_117 x2 q18.2).bind fun q21 =>
    if ¬ (gb q21.1) = 0 then (
      if 0 ≤ x1 ∧ x1 < 8 then (
      if (-2147483648 ≤ (q21.2.1 5 (x1).toNat) ∧ (q21.2.1 5 (x1).toNat) ≤ 2147483647) then (
      if (-2147483648 ≤ x2 ∧ x2 ≤ 2147483647) then (
      if ¬ (q21.2.1 5 (x1).toNat) = x2 then (
        (gm_119 q21.2).bind fun q30 =>
        some ((q21.2.1 5 (x1).toNat), (gw1 q30 5 (x1).toNat x2))) else (
        some ((-2), q21.2))) else none) else none) else none) else (
      some ((-1), q21.2)))
theorem gf_91 {x1 : Int} {yx1 : Int32} (e1 : yx1 = Int32.ofInt x1) {x2 : Int} {yx2 : Int32} (e2 : yx2 = Int32.ofInt x2) {s : gx_S} {σ : fx_S} (es : σ = gx s) {q : Int × gx_S} (h : gm_91 x1 x2 s = some q) : fm_91 yx1 yx2 σ = some (Int32.ofInt q.1, gx q.2) := by
  unfold gm_91 at h
  unfold fm_91
  obtain ⟨q18, w17, h⟩ := fx_bd h
  refine gb_bind (gf_115 e1 es w17) ?_
  by_cases c19 : (gb q18.1) = 0
  · rw [if_pos c19] at h
    refine gb_t ((gc_eq (gb_b q18.1) kg_0 (gb_r _) (by decide)).mpr c19) ?_
    have h := Option.some.inj h
    subst h
    exact gret kg_m1 (rfl : _ = gx q18.2)
  · rw [if_neg c19] at h
    refine gb_f (fun q => c19 ((gc_eq (gb_b q18.1) kg_0 (gb_r _) (by decide)).mp q)) ?_
    obtain ⟨q21, w20, h⟩ := fx_bd h
    refine gb_bind (gf_117 e2 (rfl : _ = gx q18.2) w20) ?_
    by_cases c22 : ¬ (gb q21.1) = 0
    · rw [if_pos c22] at h
      refine gb_t ((gc_ne (gb_b q21.1) kg_0 (gb_r _) (by decide)).mpr c22) ?_
      obtain ⟨z25, h⟩ := fx_gd h
      refine gb_bind (gl_ld (rfl : _ = gx q21.2) e1 ga_5 z25) ?_
      obtain ⟨z26, h⟩ := fx_gd h
      obtain ⟨z27, h⟩ := fx_gd h
      by_cases c28 : ¬ (q21.2.1 5 (x1).toNat) = x2
      · rw [if_pos c28] at h
        refine gb_t ((gc_ne (gr (q21.2.1 5 (x1).toNat)) e2 z26 z27).mpr c28) ?_
        obtain ⟨q30, w29, h⟩ := fx_bd h
        refine gb_bind (gf_119 (rfl : _ = gx q21.2) w29) ?_
        refine gb_bind (gl_st (rfl : _ = gx q30) e1 e2 ga_5 z25) ?_
        have h := Option.some.inj h
        subst h
        exact gret (gr (q21.2.1 5 (x1).toNat)) (rfl : _ = gx (gw1 q30 5 (x1).toNat x2))
      · rw [if_neg c28] at h
        refine gb_f (fun q => c28 ((gc_ne (gr (q21.2.1 5 (x1).toNat)) e2 z26 z27).mp q)) ?_
        have h := Option.some.inj h
        subst h
        exact gret kg_m2 (rfl : _ = gx q21.2)
    · rw [if_neg c22] at h
      refine gb_f (fun q => c22 ((gc_ne (gb_b q21.1) kg_0 (gb_r _) (by decide)).mp q)) ?_
      have h := Option.some.inj h
      subst h
      exact gret kg_m1 (rfl : _ = gx q21.2)

/-! ZoneShares.piece(II)I -/
def gm_96 (x1 : Int) (x2 : Int) (s : gx_S) : Option (Int × gx_S) :=
  (gm_57 1 s).bind fun q27 =>
  if (gb q27.1) = 0 then (
    some ((-1), q27.2)) else (
    if (-2147483648 ≤ x1 ∧ x1 ≤ 2147483647) then (
    if x1 < (-1) then (
      some ((-1), q27.2)) else (
      if (-2147483648 ≤ x2 ∧ x2 ≤ 2147483647) then (
      if x2 < 0 then (
        some ((-1), q27.2)) else (
        if x2 ≤ 3 then (
          (gm_123 q27.2).bind fun q35 =>
          if ¬ x1 = (-1) then (
            if (-2147483648 ≤ q35.1 ∧ q35.1 ≤ 2147483647) then (
            if x1 < q35.1 then (
              (gm_124 x1 q35.2).bind fun q40 =>
              if x2 = 0 then (
                if 0 ≤ q40.1 ∧ q40.1 ≤ 2147483647 then (
                some ((q40.1 / 36), q40.2)) else none) else (
                if x2 = 1 then (
                  if 0 ≤ q40.1 ∧ q40.1 ≤ 2147483647 then (
                  if 0 ≤ (q40.1 / 4) ∧ (q40.1 / 4) ≤ 2147483647 then (
                  some (((q40.1 / 4) % 9), q40.2)) else none) else none) else (
                  if x2 = 2 then (
                    if 0 ≤ q40.1 ∧ q40.1 ≤ 2147483647 then (
                    some ((q40.1 % 4), q40.2)) else none) else (
                    if 0 ≤ q40.1 ∧ q40.1 < 288 then (
                    some ((q40.2.1 69 (q40.1).toNat), q40.2)) else none)))) else (
              some ((-1), q35.2))) else none) else (
            some (q35.1, q35.2))) else (
          some ((-1), q27.2)))) else none)) else none)
/-! ZoneShares.apart(I)I -/
def gm_110_67 (k_49 : Int → Int → Int → gx_S → Option (Int × gx_S)) (x1 : Int) (x2 : Int) (x3 : Int) (s : gx_S) : Option (Int × gx_S) :=
  k_49 x1 x2 (x3 + 1) s
theorem gf_110_67 {kf_49 : Int32 → Int32 → Int32 → fx_S → Option (Int32 × fx_S)} {kg_49 : Int → Int → Int → gx_S → Option (Int × gx_S)} (hk_49 : ∀ (x1 : Int) (yx1 : Int32) (e1 : yx1 = Int32.ofInt x1) (x2 : Int) (yx2 : Int32) (e2 : yx2 = Int32.ofInt x2) (x3 : Int) (yx3 : Int32) (e3 : yx3 = Int32.ofInt x3) (s : gx_S) (σ : fx_S) (es : σ = gx s) (q : Int × gx_S), kg_49 x1 x2 x3 s = some q → kf_49 yx1 yx2 yx3 σ = some (Int32.ofInt q.1, gx q.2)) (x1 : Int) (yx1 : Int32) (e1 : yx1 = Int32.ofInt x1) (x2 : Int) (yx2 : Int32) (e2 : yx2 = Int32.ofInt x2) (x3 : Int) (yx3 : Int32) (e3 : yx3 = Int32.ofInt x3) (s : gx_S) (σ : fx_S) (es : σ = gx s) (q : Int × gx_S) (h : gm_110_67 kg_49 x1 x2 x3 s = some q) : fm_110_67 kf_49 yx1 yx2 yx3 σ = some (Int32.ofInt q.1, gx q.2) := by
  unfold gm_110_67 at h
  unfold fm_110_67
  exact hk_49 _ _ e1 _ _ e2 _ _ (ga_add e3 kg_1) _ _ es _ h
def gm_110_49 : Nat → Int → Int → Int → gx_S → Option (Int × gx_S)
  | 0, _, _, _, _ => none
  | n + 1, x1, x2, x3, s =>
    if (-2147483648 ≤ x3 ∧ x3 ≤ 2147483647) then (
    if 8 ≤ x3 then (
      some (x2, s)) else (
      (gm_125 x3 x1 s).bind fun q4 =>
      if (gb q4.1) = 0 then (
        gm_110_67 (gm_110_49 n) x1 x2 x3 q4.2) else (
        gm_110_67 (gm_110_49 n) x1 (x2 + 1) x3 q4.2))) else none
theorem gf_110_49 : ∀ (n : Nat) (x1 : Int) (yx1 : Int32) (e1 : yx1 = Int32.ofInt x1) (x2 : Int) (yx2 : Int32) (e2 : yx2 = Int32.ofInt x2) (x3 : Int) (yx3 : Int32) (e3 : yx3 = Int32.ofInt x3) (s : gx_S) (σ : fx_S) (es : σ = gx s) (q : Int × gx_S), gm_110_49 n x1 x2 x3 s = some q → fm_110_49 n yx1 yx2 yx3 σ = some (Int32.ofInt q.1, gx q.2) := by
  intro n
  induction n with
  | zero =>
    intro x1 yx1 e1 x2 yx2 e2 x3 yx3 e3 s σ es q  h
    rw [gm_110_49] at h
    exact fx_no h
  | succ n ih =>
    intro x1 yx1 e1 x2 yx2 e2 x3 yx3 e3 s σ es q  h
    rw [gm_110_49] at h
    rw [fm_110_49]
    obtain ⟨z1, h⟩ := fx_gd h
    by_cases c2 : 8 ≤ x3
    · rw [if_pos c2] at h
      refine gb_t ((gc_le kg_8 e3 (by decide) z1).mpr c2) ?_
      have h := Option.some.inj h
      subst h
      exact gret e2 es
    · rw [if_neg c2] at h
      refine gb_f (fun q => c2 ((gc_le kg_8 e3 (by decide) z1).mp q)) ?_
      obtain ⟨q4, w3, h⟩ := fx_bd h
      refine gb_bind (gf_125 e3 e1 es w3) ?_
      by_cases c5 : (gb q4.1) = 0
      · rw [if_pos c5] at h
        refine gb_t ((gc_eq (gb_b q4.1) kg_0 (gb_r _) (by decide)).mpr c5) ?_
        exact gf_110_67 ih _ _ e1 _ _ e2 _ _ e3 _ _ (rfl : _ = gx q4.2) _ h
      · rw [if_neg c5] at h
        refine gb_f (fun q => c5 ((gc_eq (gb_b q4.1) kg_0 (gb_r _) (by decide)).mp q)) ?_
        exact gf_110_67 ih _ _ e1 _ _ (ga_add e2 kg_1) _ _ e3 _ _ (rfl : _ = gx q4.2) _ h
def gm_110 (x1 : Int) (s : gx_S) : Option (Int × gx_S) :=
  if (-2147483648 ≤ x1 ∧ x1 ≤ 2147483647) then (
  if x1 < 0 then (
    some ((-1), s)) else (
    if 3 < x1 then (
      some ((-1), s)) else (
      (gm_56 1 0 s).bind fun q22 =>
      if (gb q22.1) = 0 then (
        some ((-1), q22.2)) else (
        (gm_56 1 1 q22.2).bind fun q25 =>
        if ¬ (gb q25.1) = 0 then (
          if ¬ x1 = 0 then (
            gm_110_49 100000 x1 0 0 q25.2) else (
            (gm_64 1 q25.2).bind fun q29 =>
            some (q29.1, q29.2))) else (
          some ((-1), q25.2)))))) else none
theorem gf_110 {x1 : Int} {yx1 : Int32} (e1 : yx1 = Int32.ofInt x1) {s : gx_S} {σ : fx_S} (es : σ = gx s) {q : Int × gx_S} (h : gm_110 x1 s = some q) : fm_110 yx1 σ = some (Int32.ofInt q.1, gx q.2) := by
  unfold gm_110 at h
  unfold fm_110
  obtain ⟨z18, h⟩ := fx_gd h
  by_cases c19 : x1 < 0
  · rw [if_pos c19] at h
    refine gb_t ((gc_lt e1 kg_0 z18 (by decide)).mpr c19) ?_
    have h := Option.some.inj h
    subst h
    exact gret kg_m1 es
  · rw [if_neg c19] at h
    refine gb_f (fun q => c19 ((gc_lt e1 kg_0 z18 (by decide)).mp q)) ?_
    by_cases c20 : 3 < x1
    · rw [if_pos c20] at h
      refine gb_t ((gc_lt kg_3 e1 (by decide) z18).mpr c20) ?_
      have h := Option.some.inj h
      subst h
      exact gret kg_m1 es
    · rw [if_neg c20] at h
      refine gb_f (fun q => c20 ((gc_lt kg_3 e1 (by decide) z18).mp q)) ?_
      obtain ⟨q22, w21, h⟩ := fx_bd h
      refine gb_bind (gf_56 kg_0 es w21) ?_
      by_cases c23 : (gb q22.1) = 0
      · rw [if_pos c23] at h
        refine gb_t ((gc_eq (gb_b q22.1) kg_0 (gb_r _) (by decide)).mpr c23) ?_
        have h := Option.some.inj h
        subst h
        exact gret kg_m1 (rfl : _ = gx q22.2)
      · rw [if_neg c23] at h
        refine gb_f (fun q => c23 ((gc_eq (gb_b q22.1) kg_0 (gb_r _) (by decide)).mp q)) ?_
        obtain ⟨q25, w24, h⟩ := fx_bd h
        refine gb_bind (gf_56 kg_1 (rfl : _ = gx q22.2) w24) ?_
        by_cases c26 : ¬ (gb q25.1) = 0
        · rw [if_pos c26] at h
          refine gb_t ((gc_ne (gb_b q25.1) kg_0 (gb_r _) (by decide)).mpr c26) ?_
          by_cases c27 : ¬ x1 = 0
          · rw [if_pos c27] at h
            refine gb_t ((gc_ne e1 kg_0 z18 (by decide)).mpr c27) ?_
            exact gf_110_49 100000 _ _ e1 _ _ kg_0 _ _ kg_0 _ _ (rfl : _ = gx q25.2) _ h
          · rw [if_neg c27] at h
            refine gb_f (fun q => c27 ((gc_ne e1 kg_0 z18 (by decide)).mp q)) ?_
            obtain ⟨q29, w28, h⟩ := fx_bd h
            refine gb_bind (gf_64 (rfl : _ = gx q25.2) w28) ?_
            have h := Option.some.inj h
            subst h
            exact gret (gr q29.1) (rfl : _ = gx q29.2)
        · rw [if_neg c26] at h
          refine gb_f (fun q => c26 ((gc_ne (gb_b q25.1) kg_0 (gb_r _) (by decide)).mp q)) ?_
          have h := Option.some.inj h
          subst h
          exact gret kg_m1 (rfl : _ = gx q25.2)

/-! ZoneShares.fits(I)Z -/
def gm_121 (x1 : Int) (s : gx_S) : Option (Bool × gx_S) :=
  (gm_114 x1 s).bind fun q12 =>
  if (gb q12.1) = 0 then (
    some (false, q12.2)) else (
    (gm_57 1 q12.2).bind fun q15 =>
    if ¬ (gb q15.1) = 0 then (
      (gm_10 1 x1 q15.2).bind fun q18 =>
      if (-9223372036854775808 ≤ (q18.2 62 1) ∧ (q18.2 62 1) ≤ 9223372036854775807) then (
      if (q18.2 62 1) ≤ 0 then (
        some (false, q18)) else (
        some (true, q18))) else none) else (
      some (false, q15.2)))
/-! ZoneShares$CountsText.read(LZoneShares$Tape;)I -/
def gm_4_112 (k_33 : Int → Int → gx_S → Option (Int × gx_S)) (x3 : Int) (s0 : Int) (s : gx_S) : Option (Int × gx_S) :=
  k_33 s0 (x3 + 1) (gw1 s 60 2 ((s.1 60 2) + 1))
theorem gf_4_112 {kf_33 : Int32 → Int32 → fx_S → Option (Int32 × fx_S)} {kg_33 : Int → Int → gx_S → Option (Int × gx_S)} (hk_33 : ∀ (x2 : Int) (yx2 : Int32) (e2 : yx2 = Int32.ofInt x2) (x3 : Int) (yx3 : Int32) (e3 : yx3 = Int32.ofInt x3) (s : gx_S) (σ : fx_S) (es : σ = gx s) (q : Int × gx_S), kg_33 x2 x3 s = some q → kf_33 yx2 yx3 σ = some (Int32.ofInt q.1, gx q.2)) (x3 : Int) (yx3 : Int32) (e3 : yx3 = Int32.ofInt x3) (s0 : Int) (ys0 : Int32) (es0 : ys0 = Int32.ofInt s0) (s : gx_S) (σ : fx_S) (es : σ = gx s) (q : Int × gx_S) (h : gm_4_112 kg_33 x3 s0 s = some q) : fm_4_112 kf_33 yx3 ys0 σ = some (Int32.ofInt q.1, gx q.2) := by
  unfold gm_4_112 at h
  unfold fm_4_112
  exact hk_33 _ _ es0 _ _ (ga_add e3 kg_1) _ _ (gx_w1 es (ga_add (gf1 es 60 2) kg_1)) _ h
def gm_4_100 (k_33 : Int → Int → gx_S → Option (Int × gx_S)) (x3 : Int) (x5 : Int) (s : gx_S) : Option (Int × gx_S) :=
  if (-2147483648 ≤ x5 ∧ x5 ≤ 2147483647) then (
  if ¬ x5 = 44 then (
    gm_4_112 k_33 x3 0 s) else (
    gm_4_112 k_33 x3 1 s)) else none
theorem gf_4_100 {kf_33 : Int32 → Int32 → fx_S → Option (Int32 × fx_S)} {kg_33 : Int → Int → gx_S → Option (Int × gx_S)} (hk_33 : ∀ (x2 : Int) (yx2 : Int32) (e2 : yx2 = Int32.ofInt x2) (x3 : Int) (yx3 : Int32) (e3 : yx3 = Int32.ofInt x3) (s : gx_S) (σ : fx_S) (es : σ = gx s) (q : Int × gx_S), kg_33 x2 x3 s = some q → kf_33 yx2 yx3 σ = some (Int32.ofInt q.1, gx q.2)) (x3 : Int) (yx3 : Int32) (e3 : yx3 = Int32.ofInt x3) (x5 : Int) (yx5 : Int32) (e5 : yx5 = Int32.ofInt x5) (s : gx_S) (σ : fx_S) (es : σ = gx s) (q : Int × gx_S) (h : gm_4_100 kg_33 x3 x5 s = some q) : fm_4_100 kf_33 yx3 yx5 σ = some (Int32.ofInt q.1, gx q.2) := by
  unfold gm_4_100 at h
  unfold fm_4_100
  obtain ⟨z1, h⟩ := fx_gd h
  by_cases c2 : ¬ x5 = 44
  · rw [if_pos c2] at h
    refine gb_t ((gc_ne e5 kg_44 z1 (by decide)).mpr c2) ?_
    exact gf_4_112 hk_33 _ _ e3 _ _ kg_0 _ _ es _ h
  · rw [if_neg c2] at h
    refine gb_f (fun q => c2 ((gc_ne e5 kg_44 z1 (by decide)).mp q)) ?_
    exact gf_4_112 hk_33 _ _ e3 _ _ kg_1 _ _ es _ h
def gm_4_33 : Nat → Int → Int → gx_S → Option (Int × gx_S)
  | 0, _, _, _ => none
  | n + 1, x2, x3, s =>
    if (-2147483648 ≤ x3 ∧ x3 ≤ 2147483647) then (
    if 200 ≤ x3 then (
      some ((-1), s)) else (
      if (-2147483648 ≤ x2 ∧ x2 ≤ 2147483647) then (
      if x2 = 0 then (
        some ((-1), s)) else (
        (gm_5 s).bind fun q6 =>
        if (-2147483648 ≤ q6.1 ∧ q6.1 ≤ 2147483647) then (
        if q6.1 = 0 then (
          (gm_83 (q6.2.1 60 2) q6.2).bind fun q10 =>
          if (-2147483648 ≤ q10.1 ∧ q10.1 ≤ 2147483647) then (
          if q10.1 = 44 then (
            gm_4_100 (gm_4_33 n) x3 q10.1 q10.2) else (
            if q10.1 = (-1) then (
              gm_4_100 (gm_4_33 n) x3 q10.1 q10.2) else (
              some (((8 * (q10.2.1 60 2)) + 1), q10.2)))) else none) else (
          some (((8 * (q6.2.1 60 2)) + q6.1), q6.2))) else none)) else none)) else none
theorem gf_4_33 : ∀ (n : Nat) (x2 : Int) (yx2 : Int32) (e2 : yx2 = Int32.ofInt x2) (x3 : Int) (yx3 : Int32) (e3 : yx3 = Int32.ofInt x3) (s : gx_S) (σ : fx_S) (es : σ = gx s) (q : Int × gx_S), gm_4_33 n x2 x3 s = some q → fm_4_33 n yx2 yx3 σ = some (Int32.ofInt q.1, gx q.2) := by
  intro n
  induction n with
  | zero =>
    intro x2 yx2 e2 x3 yx3 e3 s σ es q  h
    rw [gm_4_33] at h
    exact fx_no h
  | succ n ih =>
    intro x2 yx2 e2 x3 yx3 e3 s σ es q  h
    rw [gm_4_33] at h
    rw [fm_4_33]
    obtain ⟨z1, h⟩ := fx_gd h
    by_cases c2 : 200 ≤ x3
    · rw [if_pos c2] at h
      refine gb_t ((gc_le kg_200 e3 (by decide) z1).mpr c2) ?_
      have h := Option.some.inj h
      subst h
      exact gret kg_m1 es
    · rw [if_neg c2] at h
      refine gb_f (fun q => c2 ((gc_le kg_200 e3 (by decide) z1).mp q)) ?_
      obtain ⟨z3, h⟩ := fx_gd h
      by_cases c4 : x2 = 0
      · rw [if_pos c4] at h
        refine gb_t ((gc_eq e2 kg_0 z3 (by decide)).mpr c4) ?_
        have h := Option.some.inj h
        subst h
        exact gret kg_m1 es
      · rw [if_neg c4] at h
        refine gb_f (fun q => c4 ((gc_eq e2 kg_0 z3 (by decide)).mp q)) ?_
        obtain ⟨q6, w5, h⟩ := fx_bd h
        refine gb_bind (gf_5 es w5) ?_
        obtain ⟨z7, h⟩ := fx_gd h
        by_cases c8 : q6.1 = 0
        · rw [if_pos c8] at h
          refine gb_t ((gc_eq (gr q6.1) kg_0 z7 (by decide)).mpr c8) ?_
          obtain ⟨q10, w9, h⟩ := fx_bd h
          refine gb_bind (gf_83 (gf1 (rfl : _ = gx q6.2) 60 2) (rfl : _ = gx q6.2) w9) ?_
          obtain ⟨z11, h⟩ := fx_gd h
          by_cases c12 : q10.1 = 44
          · rw [if_pos c12] at h
            refine gb_t ((gc_eq (gr q10.1) kg_44 z11 (by decide)).mpr c12) ?_
            exact gf_4_100 ih _ _ e3 _ _ (gr q10.1) _ _ (rfl : _ = gx q10.2) _ h
          · rw [if_neg c12] at h
            refine gb_f (fun q => c12 ((gc_eq (gr q10.1) kg_44 z11 (by decide)).mp q)) ?_
            by_cases c13 : q10.1 = (-1)
            · rw [if_pos c13] at h
              refine gb_t ((gc_eq (gr q10.1) kg_m1 z11 (by decide)).mpr c13) ?_
              exact gf_4_100 ih _ _ e3 _ _ (gr q10.1) _ _ (rfl : _ = gx q10.2) _ h
            · rw [if_neg c13] at h
              refine gb_f (fun q => c13 ((gc_eq (gr q10.1) kg_m1 z11 (by decide)).mp q)) ?_
              have h := Option.some.inj h
              subst h
              exact gret (ga_add (ga_mul kg_8 (gf1 (rfl : _ = gx q10.2) 60 2)) kg_1) (rfl : _ = gx q10.2)
        · rw [if_neg c8] at h
          refine gb_f (fun q => c8 ((gc_eq (gr q6.1) kg_0 z7 (by decide)).mp q)) ?_
          have h := Option.some.inj h
          subst h
          exact gret (ga_add (ga_mul kg_8 (gf1 (rfl : _ = gx q6.2) 60 2)) (gr q6.1)) (rfl : _ = gx q6.2)
def gm_4_30 (s0 : Int) (s : gx_S) : Option (Int × gx_S) :=
  gm_4_33 100000 s0 0 s
theorem gf_4_30 (s0 : Int) (ys0 : Int32) (es0 : ys0 = Int32.ofInt s0) (s : gx_S) (σ : fx_S) (es : σ = gx s) (q : Int × gx_S) (h : gm_4_30 s0 s = some q) : fm_4_30 ys0 σ = some (Int32.ofInt q.1, gx q.2) := by
  unfold gm_4_30 at h
  unfold fm_4_30
  exact gf_4_33 100000 _ _ es0 _ _ kg_0 _ _ es _ h
def gm_4 (s : gx_S) : Option (Int × gx_S) :=
  (gm_235 61 0 s).bind fun q34 =>
  if (-2147483648 ≤ ((gw1 (gw1 q34 60 1 0) 60 2 0).1 14 1) ∧ ((gw1 (gw1 q34 60 1 0) 60 2 0).1 14 1) ≤ 2147483647) then (
  if ((gw1 (gw1 q34 60 1 0) 60 2 0).1 14 1) ≤ 0 then (
    gm_4_30 0 (gw1 (gw1 q34 60 1 0) 60 2 0)) else (
    gm_4_30 1 (gw1 (gw1 q34 60 1 0) 60 2 0))) else none
theorem gf_4 {s : gx_S} {σ : fx_S} (es : σ = gx s) {q : Int × gx_S} (h : gm_4 s = some q) : fm_4 σ = some (Int32.ofInt q.1, gx q.2) := by
  unfold gm_4 at h
  unfold fm_4
  obtain ⟨q34, w33, h⟩ := fx_bd h
  refine gb_bind (gf_235 kg_0 es w33) ?_
  obtain ⟨z35, h⟩ := fx_gd h
  by_cases c36 : ((gw1 (gw1 q34 60 1 0) 60 2 0).1 14 1) ≤ 0
  · rw [if_pos c36] at h
    refine gb_t ((gc_le (gf1 (gx_w1 (gx_w1 (rfl : _ = gx q34) kg_0) kg_0) 14 1) kg_0 z35 (by decide)).mpr c36) ?_
    exact gf_4_30 _ _ kg_0 _ _ (gx_w1 (gx_w1 (rfl : _ = gx q34) kg_0) kg_0) _ h
  · rw [if_neg c36] at h
    refine gb_f (fun q => c36 ((gc_le (gf1 (gx_w1 (gx_w1 (rfl : _ = gx q34) kg_0) kg_0) 14 1) kg_0 z35 (by decide)).mp q)) ?_
    exact gf_4_30 _ _ kg_1 _ _ (gx_w1 (gx_w1 (rfl : _ = gx q34) kg_0) kg_0) _ h

/-! ZoneShares$Group.makeLives()V -/
def gm_20 (x0 : Nat) (s : gx_S) : Option (gx_S) :=
  if fx_oc x0 2 = true then (
  (gm_21 x0 1 s).bind fun q7 =>
  if (gb q7.1) = 0 then (
    some q7.2) else (
    (gm_22 x0 q7.2).bind fun q10 =>
    some q10)) else none
theorem gf_20 {x0 : Nat} {s : gx_S} {σ : fx_S} (es : σ = gx s) {q : gx_S} (h : gm_20 x0 s = some q) : fm_20 x0 σ = some (gx q) := by
  unfold gm_20 at h
  unfold fm_20
  obtain ⟨gg, h⟩ := fx_gd h
  refine gb_t gg ?_
  have g0 := gg
  obtain ⟨q7, w6, h⟩ := fx_bd h
  refine gb_bind (gf_21 kg_1 es w6) ?_
  by_cases c8 : (gb q7.1) = 0
  · rw [if_pos c8] at h
    refine gb_t ((gc_eq (gb_b q7.1) kg_0 (gb_r _) (by decide)).mpr c8) ?_
    have h := Option.some.inj h
    subst h
    exact gretv (rfl : _ = gx q7.2)
  · rw [if_neg c8] at h
    refine gb_f (fun q => c8 ((gc_eq (gb_b q7.1) kg_0 (gb_r _) (by decide)).mp q)) ?_
    obtain ⟨q10, w9, h⟩ := fx_bd h
    refine gb_bind (gf_22 (rfl : _ = gx q7.2) w9) ?_
    have h := Option.some.inj h
    subst h
    exact gretv (rfl : _ = gx q10)

/-! ZoneShares$Rounder.round(LZoneShares$Table;Z)V -/
def gm_41_84 (k_63 : Nat → Int → gx_S → Option (gx_S)) (x1 : Nat) (x3 : Int) (s : gx_S) : Option (gx_S) :=
  if 0 ≤ x3 ∧ x3 < 72 then (
  k_63 x1 (x3 + 1) (gw1 s (x1 + 8) (x3).toNat ((s.1 (x1 + 6) (x3).toNat) + (s.1 8 (x3).toNat)))) else none
theorem gf_41_84 {kf_63 : Nat → Int32 → fx_S → Option (fx_S)} {kg_63 : Nat → Int → gx_S → Option (gx_S)} (hk_63 : ∀ (x1 : Nat) (x3 : Int) (yx3 : Int32) (e3 : yx3 = Int32.ofInt x3) (s : gx_S) (σ : fx_S) (es : σ = gx s) (q : gx_S) (g1 : fx_oc x1 7 = true), kg_63 x1 x3 s = some q → kf_63 x1 yx3 σ = some (gx q)) (x1 : Nat) (x3 : Int) (yx3 : Int32) (e3 : yx3 = Int32.ofInt x3) (s : gx_S) (σ : fx_S) (es : σ = gx s) (q : gx_S) (g1 : fx_oc x1 7 = true) (h : gm_41_84 kg_63 x1 x3 s = some q) : fm_41_84 kf_63 x1 yx3 σ = some (gx q) := by
  unfold gm_41_84 at h
  unfold fm_41_84
  obtain ⟨z3, h⟩ := fx_gd h
  refine gb_bind (gl_ld es e3 (ga_7_5 g1) z3) ?_
  refine gb_bind (gl_ld es e3 ga_8 z3) ?_
  refine gb_bind (gl_st es e3 (ga_add (gr (s.1 (x1 + 6) (x3).toNat)) (gr (s.1 8 (x3).toNat))) (ga_7_7 g1) z3) ?_
  exact hk_63 _ _ _ (ga_add e3 kg_1) _ _ (rfl : _ = gx (gw1 s (x1 + 8) (x3).toNat ((s.1 (x1 + 6) (x3).toNat) + (s.1 8 (x3).toNat)))) _ g1 h
def gm_41_63 : Nat → Nat → Int → gx_S → Option (gx_S)
  | 0, _, _, _ => none
  | n + 1, x1, x3, s =>
    if (-2147483648 ≤ x3 ∧ x3 ≤ 2147483647) then (
    if 72 ≤ x3 then (
      some s) else (
      if 0 ≤ x3 ∧ x3 < 72 then (
      if (-2147483648 ≤ (s.1 7 (x3).toNat) ∧ (s.1 7 (x3).toNat) ≤ 2147483647) then (
      if ¬ (s.1 7 (x3).toNat) = 1 then (
        gm_41_84 (gm_41_63 n) x1 x3 s) else (
        (gm_45 x3 s).bind fun q9 =>
        gm_41_84 (gm_41_63 n) x1 x3 q9)) else none) else none)) else none
theorem gf_41_63 : ∀ (n : Nat) (x1 : Nat) (x3 : Int) (yx3 : Int32) (e3 : yx3 = Int32.ofInt x3) (s : gx_S) (σ : fx_S) (es : σ = gx s) (q : gx_S) (g1 : fx_oc x1 7 = true), gm_41_63 n x1 x3 s = some q → fm_41_63 n x1 yx3 σ = some (gx q) := by
  intro n
  induction n with
  | zero =>
    intro x1 x3 yx3 e3 s σ es q g1 h
    rw [gm_41_63] at h
    exact fx_no h
  | succ n ih =>
    intro x1 x3 yx3 e3 s σ es q g1 h
    rw [gm_41_63] at h
    rw [fm_41_63]
    obtain ⟨z1, h⟩ := fx_gd h
    by_cases c2 : 72 ≤ x3
    · rw [if_pos c2] at h
      refine gb_t ((gc_le kg_72 e3 (by decide) z1).mpr c2) ?_
      have h := Option.some.inj h
      subst h
      exact gretv es
    · rw [if_neg c2] at h
      refine gb_f (fun q => c2 ((gc_le kg_72 e3 (by decide) z1).mp q)) ?_
      obtain ⟨z5, h⟩ := fx_gd h
      refine gb_bind (gl_ld es e3 ga_7 z5) ?_
      obtain ⟨z6, h⟩ := fx_gd h
      by_cases c7 : ¬ (s.1 7 (x3).toNat) = 1
      · rw [if_pos c7] at h
        refine gb_t ((gc_ne (gr (s.1 7 (x3).toNat)) kg_1 z6 (by decide)).mpr c7) ?_
        exact gf_41_84 ih _ _ _ e3 _ _ es _ g1 h
      · rw [if_neg c7] at h
        refine gb_f (fun q => c7 ((gc_ne (gr (s.1 7 (x3).toNat)) kg_1 z6 (by decide)).mp q)) ?_
        obtain ⟨q9, w8, h⟩ := fx_bd h
        refine gb_bind (gf_45 e3 es w8) ?_
        exact gf_41_84 ih _ _ _ e3 _ _ (rfl : _ = gx q9) _ g1 h
def gm_41_44 : Nat → Nat → Int → gx_S → Option (gx_S)
  | 0, _, _, _ => none
  | n + 1, x1, x3, s =>
    if (-2147483648 ≤ x3 ∧ x3 ≤ 2147483647) then (
    if 9 ≤ x3 then (
      gm_41_63 100000 x1 0 s) else (
      (gm_44 x3 s).bind fun q4 =>
      gm_41_44 n x1 (x3 + 1) q4)) else none
theorem gf_41_44 : ∀ (n : Nat) (x1 : Nat) (x3 : Int) (yx3 : Int32) (e3 : yx3 = Int32.ofInt x3) (s : gx_S) (σ : fx_S) (es : σ = gx s) (q : gx_S) (g1 : fx_oc x1 7 = true), gm_41_44 n x1 x3 s = some q → fm_41_44 n x1 yx3 σ = some (gx q) := by
  intro n
  induction n with
  | zero =>
    intro x1 x3 yx3 e3 s σ es q g1 h
    rw [gm_41_44] at h
    exact fx_no h
  | succ n ih =>
    intro x1 x3 yx3 e3 s σ es q g1 h
    rw [gm_41_44] at h
    rw [fm_41_44]
    obtain ⟨z1, h⟩ := fx_gd h
    by_cases c2 : 9 ≤ x3
    · rw [if_pos c2] at h
      refine gb_t ((gc_le kg_9 e3 (by decide) z1).mpr c2) ?_
      exact gf_41_63 100000 _ _ _ kg_0 _ _ es _ g1 h
    · rw [if_neg c2] at h
      refine gb_f (fun q => c2 ((gc_le kg_9 e3 (by decide) z1).mp q)) ?_
      obtain ⟨q4, w3, h⟩ := fx_bd h
      refine gb_bind (gf_44 e3 es w3) ?_
      exact ih _ _ _ (ga_add e3 kg_1) _ _ (rfl : _ = gx q4) _ g1 h
def gm_41_20 : Nat → Nat → Int → gx_S → Option (gx_S)
  | 0, _, _, _ => none
  | n + 1, x1, x3, s =>
    if (-2147483648 ≤ x3 ∧ x3 ≤ 2147483647) then (
    if 8 ≤ x3 then (
      gm_41_44 100000 x1 0 s) else (
      (gm_73 x1 x3 s).bind fun q4 =>
      (gm_43 x3 q4.1 q4.2).bind fun q6 =>
      gm_41_20 n x1 (x3 + 1) q6)) else none
theorem gf_41_20 : ∀ (n : Nat) (x1 : Nat) (x3 : Int) (yx3 : Int32) (e3 : yx3 = Int32.ofInt x3) (s : gx_S) (σ : fx_S) (es : σ = gx s) (q : gx_S) (g1 : fx_oc x1 7 = true), gm_41_20 n x1 x3 s = some q → fm_41_20 n x1 yx3 σ = some (gx q) := by
  intro n
  induction n with
  | zero =>
    intro x1 x3 yx3 e3 s σ es q g1 h
    rw [gm_41_20] at h
    exact fx_no h
  | succ n ih =>
    intro x1 x3 yx3 e3 s σ es q g1 h
    rw [gm_41_20] at h
    rw [fm_41_20]
    obtain ⟨z1, h⟩ := fx_gd h
    by_cases c2 : 8 ≤ x3
    · rw [if_pos c2] at h
      refine gb_t ((gc_le kg_8 e3 (by decide) z1).mpr c2) ?_
      exact gf_41_44 100000 _ _ _ kg_0 _ _ es _ g1 h
    · rw [if_neg c2] at h
      refine gb_f (fun q => c2 ((gc_le kg_8 e3 (by decide) z1).mp q)) ?_
      obtain ⟨q4, w3, h⟩ := fx_bd h
      refine gb_bind (gf_73 e3 es w3) ?_
      obtain ⟨q6, w5, h⟩ := fx_bd h
      refine gb_bind (gf_43 e3 (gr q4.1) (rfl : _ = gx q4.2) w5) ?_
      exact ih _ _ _ (ga_add e3 kg_1) _ _ (rfl : _ = gx q6) _ g1 h
def gm_41 (x1 : Nat) (x2 : Int) (s : gx_S) : Option (gx_S) :=
  if fx_oc x1 7 = true then (
  (gm_70 x1 s).bind fun q36 =>
  if (-2147483648 ≤ x2 ∧ x2 ≤ 2147483647) then (
  if ¬ x2 = 0 then (
    (gm_42 x1 q36).bind fun q40 =>
    gm_41_20 100000 x1 0 q40) else (
    (gm_74 x1 q36).bind fun q42 =>
    some q42)) else none) else none
theorem gf_41 {x1 : Nat} {x2 : Int} {yx2 : Int32} (e2 : yx2 = Int32.ofInt x2) {s : gx_S} {σ : fx_S} (es : σ = gx s) {q : gx_S} (h : gm_41 x1 x2 s = some q) : fm_41 x1 yx2 σ = some (gx q) := by
  unfold gm_41 at h
  unfold fm_41
  obtain ⟨gg, h⟩ := fx_gd h
  refine gb_t gg ?_
  have g1 := gg
  obtain ⟨q36, w35, h⟩ := fx_bd h
  refine gb_bind (gf_70 es w35) ?_
  obtain ⟨z37, h⟩ := fx_gd h
  by_cases c38 : ¬ x2 = 0
  · rw [if_pos c38] at h
    refine gb_t ((gc_ne e2 kg_0 z37 (by decide)).mpr c38) ?_
    obtain ⟨q40, w39, h⟩ := fx_bd h
    refine gb_bind (gf_42 (rfl : _ = gx q36) w39) ?_
    exact gf_41_20 100000 _ _ _ kg_0 _ _ (rfl : _ = gx q40) _ g1 h
  · rw [if_neg c38] at h
    refine gb_f (fun q => c38 ((gc_ne e2 kg_0 z37 (by decide)).mp q)) ?_
    obtain ⟨q42, w41, h⟩ := fx_bd h
    refine gb_bind (gf_74 (rfl : _ = gx q36) w41) ?_
    have h := Option.some.inj h
    subst h
    exact gretv (rfl : _ = gx q42)

/-! ZoneShares.counts(I)I -/
def gm_88 (x1 : Int) (s : gx_S) : Option (Int × gx_S) :=
  (gm_114 x1 s).bind fun q16 =>
  if ¬ (gb q16.1) = 0 then (
    (gm_4 q16.2).bind fun q19 =>
    if (-2147483648 ≤ q19.1 ∧ q19.1 ≤ 2147483647) then (
    if q19.1 = (-1) then (
      (gm_119 (gw1 q19.2 14 1 0)).bind fun q23 =>
      if 0 ≤ (0 : Int) ∧ 0 ≤ ((x1 * 9) : Int) ∧ 0 ≤ (9 : Int) ∧ (0 : Int) + 9 ≤ 9 ∧ ((x1 * 9) : Int) + 9 ≤ 27 then (
      (gm_66 1 x1 (gcp q23 61 0 3 ((x1 * 9)).toNat 9)).bind fun q28 =>
      some (q28.1, q28.2)) else none) else (
      some (((-2) - q19.1), (gw1 q19.2 14 1 0)))) else none) else (
    some ((-1), q16.2))
theorem gf_88 {x1 : Int} {yx1 : Int32} (e1 : yx1 = Int32.ofInt x1) {s : gx_S} {σ : fx_S} (es : σ = gx s) {q : Int × gx_S} (h : gm_88 x1 s = some q) : fm_88 yx1 σ = some (Int32.ofInt q.1, gx q.2) := by
  unfold gm_88 at h
  unfold fm_88
  obtain ⟨q16, w15, h⟩ := fx_bd h
  refine gb_bind (gf_114 e1 es w15) ?_
  by_cases c17 : ¬ (gb q16.1) = 0
  · rw [if_pos c17] at h
    refine gb_t ((gc_ne (gb_b q16.1) kg_0 (gb_r _) (by decide)).mpr c17) ?_
    obtain ⟨q19, w18, h⟩ := fx_bd h
    refine gb_bind (gf_4 (rfl : _ = gx q16.2) w18) ?_
    obtain ⟨z20, h⟩ := fx_gd h
    by_cases c21 : q19.1 = (-1)
    · rw [if_pos c21] at h
      refine gb_t ((gc_eq (gr q19.1) kg_m1 z20 (by decide)).mpr c21) ?_
      obtain ⟨q23, w22, h⟩ := fx_bd h
      refine gb_bind (gf_119 (gx_w1 (rfl : _ = gx q19.2) kg_0) w22) ?_
      obtain ⟨z26, h⟩ := fx_gd h
      refine gb_bind (gl_cpy (rfl : _ = gx q23) kg_0 (ga_mul e1 kg_9) kg_9 ga_61 ga_3 z26) ?_
      obtain ⟨q28, w27, h⟩ := fx_bd h
      refine gb_bind (gf_66 e1 (rfl : _ = gx (gcp q23 61 0 3 ((x1 * 9)).toNat 9)) w27) ?_
      have h := Option.some.inj h
      subst h
      exact gret (gr q28.1) (rfl : _ = gx q28.2)
    · rw [if_neg c21] at h
      refine gb_f (fun q => c21 ((gc_eq (gr q19.1) kg_m1 z20 (by decide)).mp q)) ?_
      have h := Option.some.inj h
      subst h
      exact gret (ga_sub kg_m2 (gr q19.1)) (gx_w1 (rfl : _ = gx q19.2) kg_0)
  · rw [if_neg c17] at h
    refine gb_f (fun q => c17 ((gc_ne (gb_b q16.1) kg_0 (gb_r _) (by decide)).mp q)) ?_
    have h := Option.some.inj h
    subst h
    exact gret kg_m1 (rfl : _ = gx q16.2)

/-! ZoneShares.fit(I)I -/
def gm_92_54 (k_21 : Int → Int → Int → gx_S → Option (Int × gx_S)) (x1 : Int) (x2 : Int) (x3 : Int) (s : gx_S) : Option (Int × gx_S) :=
  k_21 x1 x2 (x3 + 1) s
def gm_92_21 : Nat → Int → Int → Int → gx_S → Option (Int × gx_S)
  | 0, _, _, _, _ => none
  | n + 1, x1, x2, x3, s =>
    if (-2147483648 ≤ x3 ∧ x3 ≤ 2147483647) then (
    if 4 ≤ x3 then (
      if (-2147483648 ≤ x2 ∧ x2 ≤ 2147483647) then (
      if ¬ x2 = 0 then (
        (gm_119 s).bind fun q6 =>
        if 0 ≤ (0 : Int) ∧ 0 ≤ ((x1 * 4) : Int) ∧ 0 ≤ (4 : Int) ∧ (0 : Int) + 4 ≤ 4 ∧ ((x1 * 4) : Int) + 4 ≤ 12 then (
        some (x2, (gcp q6 63 0 4 ((x1 * 4)).toNat 4))) else none) else (
        some ((-2), s))) else none) else (
      if 0 ≤ x3 ∧ x3 < 4 then (
      if 0 ≤ ((x1 * 4) + x3) ∧ ((x1 * 4) + x3) < 12 then (
      if (-2147483648 ≤ (s.1 63 (x3).toNat) ∧ (s.1 63 (x3).toNat) ≤ 2147483647) then (
      if (-2147483648 ≤ (s.1 4 (((x1 * 4) + x3)).toNat) ∧ (s.1 4 (((x1 * 4) + x3)).toNat) ≤ 2147483647) then (
      if (s.1 63 (x3).toNat) = (s.1 4 (((x1 * 4) + x3)).toNat) then (
        gm_92_54 (gm_92_21 n) x1 x2 x3 s) else (
        gm_92_54 (gm_92_21 n) x1 (x2 + 1) x3 s)) else none) else none) else none) else none)) else none
def gm_92 (x1 : Int) (s : gx_S) : Option (Int × gx_S) :=
  (gm_121 x1 s).bind fun q25 =>
  if ¬ (gb q25.1) = 0 then (
    (gm_15 q25.2).bind fun q28 =>
    gm_92_21 100000 x1 0 0 q28) else (
    some ((-1), q25.2))
/-! ZoneShares.people(II)I -/
def gm_97 (x1 : Int) (x2 : Int) (s : gx_S) : Option (Int × gx_S) :=
  (gm_114 x1 s).bind fun q22 =>
  if (gb q22.1) = 0 then (
    some ((-1), q22.2)) else (
    if (-2147483648 ≤ x2 ∧ x2 ≤ 2147483647) then (
    if x2 < 0 then (
      some ((-1), q22.2)) else (
      if x2 ≤ 10 then (
        if 0 ≤ x1 ∧ x1 < 3 then (
        (some (fx_rf 70 (x1).toNat)).bind fun v27 =>
        (gm_20 v27 q22.2).bind fun q32 =>
        if 8 ≤ x2 then (
          if ¬ x2 = 8 then (
            if ¬ x2 = 9 then (
              (gm_66 1 x1 q32).bind fun q37 =>
              some (q37.1, q37.2)) else (
              some ((q32.1 v27 7), q32))) else (
            some ((q32.1 v27 6), q32))) else (
          if 0 ≤ x2 ∧ x2 < 8 then (
          some ((q32.1 (v27 + 1) (x2).toNat), q32)) else none)) else none) else (
        some ((-1), q22.2)))) else none)
theorem gf_97 {x1 : Int} {yx1 : Int32} (e1 : yx1 = Int32.ofInt x1) {x2 : Int} {yx2 : Int32} (e2 : yx2 = Int32.ofInt x2) {s : gx_S} {σ : fx_S} (es : σ = gx s) {q : Int × gx_S} (h : gm_97 x1 x2 s = some q) : fm_97 yx1 yx2 σ = some (Int32.ofInt q.1, gx q.2) := by
  unfold gm_97 at h
  unfold fm_97
  obtain ⟨q22, w21, h⟩ := fx_bd h
  refine gb_bind (gf_114 e1 es w21) ?_
  by_cases c23 : (gb q22.1) = 0
  · rw [if_pos c23] at h
    refine gb_t ((gc_eq (gb_b q22.1) kg_0 (gb_r _) (by decide)).mpr c23) ?_
    have h := Option.some.inj h
    subst h
    exact gret kg_m1 (rfl : _ = gx q22.2)
  · rw [if_neg c23] at h
    refine gb_f (fun q => c23 ((gc_eq (gb_b q22.1) kg_0 (gb_r _) (by decide)).mp q)) ?_
    obtain ⟨z24, h⟩ := fx_gd h
    by_cases c25 : x2 < 0
    · rw [if_pos c25] at h
      refine gb_t ((gc_lt e2 kg_0 z24 (by decide)).mpr c25) ?_
      have h := Option.some.inj h
      subst h
      exact gret kg_m1 (rfl : _ = gx q22.2)
    · rw [if_neg c25] at h
      refine gb_f (fun q => c25 ((gc_lt e2 kg_0 z24 (by decide)).mp q)) ?_
      by_cases c26 : x2 ≤ 10
      · rw [if_pos c26] at h
        refine gb_t ((gc_le e2 kg_10 z24 (by decide)).mpr c26) ?_
        obtain ⟨z30, h⟩ := fx_gd h
        obtain ⟨v27, w28, h⟩ := fx_bd h
        have g29 := fa_70 ((gl_ldr (t := 4) e1 ga_70 z30).trans w28)
        refine gb_bind ((gl_ldr e1 ga_70 z30).trans w28) ?_
        obtain ⟨q32, w31, h⟩ := fx_bd h
        refine gb_bind (gf_20 (rfl : _ = gx q22.2) w31) ?_
        by_cases c33 : 8 ≤ x2
        · rw [if_pos c33] at h
          refine gb_t ((gc_le kg_8 e2 (by decide) z24).mpr c33) ?_
          by_cases c34 : ¬ x2 = 8
          · rw [if_pos c34] at h
            refine gb_t ((gc_ne e2 kg_8 z24 (by decide)).mpr c34) ?_
            by_cases c35 : ¬ x2 = 9
            · rw [if_pos c35] at h
              refine gb_t ((gc_ne e2 kg_9 z24 (by decide)).mpr c35) ?_
              obtain ⟨q37, w36, h⟩ := fx_bd h
              refine gb_bind (gf_66 e1 (rfl : _ = gx q32) w36) ?_
              have h := Option.some.inj h
              subst h
              exact gret (gr q37.1) (rfl : _ = gx q37.2)
            · rw [if_neg c35] at h
              refine gb_f (fun q => c35 ((gc_ne e2 kg_9 z24 (by decide)).mp q)) ?_
              have h := Option.some.inj h
              subst h
              exact gret (gf1 (rfl : _ = gx q32) v27 7) (rfl : _ = gx q32)
          · rw [if_neg c34] at h
            refine gb_f (fun q => c34 ((gc_ne e2 kg_8 z24 (by decide)).mp q)) ?_
            have h := Option.some.inj h
            subst h
            exact gret (gf1 (rfl : _ = gx q32) v27 6) (rfl : _ = gx q32)
        · rw [if_neg c33] at h
          refine gb_f (fun q => c33 ((gc_le kg_8 e2 (by decide) z24).mp q)) ?_
          obtain ⟨z40, h⟩ := fx_gd h
          refine gb_bind (gl_ld (rfl : _ = gx q32) e2 (ga_2_0 g29) z40) ?_
          have h := Option.some.inj h
          subst h
          exact gret (gr (q32.1 (v27 + 1) (x2).toNat)) (rfl : _ = gx q32)
      · rw [if_neg c26] at h
        refine gb_f (fun q => c26 ((gc_le e2 kg_10 z24 (by decide)).mp q)) ?_
        have h := Option.some.inj h
        subst h
        exact gret kg_m1 (rfl : _ = gx q22.2)

/-! ZoneShares.misfit(II)J -/
def gm_102_17 (s : gx_S) : Option (Int × gx_S) :=
  some ((-1), s)
def gm_102 (x1 : Int) (x2 : Int) (s : gx_S) : Option (Int × gx_S) :=
  if (-2147483648 ≤ x2 ∧ x2 ≤ 2147483647) then (
  if x2 < 0 then (
    gm_102_17 s) else (
    if 1 < x2 then (
      gm_102_17 s) else (
      (gm_121 x1 s).bind fun q19 =>
      if ¬ (gb q19.1) = 0 then (
        (gm_12 4 (x1 * 4) q19.2).bind fun q22 =>
        if (-9223372036854775808 ≤ q22.1 ∧ q22.1 ≤ 9223372036854775807) then (
        if ¬ q22.1 = 0 then (
          (gm_14 q22.2).bind fun q26 =>
          (gm_127 q26.1 q22.1 x2 q26.2).bind fun q28 =>
          some (q28.1, q28.2)) else (
          some ((-1), q22.2))) else none) else (
        gm_102_17 q19.2)))) else none
/-! ZoneShares.peopleInAll(Z)I -/
def gm_126_67 (x2 : Int) (s : gx_S) : Option (Int × gx_S) :=
  some (x2, s)
theorem gf_126_67 (x2 : Int) (yx2 : Int32) (e2 : yx2 = Int32.ofInt x2) (s : gx_S) (σ : fx_S) (es : σ = gx s) (q : Int × gx_S) (h : gm_126_67 x2 s = some q) : fm_126_67 yx2 σ = some (Int32.ofInt q.1, gx q.2) := by
  unfold gm_126_67 at h
  unfold fm_126_67
  have h := Option.some.inj h
  subst h
  exact gret e2 es
def gm_126_59 (k_4 : Int → Int → Int → gx_S → Option (Int × gx_S)) (x1 : Int) (x3 : Int) (s0 : Int) (s1 : Int) (s : gx_S) : Option (Int × gx_S) :=
  k_4 x1 (s0 + s1) (x3 + 1) s
theorem gf_126_59 {kf_4 : Int32 → Int32 → Int32 → fx_S → Option (Int32 × fx_S)} {kg_4 : Int → Int → Int → gx_S → Option (Int × gx_S)} (hk_4 : ∀ (x1 : Int) (yx1 : Int32) (e1 : yx1 = Int32.ofInt x1) (x2 : Int) (yx2 : Int32) (e2 : yx2 = Int32.ofInt x2) (x3 : Int) (yx3 : Int32) (e3 : yx3 = Int32.ofInt x3) (s : gx_S) (σ : fx_S) (es : σ = gx s) (q : Int × gx_S), kg_4 x1 x2 x3 s = some q → kf_4 yx1 yx2 yx3 σ = some (Int32.ofInt q.1, gx q.2)) (x1 : Int) (yx1 : Int32) (e1 : yx1 = Int32.ofInt x1) (x3 : Int) (yx3 : Int32) (e3 : yx3 = Int32.ofInt x3) (s0 : Int) (ys0 : Int32) (es0 : ys0 = Int32.ofInt s0) (s1 : Int) (ys1 : Int32) (es1 : ys1 = Int32.ofInt s1) (s : gx_S) (σ : fx_S) (es : σ = gx s) (q : Int × gx_S) (h : gm_126_59 kg_4 x1 x3 s0 s1 s = some q) : fm_126_59 kf_4 yx1 yx3 ys0 ys1 σ = some (Int32.ofInt q.1, gx q.2) := by
  unfold gm_126_59 at h
  unfold fm_126_59
  exact hk_4 _ _ e1 _ _ (ga_add es0 es1) _ _ (ga_add e3 kg_1) _ _ es _ h
def gm_126_4 : Nat → Int → Int → Int → gx_S → Option (Int × gx_S)
  | 0, _, _, _, _ => none
  | n + 1, x1, x2, x3, s =>
    if (-2147483648 ≤ x3 ∧ x3 ≤ 2147483647) then (
    if 3 ≤ x3 then (
      gm_126_67 x2 s) else (
      (gm_57 1 s).bind fun q4 =>
      if (gb q4.1) = 0 then (
        gm_126_67 x2 q4.2) else (
        if 0 ≤ x3 ∧ x3 < 3 then (
        (some (fx_rf 70 (x3).toNat)).bind fun v6 =>
        (gm_20 v6 q4.2).bind fun q11 =>
        if (-2147483648 ≤ x1 ∧ x1 ≤ 2147483647) then (
        if x1 = 0 then (
          gm_126_59 (gm_126_4 n) x1 x3 x2 (q11.1 v6 7) q11) else (
          (gm_66 1 x3 q11).bind fun q15 =>
          gm_126_59 (gm_126_4 n) x1 x3 x2 (q15.1 - (q15.2.1 v6 7)) q15.2)) else none) else none))) else none
theorem gf_126_4 : ∀ (n : Nat) (x1 : Int) (yx1 : Int32) (e1 : yx1 = Int32.ofInt x1) (x2 : Int) (yx2 : Int32) (e2 : yx2 = Int32.ofInt x2) (x3 : Int) (yx3 : Int32) (e3 : yx3 = Int32.ofInt x3) (s : gx_S) (σ : fx_S) (es : σ = gx s) (q : Int × gx_S), gm_126_4 n x1 x2 x3 s = some q → fm_126_4 n yx1 yx2 yx3 σ = some (Int32.ofInt q.1, gx q.2) := by
  intro n
  induction n with
  | zero =>
    intro x1 yx1 e1 x2 yx2 e2 x3 yx3 e3 s σ es q  h
    rw [gm_126_4] at h
    exact fx_no h
  | succ n ih =>
    intro x1 yx1 e1 x2 yx2 e2 x3 yx3 e3 s σ es q  h
    rw [gm_126_4] at h
    rw [fm_126_4]
    obtain ⟨z1, h⟩ := fx_gd h
    by_cases c2 : 3 ≤ x3
    · rw [if_pos c2] at h
      refine gb_t ((gc_le kg_3 e3 (by decide) z1).mpr c2) ?_
      exact gf_126_67 _ _ e2 _ _ es _ h
    · rw [if_neg c2] at h
      refine gb_f (fun q => c2 ((gc_le kg_3 e3 (by decide) z1).mp q)) ?_
      obtain ⟨q4, w3, h⟩ := fx_bd h
      refine gb_bind (gf_57 es w3) ?_
      by_cases c5 : (gb q4.1) = 0
      · rw [if_pos c5] at h
        refine gb_t ((gc_eq (gb_b q4.1) kg_0 (gb_r _) (by decide)).mpr c5) ?_
        exact gf_126_67 _ _ e2 _ _ (rfl : _ = gx q4.2) _ h
      · rw [if_neg c5] at h
        refine gb_f (fun q => c5 ((gc_eq (gb_b q4.1) kg_0 (gb_r _) (by decide)).mp q)) ?_
        obtain ⟨z9, h⟩ := fx_gd h
        obtain ⟨v6, w7, h⟩ := fx_bd h
        have g8 := fa_70 ((gl_ldr (t := 4) e3 ga_70 z9).trans w7)
        refine gb_bind ((gl_ldr e3 ga_70 z9).trans w7) ?_
        obtain ⟨q11, w10, h⟩ := fx_bd h
        refine gb_bind (gf_20 (rfl : _ = gx q4.2) w10) ?_
        obtain ⟨z12, h⟩ := fx_gd h
        by_cases c13 : x1 = 0
        · rw [if_pos c13] at h
          refine gb_t ((gc_eq e1 kg_0 z12 (by decide)).mpr c13) ?_
          exact gf_126_59 ih _ _ e1 _ _ e3 _ _ e2 _ _ (gf1 (rfl : _ = gx q11) v6 7) _ _ (rfl : _ = gx q11) _ h
        · rw [if_neg c13] at h
          refine gb_f (fun q => c13 ((gc_eq e1 kg_0 z12 (by decide)).mp q)) ?_
          obtain ⟨q15, w14, h⟩ := fx_bd h
          refine gb_bind (gf_66 e3 (rfl : _ = gx q11) w14) ?_
          exact gf_126_59 ih _ _ e1 _ _ e3 _ _ e2 _ _ (ga_sub (gr q15.1) (gf1 (rfl : _ = gx q15.2) v6 7)) _ _ (rfl : _ = gx q15.2) _ h
def gm_126 (x1 : Int) (s : gx_S) : Option (Int × gx_S) :=
  gm_126_4 100000 x1 0 0 s
theorem gf_126 {x1 : Int} {yx1 : Int32} (e1 : yx1 = Int32.ofInt x1) {s : gx_S} {σ : fx_S} (es : σ = gx s) {q : Int × gx_S} (h : gm_126 x1 s = some q) : fm_126 yx1 σ = some (Int32.ofInt q.1, gx q.2) := by
  unfold gm_126 at h
  unfold fm_126
  exact gf_126_4 100000 _ _ e1 _ _ kg_0 _ _ kg_0 _ _ es _ h

/-! ZoneShares$Group.ready(I)LZoneShares$Group; -/
def gm_19_220 (x0 : Nat) (s : gx_S) : Option (gx_S) :=
  some s
theorem gf_19_220 (x0 : Nat) (s : gx_S) (σ : fx_S) (es : σ = gx s) (q : gx_S) (g0 : fx_oc x0 2 = true) (h : gm_19_220 x0 s = some q) : fm_19_220 x0 σ = some (gx q) := by
  unfold gm_19_220 at h
  unfold fm_19_220
  have h := Option.some.inj h
  subst h
  exact gretv es
def gm_19_201 (x0 : Nat) (x1 : Int) (s : gx_S) : Option (gx_S) :=
  if (-2147483648 ≤ x1 ∧ x1 ≤ 2147483647) then (
  if ¬ x1 = 32 then (
    gm_19_220 x0 s) else (
    (gm_21 x0 32 s).bind fun q4 =>
    if (gb q4.1) = 0 then (
      gm_19_220 x0 q4.2) else (
      (gm_29 x0 q4.2).bind fun q7 =>
      gm_19_220 x0 q7))) else none
theorem gf_19_201 (x0 : Nat) (x1 : Int) (yx1 : Int32) (e1 : yx1 = Int32.ofInt x1) (s : gx_S) (σ : fx_S) (es : σ = gx s) (q : gx_S) (g0 : fx_oc x0 2 = true) (h : gm_19_201 x0 x1 s = some q) : fm_19_201 x0 yx1 σ = some (gx q) := by
  unfold gm_19_201 at h
  unfold fm_19_201
  obtain ⟨z1, h⟩ := fx_gd h
  by_cases c2 : ¬ x1 = 32
  · rw [if_pos c2] at h
    refine gb_t ((gc_ne e1 kg_32 z1 (by decide)).mpr c2) ?_
    exact gf_19_220 _ _ _ es _ g0 h
  · rw [if_neg c2] at h
    refine gb_f (fun q => c2 ((gc_ne e1 kg_32 z1 (by decide)).mp q)) ?_
    obtain ⟨q4, w3, h⟩ := fx_bd h
    refine gb_bind (gf_21 kg_32 es w3) ?_
    by_cases c5 : (gb q4.1) = 0
    · rw [if_pos c5] at h
      refine gb_t ((gc_eq (gb_b q4.1) kg_0 (gb_r _) (by decide)).mpr c5) ?_
      exact gf_19_220 _ _ _ (rfl : _ = gx q4.2) _ g0 h
    · rw [if_neg c5] at h
      refine gb_f (fun q => c5 ((gc_eq (gb_b q4.1) kg_0 (gb_r _) (by decide)).mp q)) ?_
      obtain ⟨q7, w6, h⟩ := fx_bd h
      refine gb_bind (gf_29 (rfl : _ = gx q4.2) w6) ?_
      exact gf_19_220 _ _ _ (rfl : _ = gx q7) _ g0 h
def gm_19_198 (x0 : Nat) (x1 : Int) (s1 : Nat) (s2 : Int) (s : gx_S) : Option (gx_S) :=
  (gm_41 s1 s2 s).bind fun q2 =>
  gm_19_201 x0 x1 q2
theorem gf_19_198 (x0 : Nat) (x1 : Int) (yx1 : Int32) (e1 : yx1 = Int32.ofInt x1) (s1 : Nat) (s2 : Int) (ys2 : Int32) (es2 : ys2 = Int32.ofInt s2) (s : gx_S) (σ : fx_S) (es : σ = gx s) (q : gx_S) (g0 : fx_oc x0 2 = true) (gs1 : fx_oc s1 7 = true) (h : gm_19_198 x0 x1 s1 s2 s = some q) : fm_19_198 x0 yx1 s1 ys2 σ = some (gx q) := by
  unfold gm_19_198 at h
  unfold fm_19_198
  obtain ⟨q2, w1, h⟩ := fx_bd h
  refine gb_bind (gf_41 es2 es w1) ?_
  exact gf_19_201 _ _ _ e1 _ _ (rfl : _ = gx q2) _ g0 h
def gm_19_155 (x0 : Nat) (x1 : Int) (s : gx_S) : Option (gx_S) :=
  if (-2147483648 ≤ x1 ∧ x1 ≤ 2147483647) then (
  if ¬ x1 = 16 then (
    gm_19_201 x0 x1 s) else (
    (gm_21 x0 16 s).bind fun q4 =>
    if (gb q4.1) = 0 then (
      gm_19_201 x0 x1 q4.2) else (
      (gm_26 x0 q4.2).bind fun q7 =>
      if (-2147483648 ≤ (q7.1 1 7) ∧ (q7.1 1 7) ≤ 2147483647) then (
      if ¬ (q7.1 1 7) = 1 then (
        gm_19_198 x0 x1 (x0 + 30) 0 q7) else (
        gm_19_198 x0 x1 (x0 + 30) 1 q7)) else none))) else none
theorem gf_19_155 (x0 : Nat) (x1 : Int) (yx1 : Int32) (e1 : yx1 = Int32.ofInt x1) (s : gx_S) (σ : fx_S) (es : σ = gx s) (q : gx_S) (g0 : fx_oc x0 2 = true) (h : gm_19_155 x0 x1 s = some q) : fm_19_155 x0 yx1 σ = some (gx q) := by
  unfold gm_19_155 at h
  unfold fm_19_155
  obtain ⟨z1, h⟩ := fx_gd h
  by_cases c2 : ¬ x1 = 16
  · rw [if_pos c2] at h
    refine gb_t ((gc_ne e1 kg_16 z1 (by decide)).mpr c2) ?_
    exact gf_19_201 _ _ _ e1 _ _ es _ g0 h
  · rw [if_neg c2] at h
    refine gb_f (fun q => c2 ((gc_ne e1 kg_16 z1 (by decide)).mp q)) ?_
    obtain ⟨q4, w3, h⟩ := fx_bd h
    refine gb_bind (gf_21 kg_16 es w3) ?_
    by_cases c5 : (gb q4.1) = 0
    · rw [if_pos c5] at h
      refine gb_t ((gc_eq (gb_b q4.1) kg_0 (gb_r _) (by decide)).mpr c5) ?_
      exact gf_19_201 _ _ _ e1 _ _ (rfl : _ = gx q4.2) _ g0 h
    · rw [if_neg c5] at h
      refine gb_f (fun q => c5 ((gc_eq (gb_b q4.1) kg_0 (gb_r _) (by decide)).mp q)) ?_
      obtain ⟨q7, w6, h⟩ := fx_bd h
      refine gb_bind (gf_26 (rfl : _ = gx q4.2) w6) ?_
      obtain ⟨z8, h⟩ := fx_gd h
      by_cases c9 : ¬ (q7.1 1 7) = 1
      · rw [if_pos c9] at h
        refine gb_t ((gc_ne (gf1 (rfl : _ = gx q7) 1 7) kg_1 z8 (by decide)).mpr c9) ?_
        exact gf_19_198 _ _ _ e1 _ _ _ kg_0 _ _ (rfl : _ = gx q7) _ g0 (fg_2_5 g0) h
      · rw [if_neg c9] at h
        refine gb_f (fun q => c9 ((gc_ne (gf1 (rfl : _ = gx q7) 1 7) kg_1 z8 (by decide)).mp q)) ?_
        exact gf_19_198 _ _ _ e1 _ _ _ kg_1 _ _ (rfl : _ = gx q7) _ g0 (fg_2_5 g0) h
def gm_19_152 (x0 : Nat) (x1 : Int) (s1 : Nat) (s2 : Int) (s : gx_S) : Option (gx_S) :=
  (gm_41 s1 s2 s).bind fun q2 =>
  gm_19_155 x0 x1 q2
theorem gf_19_152 (x0 : Nat) (x1 : Int) (yx1 : Int32) (e1 : yx1 = Int32.ofInt x1) (s1 : Nat) (s2 : Int) (ys2 : Int32) (es2 : ys2 = Int32.ofInt s2) (s : gx_S) (σ : fx_S) (es : σ = gx s) (q : gx_S) (g0 : fx_oc x0 2 = true) (gs1 : fx_oc s1 7 = true) (h : gm_19_152 x0 x1 s1 s2 s = some q) : fm_19_152 x0 yx1 s1 ys2 σ = some (gx q) := by
  unfold gm_19_152 at h
  unfold fm_19_152
  obtain ⟨q2, w1, h⟩ := fx_bd h
  refine gb_bind (gf_41 es2 es w1) ?_
  exact gf_19_155 _ _ _ e1 _ _ (rfl : _ = gx q2) _ g0 h
def gm_19_115 (x0 : Nat) (x1 : Int) (s : gx_S) : Option (gx_S) :=
  (gm_21 x0 8 s).bind fun q2 =>
  if (gb q2.1) = 0 then (
    gm_19_155 x0 x1 q2.2) else (
    (gm_25 x0 q2.2).bind fun q5 =>
    if (-2147483648 ≤ (q5.1 1 7) ∧ (q5.1 1 7) ≤ 2147483647) then (
    if ¬ (q5.1 1 7) = 1 then (
      gm_19_152 x0 x1 (x0 + 21) 0 q5) else (
      gm_19_152 x0 x1 (x0 + 21) 1 q5)) else none)
theorem gf_19_115 (x0 : Nat) (x1 : Int) (yx1 : Int32) (e1 : yx1 = Int32.ofInt x1) (s : gx_S) (σ : fx_S) (es : σ = gx s) (q : gx_S) (g0 : fx_oc x0 2 = true) (h : gm_19_115 x0 x1 s = some q) : fm_19_115 x0 yx1 σ = some (gx q) := by
  unfold gm_19_115 at h
  unfold fm_19_115
  obtain ⟨q2, w1, h⟩ := fx_bd h
  refine gb_bind (gf_21 kg_8 es w1) ?_
  by_cases c3 : (gb q2.1) = 0
  · rw [if_pos c3] at h
    refine gb_t ((gc_eq (gb_b q2.1) kg_0 (gb_r _) (by decide)).mpr c3) ?_
    exact gf_19_155 _ _ _ e1 _ _ (rfl : _ = gx q2.2) _ g0 h
  · rw [if_neg c3] at h
    refine gb_f (fun q => c3 ((gc_eq (gb_b q2.1) kg_0 (gb_r _) (by decide)).mp q)) ?_
    obtain ⟨q5, w4, h⟩ := fx_bd h
    refine gb_bind (gf_25 (rfl : _ = gx q2.2) w4) ?_
    obtain ⟨z6, h⟩ := fx_gd h
    by_cases c7 : ¬ (q5.1 1 7) = 1
    · rw [if_pos c7] at h
      refine gb_t ((gc_ne (gf1 (rfl : _ = gx q5) 1 7) kg_1 z6 (by decide)).mpr c7) ?_
      exact gf_19_152 _ _ _ e1 _ _ _ kg_0 _ _ (rfl : _ = gx q5) _ g0 (fg_2_4 g0) h
    · rw [if_neg c7] at h
      refine gb_f (fun q => c7 ((gc_ne (gf1 (rfl : _ = gx q5) 1 7) kg_1 z6 (by decide)).mp q)) ?_
      exact gf_19_152 _ _ _ e1 _ _ _ kg_1 _ _ (rfl : _ = gx q5) _ g0 (fg_2_4 g0) h
def gm_19_103 (x0 : Nat) (x1 : Int) (s : gx_S) : Option (gx_S) :=
  if (-2147483648 ≤ x1 ∧ x1 ≤ 2147483647) then (
  if x1 = 8 then (
    gm_19_115 x0 x1 s) else (
    if ¬ x1 = 16 then (
      gm_19_155 x0 x1 s) else (
      gm_19_115 x0 x1 s))) else none
theorem gf_19_103 (x0 : Nat) (x1 : Int) (yx1 : Int32) (e1 : yx1 = Int32.ofInt x1) (s : gx_S) (σ : fx_S) (es : σ = gx s) (q : gx_S) (g0 : fx_oc x0 2 = true) (h : gm_19_103 x0 x1 s = some q) : fm_19_103 x0 yx1 σ = some (gx q) := by
  unfold gm_19_103 at h
  unfold fm_19_103
  obtain ⟨z1, h⟩ := fx_gd h
  by_cases c2 : x1 = 8
  · rw [if_pos c2] at h
    refine gb_t ((gc_eq e1 kg_8 z1 (by decide)).mpr c2) ?_
    exact gf_19_115 _ _ _ e1 _ _ es _ g0 h
  · rw [if_neg c2] at h
    refine gb_f (fun q => c2 ((gc_eq e1 kg_8 z1 (by decide)).mp q)) ?_
    by_cases c3 : ¬ x1 = 16
    · rw [if_pos c3] at h
      refine gb_t ((gc_ne e1 kg_16 z1 (by decide)).mpr c3) ?_
      exact gf_19_155 _ _ _ e1 _ _ es _ g0 h
    · rw [if_neg c3] at h
      refine gb_f (fun q => c3 ((gc_ne e1 kg_16 z1 (by decide)).mp q)) ?_
      exact gf_19_115 _ _ _ e1 _ _ es _ g0 h
def gm_19_100 (x0 : Nat) (x1 : Int) (s1 : Nat) (s2 : Int) (s : gx_S) : Option (gx_S) :=
  (gm_41 s1 s2 s).bind fun q2 =>
  gm_19_103 x0 x1 q2
theorem gf_19_100 (x0 : Nat) (x1 : Int) (yx1 : Int32) (e1 : yx1 = Int32.ofInt x1) (s1 : Nat) (s2 : Int) (ys2 : Int32) (es2 : ys2 = Int32.ofInt s2) (s : gx_S) (σ : fx_S) (es : σ = gx s) (q : gx_S) (g0 : fx_oc x0 2 = true) (gs1 : fx_oc s1 7 = true) (h : gm_19_100 x0 x1 s1 s2 s = some q) : fm_19_100 x0 yx1 s1 ys2 σ = some (gx q) := by
  unfold gm_19_100 at h
  unfold fm_19_100
  obtain ⟨q2, w1, h⟩ := fx_bd h
  refine gb_bind (gf_41 es2 es w1) ?_
  exact gf_19_103 _ _ _ e1 _ _ (rfl : _ = gx q2) _ g0 h
def gm_19_59 (x0 : Nat) (x1 : Int) (s : gx_S) : Option (gx_S) :=
  if (-2147483648 ≤ x1 ∧ x1 ≤ 2147483647) then (
  if ¬ x1 = 4 then (
    gm_19_103 x0 x1 s) else (
    (gm_21 x0 4 s).bind fun q4 =>
    if (gb q4.1) = 0 then (
      gm_19_103 x0 x1 q4.2) else (
      (gm_24 x0 q4.2).bind fun q7 =>
      if (-2147483648 ≤ (q7.1 1 7) ∧ (q7.1 1 7) ≤ 2147483647) then (
      if ¬ (q7.1 1 7) = 1 then (
        gm_19_100 x0 x1 (x0 + 12) 0 q7) else (
        gm_19_100 x0 x1 (x0 + 12) 1 q7)) else none))) else none
theorem gf_19_59 (x0 : Nat) (x1 : Int) (yx1 : Int32) (e1 : yx1 = Int32.ofInt x1) (s : gx_S) (σ : fx_S) (es : σ = gx s) (q : gx_S) (g0 : fx_oc x0 2 = true) (h : gm_19_59 x0 x1 s = some q) : fm_19_59 x0 yx1 σ = some (gx q) := by
  unfold gm_19_59 at h
  unfold fm_19_59
  obtain ⟨z1, h⟩ := fx_gd h
  by_cases c2 : ¬ x1 = 4
  · rw [if_pos c2] at h
    refine gb_t ((gc_ne e1 kg_4 z1 (by decide)).mpr c2) ?_
    exact gf_19_103 _ _ _ e1 _ _ es _ g0 h
  · rw [if_neg c2] at h
    refine gb_f (fun q => c2 ((gc_ne e1 kg_4 z1 (by decide)).mp q)) ?_
    obtain ⟨q4, w3, h⟩ := fx_bd h
    refine gb_bind (gf_21 kg_4 es w3) ?_
    by_cases c5 : (gb q4.1) = 0
    · rw [if_pos c5] at h
      refine gb_t ((gc_eq (gb_b q4.1) kg_0 (gb_r _) (by decide)).mpr c5) ?_
      exact gf_19_103 _ _ _ e1 _ _ (rfl : _ = gx q4.2) _ g0 h
    · rw [if_neg c5] at h
      refine gb_f (fun q => c5 ((gc_eq (gb_b q4.1) kg_0 (gb_r _) (by decide)).mp q)) ?_
      obtain ⟨q7, w6, h⟩ := fx_bd h
      refine gb_bind (gf_24 (rfl : _ = gx q4.2) w6) ?_
      obtain ⟨z8, h⟩ := fx_gd h
      by_cases c9 : ¬ (q7.1 1 7) = 1
      · rw [if_pos c9] at h
        refine gb_t ((gc_ne (gf1 (rfl : _ = gx q7) 1 7) kg_1 z8 (by decide)).mpr c9) ?_
        exact gf_19_100 _ _ _ e1 _ _ _ kg_0 _ _ (rfl : _ = gx q7) _ g0 (fg_2_3 g0) h
      · rw [if_neg c9] at h
        refine gb_f (fun q => c9 ((gc_ne (gf1 (rfl : _ = gx q7) 1 7) kg_1 z8 (by decide)).mp q)) ?_
        exact gf_19_100 _ _ _ e1 _ _ _ kg_1 _ _ (rfl : _ = gx q7) _ g0 (fg_2_3 g0) h
def gm_19_56 (x0 : Nat) (x1 : Int) (s1 : Nat) (s2 : Int) (s : gx_S) : Option (gx_S) :=
  (gm_41 s1 s2 s).bind fun q2 =>
  gm_19_59 x0 x1 q2
theorem gf_19_56 (x0 : Nat) (x1 : Int) (yx1 : Int32) (e1 : yx1 = Int32.ofInt x1) (s1 : Nat) (s2 : Int) (ys2 : Int32) (es2 : ys2 = Int32.ofInt s2) (s : gx_S) (σ : fx_S) (es : σ = gx s) (q : gx_S) (g0 : fx_oc x0 2 = true) (gs1 : fx_oc s1 7 = true) (h : gm_19_56 x0 x1 s1 s2 s = some q) : fm_19_56 x0 yx1 s1 ys2 σ = some (gx q) := by
  unfold gm_19_56 at h
  unfold fm_19_56
  obtain ⟨q2, w1, h⟩ := fx_bd h
  refine gb_bind (gf_41 es2 es w1) ?_
  exact gf_19_59 _ _ _ e1 _ _ (rfl : _ = gx q2) _ g0 h
def gm_19_20 (x0 : Nat) (x1 : Int) (s : gx_S) : Option (gx_S) :=
  (gm_21 x0 2 s).bind fun q2 =>
  if (gb q2.1) = 0 then (
    gm_19_59 x0 x1 q2.2) else (
    (gm_23 x0 q2.2).bind fun q5 =>
    if (-2147483648 ≤ (q5.1 1 7) ∧ (q5.1 1 7) ≤ 2147483647) then (
    if ¬ (q5.1 1 7) = 1 then (
      gm_19_56 x0 x1 (x0 + 3) 0 q5) else (
      gm_19_56 x0 x1 (x0 + 3) 1 q5)) else none)
theorem gf_19_20 (x0 : Nat) (x1 : Int) (yx1 : Int32) (e1 : yx1 = Int32.ofInt x1) (s : gx_S) (σ : fx_S) (es : σ = gx s) (q : gx_S) (g0 : fx_oc x0 2 = true) (h : gm_19_20 x0 x1 s = some q) : fm_19_20 x0 yx1 σ = some (gx q) := by
  unfold gm_19_20 at h
  unfold fm_19_20
  obtain ⟨q2, w1, h⟩ := fx_bd h
  refine gb_bind (gf_21 kg_2 es w1) ?_
  by_cases c3 : (gb q2.1) = 0
  · rw [if_pos c3] at h
    refine gb_t ((gc_eq (gb_b q2.1) kg_0 (gb_r _) (by decide)).mpr c3) ?_
    exact gf_19_59 _ _ _ e1 _ _ (rfl : _ = gx q2.2) _ g0 h
  · rw [if_neg c3] at h
    refine gb_f (fun q => c3 ((gc_eq (gb_b q2.1) kg_0 (gb_r _) (by decide)).mp q)) ?_
    obtain ⟨q5, w4, h⟩ := fx_bd h
    refine gb_bind (gf_23 (rfl : _ = gx q2.2) w4) ?_
    obtain ⟨z6, h⟩ := fx_gd h
    by_cases c7 : ¬ (q5.1 1 7) = 1
    · rw [if_pos c7] at h
      refine gb_t ((gc_ne (gf1 (rfl : _ = gx q5) 1 7) kg_1 z6 (by decide)).mpr c7) ?_
      exact gf_19_56 _ _ _ e1 _ _ _ kg_0 _ _ (rfl : _ = gx q5) _ g0 (fg_2_2 g0) h
    · rw [if_neg c7] at h
      refine gb_f (fun q => c7 ((gc_ne (gf1 (rfl : _ = gx q5) 1 7) kg_1 z6 (by decide)).mp q)) ?_
      exact gf_19_56 _ _ _ e1 _ _ _ kg_1 _ _ (rfl : _ = gx q5) _ g0 (fg_2_2 g0) h
def gm_19 (x0 : Nat) (x1 : Int) (s : gx_S) : Option (gx_S) :=
  if fx_oc x0 2 = true then (
  (gm_20 x0 s).bind fun q58 =>
  if (-2147483648 ≤ x1 ∧ x1 ≤ 2147483647) then (
  if x1 = 2 then (
    gm_19_20 x0 x1 q58) else (
    if x1 = 4 then (
      gm_19_20 x0 x1 q58) else (
      if ¬ x1 = 32 then (
        gm_19_59 x0 x1 q58) else (
        gm_19_20 x0 x1 q58)))) else none) else none
theorem gf_19 {x0 : Nat} {x1 : Int} {yx1 : Int32} (e1 : yx1 = Int32.ofInt x1) {s : gx_S} {σ : fx_S} (es : σ = gx s) {q : gx_S} (h : gm_19 x0 x1 s = some q) : fm_19 x0 yx1 σ = some (gx q) := by
  unfold gm_19 at h
  unfold fm_19
  obtain ⟨gg, h⟩ := fx_gd h
  refine gb_t gg ?_
  have g0 := gg
  obtain ⟨q58, w57, h⟩ := fx_bd h
  refine gb_bind (gf_20 es w57) ?_
  obtain ⟨z59, h⟩ := fx_gd h
  by_cases c60 : x1 = 2
  · rw [if_pos c60] at h
    refine gb_t ((gc_eq e1 kg_2 z59 (by decide)).mpr c60) ?_
    exact gf_19_20 _ _ _ e1 _ _ (rfl : _ = gx q58) _ g0 h
  · rw [if_neg c60] at h
    refine gb_f (fun q => c60 ((gc_eq e1 kg_2 z59 (by decide)).mp q)) ?_
    by_cases c61 : x1 = 4
    · rw [if_pos c61] at h
      refine gb_t ((gc_eq e1 kg_4 z59 (by decide)).mpr c61) ?_
      exact gf_19_20 _ _ _ e1 _ _ (rfl : _ = gx q58) _ g0 h
    · rw [if_neg c61] at h
      refine gb_f (fun q => c61 ((gc_eq e1 kg_4 z59 (by decide)).mp q)) ?_
      by_cases c62 : ¬ x1 = 32
      · rw [if_pos c62] at h
        refine gb_t ((gc_ne e1 kg_32 z59 (by decide)).mpr c62) ?_
        exact gf_19_59 _ _ _ e1 _ _ (rfl : _ = gx q58) _ g0 h
      · rw [if_neg c62] at h
        refine gb_f (fun q => c62 ((gc_ne e1 kg_32 z59 (by decide)).mp q)) ?_
        exact gf_19_20 _ _ _ e1 _ _ (rfl : _ = gx q58) _ g0 h

/-! ZoneShares.adopt()I -/
def gm_93_44 : Nat → Int → Int → gx_S → Option (Int × gx_S)
  | 0, _, _, _ => none
  | n + 1, x1, x2, s =>
    if (-2147483648 ≤ x2 ∧ x2 ≤ 2147483647) then (
    if 3 ≤ x2 then (
      some (x1, (gcp s 2 96 2 0 96))) else (
      (gm_122 x2 s).bind fun q6 =>
      gm_93_44 n (x1 + q6.1) (x2 + 1) q6.2)) else none
theorem gf_93_44 : ∀ (n : Nat) (x1 : Int) (yx1 : Int32) (e1 : yx1 = Int32.ofInt x1) (x2 : Int) (yx2 : Int32) (e2 : yx2 = Int32.ofInt x2) (s : gx_S) (σ : fx_S) (es : σ = gx s) (q : Int × gx_S), gm_93_44 n x1 x2 s = some q → fm_93_44 n yx1 yx2 σ = some (Int32.ofInt q.1, gx q.2) := by
  intro n
  induction n with
  | zero =>
    intro x1 yx1 e1 x2 yx2 e2 s σ es q  h
    rw [gm_93_44] at h
    exact fx_no h
  | succ n ih =>
    intro x1 yx1 e1 x2 yx2 e2 s σ es q  h
    rw [gm_93_44] at h
    rw [fm_93_44]
    obtain ⟨z1, h⟩ := fx_gd h
    by_cases c2 : 3 ≤ x2
    · rw [if_pos c2] at h
      refine gb_t ((gc_le kg_3 e2 (by decide) z1).mpr c2) ?_
      refine gb_bind (gl_cpy es kg_96 kg_0 kg_96 ga_2 ga_2 (by decide)) ?_
      have h := Option.some.inj h
      subst h
      exact gret e1 (rfl : _ = gx (gcp s 2 96 2 0 96))
    · rw [if_neg c2] at h
      refine gb_f (fun q => c2 ((gc_le kg_3 e2 (by decide) z1).mp q)) ?_
      obtain ⟨q6, w5, h⟩ := fx_bd h
      refine gb_bind (gf_122 e2 es w5) ?_
      exact ih _ _ (ga_add e1 (gr q6.1)) _ _ (ga_add e2 kg_1) _ _ (rfl : _ = gx q6.2) _ h
def gm_93_14 : Nat → Int → gx_S → Option (Int × gx_S)
  | 0, _, _ => none
  | n + 1, x1, s =>
    if (-2147483648 ≤ x1 ∧ x1 ≤ 2147483647) then (
    if 3 ≤ x1 then (
      (gm_119 s).bind fun q4 =>
      gm_93_44 100000 0 0 q4) else (
      if 0 ≤ x1 ∧ x1 < 3 then (
      (some (fx_rf 70 (x1).toNat)).bind fun v5 =>
      (gm_19 v5 2 s).bind fun q10 =>
      gm_93_14 n (x1 + 1) q10) else none)) else none
theorem gf_93_14 : ∀ (n : Nat) (x1 : Int) (yx1 : Int32) (e1 : yx1 = Int32.ofInt x1) (s : gx_S) (σ : fx_S) (es : σ = gx s) (q : Int × gx_S), gm_93_14 n x1 s = some q → fm_93_14 n yx1 σ = some (Int32.ofInt q.1, gx q.2) := by
  intro n
  induction n with
  | zero =>
    intro x1 yx1 e1 s σ es q  h
    rw [gm_93_14] at h
    exact fx_no h
  | succ n ih =>
    intro x1 yx1 e1 s σ es q  h
    rw [gm_93_14] at h
    rw [fm_93_14]
    obtain ⟨z1, h⟩ := fx_gd h
    by_cases c2 : 3 ≤ x1
    · rw [if_pos c2] at h
      refine gb_t ((gc_le kg_3 e1 (by decide) z1).mpr c2) ?_
      obtain ⟨q4, w3, h⟩ := fx_bd h
      refine gb_bind (gf_119 es w3) ?_
      exact gf_93_44 100000 _ _ kg_0 _ _ kg_0 _ _ (rfl : _ = gx q4) _ h
    · rw [if_neg c2] at h
      refine gb_f (fun q => c2 ((gc_le kg_3 e1 (by decide) z1).mp q)) ?_
      obtain ⟨z8, h⟩ := fx_gd h
      obtain ⟨v5, w6, h⟩ := fx_bd h
      have g7 := fa_70 ((gl_ldr (t := 4) e1 ga_70 z8).trans w6)
      refine gb_bind ((gl_ldr e1 ga_70 z8).trans w6) ?_
      obtain ⟨q10, w9, h⟩ := fx_bd h
      refine gb_bind (gf_19 kg_2 es w9) ?_
      exact ih _ _ (ga_add e1 kg_1) _ _ (rfl : _ = gx q10) _ h
def gm_93 (s : gx_S) : Option (Int × gx_S) :=
  (gm_57 1 s).bind fun q21 =>
  if ¬ (gb q21.1) = 0 then (
    gm_93_14 100000 0 q21.2) else (
    some ((-1), q21.2))
theorem gf_93 {s : gx_S} {σ : fx_S} (es : σ = gx s) {q : Int × gx_S} (h : gm_93 s = some q) : fm_93 σ = some (Int32.ofInt q.1, gx q.2) := by
  unfold gm_93 at h
  unfold fm_93
  obtain ⟨q21, w20, h⟩ := fx_bd h
  refine gb_bind (gf_57 es w20) ?_
  by_cases c22 : ¬ (gb q21.1) = 0
  · rw [if_pos c22] at h
    refine gb_t ((gc_ne (gb_b q21.1) kg_0 (gb_r _) (by decide)).mpr c22) ?_
    exact gf_93_14 100000 _ _ kg_0 _ _ (rfl : _ = gx q21.2) _ h
  · rw [if_neg c22] at h
    refine gb_f (fun q => c22 ((gc_ne (gb_b q21.1) kg_0 (gb_r _) (by decide)).mp q)) ?_
    have h := Option.some.inj h
    subst h
    exact gret kg_m1 (rfl : _ = gx q21.2)

/-! ZoneShares.share(IIII)I -/
def gm_98 (x1 : Int) (x2 : Int) (x3 : Int) (x4 : Int) (s : gx_S) : Option (Int × gx_S) :=
  (gm_118 x1 x3 s).bind fun q28 =>
  if (gb q28.1) = 0 then (
    some ((-1), q28.2)) else (
    (gm_115 x2 q28.2).bind fun q31 =>
    if (gb q31.1) = 0 then (
      some ((-1), q31.2)) else (
      if (-2147483648 ≤ x4 ∧ x4 ≤ 2147483647) then (
      if x4 < 0 then (
        some ((-1), q31.2)) else (
        if x4 ≤ 1 then (
          if 0 ≤ x1 ∧ x1 < 3 then (
          (some (fx_rf 70 (x1).toNat)).bind fun v36 =>
          (gm_19 v36 2 q31.2).bind fun q41 =>
          if 0 ≤ x2 ∧ x2 < 8 then (
          if (-2147483648 ≤ (q41.1 ((v36 + 3) + 2) (x2).toNat) ∧ (q41.1 ((v36 + 3) + 2) (x2).toNat) ≤ 2147483647) then (
          if ¬ (q41.1 ((v36 + 3) + 2) (x2).toNat) = 0 then (
            if 0 ≤ ((x2 * 9) + x3) ∧ ((x2 * 9) + x3) < 72 then (
            if (-2147483648 ≤ (q41.1 ((v36 + 3) + 4) (((x2 * 9) + x3)).toNat) ∧ (q41.1 ((v36 + 3) + 4) (((x2 * 9) + x3)).toNat) ≤ 2147483647) then (
            (gm_127 (q41.1 ((v36 + 3) + 4) (((x2 * 9) + x3)).toNat) (q41.1 ((v36 + 3) + 2) (x2).toNat) x4 q41).bind fun q52 =>
            some (q52.1, q52.2)) else none) else none) else (
            some ((-1), q41))) else none) else none) else none) else (
          some ((-1), q31.2)))) else none))
theorem gf_98 {x1 : Int} {yx1 : Int32} (e1 : yx1 = Int32.ofInt x1) {x2 : Int} {yx2 : Int32} (e2 : yx2 = Int32.ofInt x2) {x3 : Int} {yx3 : Int32} (e3 : yx3 = Int32.ofInt x3) {x4 : Int} {yx4 : Int32} (e4 : yx4 = Int32.ofInt x4) {s : gx_S} {σ : fx_S} (es : σ = gx s) {q : Int × gx_S} (h : gm_98 x1 x2 x3 x4 s = some q) : fm_98 yx1 yx2 yx3 yx4 σ = some (Int32.ofInt q.1, gx q.2) := by
  unfold gm_98 at h
  unfold fm_98
  obtain ⟨q28, w27, h⟩ := fx_bd h
  refine gb_bind (gf_118 e1 e3 es w27) ?_
  by_cases c29 : (gb q28.1) = 0
  · rw [if_pos c29] at h
    refine gb_t ((gc_eq (gb_b q28.1) kg_0 (gb_r _) (by decide)).mpr c29) ?_
    have h := Option.some.inj h
    subst h
    exact gret kg_m1 (rfl : _ = gx q28.2)
  · rw [if_neg c29] at h
    refine gb_f (fun q => c29 ((gc_eq (gb_b q28.1) kg_0 (gb_r _) (by decide)).mp q)) ?_
    obtain ⟨q31, w30, h⟩ := fx_bd h
    refine gb_bind (gf_115 e2 (rfl : _ = gx q28.2) w30) ?_
    by_cases c32 : (gb q31.1) = 0
    · rw [if_pos c32] at h
      refine gb_t ((gc_eq (gb_b q31.1) kg_0 (gb_r _) (by decide)).mpr c32) ?_
      have h := Option.some.inj h
      subst h
      exact gret kg_m1 (rfl : _ = gx q31.2)
    · rw [if_neg c32] at h
      refine gb_f (fun q => c32 ((gc_eq (gb_b q31.1) kg_0 (gb_r _) (by decide)).mp q)) ?_
      obtain ⟨z33, h⟩ := fx_gd h
      by_cases c34 : x4 < 0
      · rw [if_pos c34] at h
        refine gb_t ((gc_lt e4 kg_0 z33 (by decide)).mpr c34) ?_
        have h := Option.some.inj h
        subst h
        exact gret kg_m1 (rfl : _ = gx q31.2)
      · rw [if_neg c34] at h
        refine gb_f (fun q => c34 ((gc_lt e4 kg_0 z33 (by decide)).mp q)) ?_
        by_cases c35 : x4 ≤ 1
        · rw [if_pos c35] at h
          refine gb_t ((gc_le e4 kg_1 z33 (by decide)).mpr c35) ?_
          obtain ⟨z39, h⟩ := fx_gd h
          obtain ⟨v36, w37, h⟩ := fx_bd h
          have g38 := fa_70 ((gl_ldr (t := 4) e1 ga_70 z39).trans w37)
          refine gb_bind ((gl_ldr e1 ga_70 z39).trans w37) ?_
          obtain ⟨q41, w40, h⟩ := fx_bd h
          refine gb_bind (gf_19 kg_2 (rfl : _ = gx q31.2) w40) ?_
          obtain ⟨z44, h⟩ := fx_gd h
          refine gb_bind (gl_ld (rfl : _ = gx q41) e2 (ga_7_1 (fg_2_2 g38)) z44) ?_
          obtain ⟨z45, h⟩ := fx_gd h
          by_cases c46 : ¬ (q41.1 ((v36 + 3) + 2) (x2).toNat) = 0
          · rw [if_pos c46] at h
            refine gb_t ((gc_ne (gr (q41.1 ((v36 + 3) + 2) (x2).toNat)) kg_0 z45 (by decide)).mpr c46) ?_
            obtain ⟨z49, h⟩ := fx_gd h
            refine gb_bind (gl_ld (rfl : _ = gx q41) (ga_add (ga_mul e2 kg_9) e3) (ga_7_3 (fg_2_2 g38)) z49) ?_
            obtain ⟨z50, h⟩ := fx_gd h
            obtain ⟨q52, w51, h⟩ := fx_bd h
            refine gb_bind (gf_127 (ga_i2l (gr (q41.1 ((v36 + 3) + 4) (((x2 * 9) + x3)).toNat)) z50) (ga_i2l (gr (q41.1 ((v36 + 3) + 2) (x2).toNat)) z45) e4 (rfl : _ = gx q41) w51) ?_
            have h := Option.some.inj h
            subst h
            exact gret (ga_l2i (gr2 q52.1)) (rfl : _ = gx q52.2)
          · rw [if_neg c46] at h
            refine gb_f (fun q => c46 ((gc_ne (gr (q41.1 ((v36 + 3) + 2) (x2).toNat)) kg_0 z45 (by decide)).mp q)) ?_
            have h := Option.some.inj h
            subst h
            exact gret kg_m1 (rfl : _ = gx q41)
        · rw [if_neg c35] at h
          refine gb_f (fun q => c35 ((gc_le e4 kg_1 z33 (by decide)).mp q)) ?_
          have h := Option.some.inj h
          subst h
          exact gret kg_m1 (rfl : _ = gx q31.2)

/-! ZoneShares.moved(III)I -/
def gm_99_124 (k_113 : Nat → Int → Int → Int → Int → Int → gx_S → Option (Int × gx_S)) : Nat → Nat → Int → Int → Int → Int → Int → Int → gx_S → Option (Int × gx_S)
  | 0, _, _, _, _, _, _, _, _ => none
  | n + 1, x4, x6, x7, x8, x9, x10, x11, s =>
    if (-2147483648 ≤ x11 ∧ x11 ≤ 2147483647) then (
    if (-2147483648 ≤ x8 ∧ x8 ≤ 2147483647) then (
    if x8 < x11 then (
      k_113 x4 x6 x7 x8 x9 (x10 + 1) s) else (
      if 0 ≤ ((x10 * 9) + x11) ∧ ((x10 * 9) + x11) < 72 then (
      gm_99_124 k_113 n x4 x6 x7 x8 (x9 + (s.1 ((x4 + 3) + 8) (((x10 * 9) + x11)).toNat)) x10 (x11 + 1) s) else none)) else none) else none
theorem gf_99_124 {kf_113 : Nat → Int32 → Int32 → Int32 → Int32 → Int32 → fx_S → Option (Int32 × fx_S)} {kg_113 : Nat → Int → Int → Int → Int → Int → gx_S → Option (Int × gx_S)} (hk_113 : ∀ (x4 : Nat) (x6 : Int) (yx6 : Int32) (e6 : yx6 = Int32.ofInt x6) (x7 : Int) (yx7 : Int32) (e7 : yx7 = Int32.ofInt x7) (x8 : Int) (yx8 : Int32) (e8 : yx8 = Int32.ofInt x8) (x9 : Int) (yx9 : Int32) (e9 : yx9 = Int32.ofInt x9) (x10 : Int) (yx10 : Int32) (e10 : yx10 = Int32.ofInt x10) (s : gx_S) (σ : fx_S) (es : σ = gx s) (q : Int × gx_S) (g4 : fx_oc x4 2 = true), kg_113 x4 x6 x7 x8 x9 x10 s = some q → kf_113 x4 yx6 yx7 yx8 yx9 yx10 σ = some (Int32.ofInt q.1, gx q.2)) : ∀ (n : Nat) (x4 : Nat) (x6 : Int) (yx6 : Int32) (e6 : yx6 = Int32.ofInt x6) (x7 : Int) (yx7 : Int32) (e7 : yx7 = Int32.ofInt x7) (x8 : Int) (yx8 : Int32) (e8 : yx8 = Int32.ofInt x8) (x9 : Int) (yx9 : Int32) (e9 : yx9 = Int32.ofInt x9) (x10 : Int) (yx10 : Int32) (e10 : yx10 = Int32.ofInt x10) (x11 : Int) (yx11 : Int32) (e11 : yx11 = Int32.ofInt x11) (s : gx_S) (σ : fx_S) (es : σ = gx s) (q : Int × gx_S) (g4 : fx_oc x4 2 = true), gm_99_124 kg_113 n x4 x6 x7 x8 x9 x10 x11 s = some q → fm_99_124 kf_113 n x4 yx6 yx7 yx8 yx9 yx10 yx11 σ = some (Int32.ofInt q.1, gx q.2) := by
  intro n
  induction n with
  | zero =>
    intro x4 x6 yx6 e6 x7 yx7 e7 x8 yx8 e8 x9 yx9 e9 x10 yx10 e10 x11 yx11 e11 s σ es q g4 h
    rw [gm_99_124] at h
    exact fx_no h
  | succ n ih =>
    intro x4 x6 yx6 e6 x7 yx7 e7 x8 yx8 e8 x9 yx9 e9 x10 yx10 e10 x11 yx11 e11 s σ es q g4 h
    rw [gm_99_124] at h
    rw [fm_99_124]
    obtain ⟨z1, h⟩ := fx_gd h
    obtain ⟨z2, h⟩ := fx_gd h
    by_cases c3 : x8 < x11
    · rw [if_pos c3] at h
      refine gb_t ((gc_lt e8 e11 z2 z1).mpr c3) ?_
      exact hk_113 _ _ _ e6 _ _ e7 _ _ e8 _ _ e9 _ _ (ga_add e10 kg_1) _ _ es _ g4 h
    · rw [if_neg c3] at h
      refine gb_f (fun q => c3 ((gc_lt e8 e11 z2 z1).mp q)) ?_
      obtain ⟨z6, h⟩ := fx_gd h
      refine gb_bind (gl_ld es (ga_add (ga_mul e10 kg_9) e11) (ga_7_7 (fg_2_2 g4)) z6) ?_
      exact ih _ _ _ e6 _ _ e7 _ _ e8 _ _ (ga_add e9 (gr (s.1 ((x4 + 3) + 8) (((x10 * 9) + x11)).toNat))) _ _ e10 _ _ (ga_add e11 kg_1) _ _ es _ g4 h
def gm_99_113 : Nat → Nat → Int → Int → Int → Int → Int → gx_S → Option (Int × gx_S)
  | 0, _, _, _, _, _, _, _ => none
  | n + 1, x4, x6, x7, x8, x9, x10, s =>
    if (-2147483648 ≤ x10 ∧ x10 ≤ 2147483647) then (
    if (-2147483648 ≤ x6 ∧ x6 ≤ 2147483647) then (
    if x6 < x10 then (
      some (x9, s)) else (
      gm_99_124 (gm_99_113 n) 100000 x4 x6 x7 x8 x9 x10 x7 s)) else none) else none
theorem gf_99_113 : ∀ (n : Nat) (x4 : Nat) (x6 : Int) (yx6 : Int32) (e6 : yx6 = Int32.ofInt x6) (x7 : Int) (yx7 : Int32) (e7 : yx7 = Int32.ofInt x7) (x8 : Int) (yx8 : Int32) (e8 : yx8 = Int32.ofInt x8) (x9 : Int) (yx9 : Int32) (e9 : yx9 = Int32.ofInt x9) (x10 : Int) (yx10 : Int32) (e10 : yx10 = Int32.ofInt x10) (s : gx_S) (σ : fx_S) (es : σ = gx s) (q : Int × gx_S) (g4 : fx_oc x4 2 = true), gm_99_113 n x4 x6 x7 x8 x9 x10 s = some q → fm_99_113 n x4 yx6 yx7 yx8 yx9 yx10 σ = some (Int32.ofInt q.1, gx q.2) := by
  intro n
  induction n with
  | zero =>
    intro x4 x6 yx6 e6 x7 yx7 e7 x8 yx8 e8 x9 yx9 e9 x10 yx10 e10 s σ es q g4 h
    rw [gm_99_113] at h
    exact fx_no h
  | succ n ih =>
    intro x4 x6 yx6 e6 x7 yx7 e7 x8 yx8 e8 x9 yx9 e9 x10 yx10 e10 s σ es q g4 h
    rw [gm_99_113] at h
    rw [fm_99_113]
    obtain ⟨z1, h⟩ := fx_gd h
    obtain ⟨z2, h⟩ := fx_gd h
    by_cases c3 : x6 < x10
    · rw [if_pos c3] at h
      refine gb_t ((gc_lt e6 e10 z2 z1).mpr c3) ?_
      have h := Option.some.inj h
      subst h
      exact gret e9 es
    · rw [if_neg c3] at h
      refine gb_f (fun q => c3 ((gc_lt e6 e10 z2 z1).mp q)) ?_
      exact gf_99_124 ih 100000 _ _ _ e6 _ _ e7 _ _ e8 _ _ e9 _ _ e10 _ _ e7 _ _ es _ g4 h
def gm_99_104 (x4 : Nat) (x5 : Int) (x6 : Int) (x7 : Int) (s0 : Int) (s : gx_S) : Option (Int × gx_S) :=
  gm_99_113 100000 x4 x6 x7 s0 0 x5 s
theorem gf_99_104 (x4 : Nat) (x5 : Int) (yx5 : Int32) (e5 : yx5 = Int32.ofInt x5) (x6 : Int) (yx6 : Int32) (e6 : yx6 = Int32.ofInt x6) (x7 : Int) (yx7 : Int32) (e7 : yx7 = Int32.ofInt x7) (s0 : Int) (ys0 : Int32) (es0 : ys0 = Int32.ofInt s0) (s : gx_S) (σ : fx_S) (es : σ = gx s) (q : Int × gx_S) (g4 : fx_oc x4 2 = true) (h : gm_99_104 x4 x5 x6 x7 s0 s = some q) : fm_99_104 x4 yx5 yx6 yx7 ys0 σ = some (Int32.ofInt q.1, gx q.2) := by
  unfold gm_99_104 at h
  unfold fm_99_104
  exact gf_99_113 100000 _ _ _ e6 _ _ e7 _ _ es0 _ _ kg_0 _ _ e5 _ _ es _ g4 h
def gm_99_91 (x3 : Int) (x4 : Nat) (x5 : Int) (x6 : Int) (s0 : Int) (s : gx_S) : Option (Int × gx_S) :=
  if (-2147483648 ≤ x3 ∧ x3 ≤ 2147483647) then (
  if ¬ x3 = (-1) then (
    gm_99_104 x4 x5 x6 s0 x3 s) else (
    gm_99_104 x4 x5 x6 s0 8 s)) else none
theorem gf_99_91 (x3 : Int) (yx3 : Int32) (e3 : yx3 = Int32.ofInt x3) (x4 : Nat) (x5 : Int) (yx5 : Int32) (e5 : yx5 = Int32.ofInt x5) (x6 : Int) (yx6 : Int32) (e6 : yx6 = Int32.ofInt x6) (s0 : Int) (ys0 : Int32) (es0 : ys0 = Int32.ofInt s0) (s : gx_S) (σ : fx_S) (es : σ = gx s) (q : Int × gx_S) (g4 : fx_oc x4 2 = true) (h : gm_99_91 x3 x4 x5 x6 s0 s = some q) : fm_99_91 yx3 x4 yx5 yx6 ys0 σ = some (Int32.ofInt q.1, gx q.2) := by
  unfold gm_99_91 at h
  unfold fm_99_91
  obtain ⟨z1, h⟩ := fx_gd h
  by_cases c2 : ¬ x3 = (-1)
  · rw [if_pos c2] at h
    refine gb_t ((gc_ne e3 kg_m1 z1 (by decide)).mpr c2) ?_
    exact gf_99_104 _ _ _ e5 _ _ e6 _ _ es0 _ _ e3 _ _ es _ g4 h
  · rw [if_neg c2] at h
    refine gb_f (fun q => c2 ((gc_ne e3 kg_m1 z1 (by decide)).mp q)) ?_
    exact gf_99_104 _ _ _ e5 _ _ e6 _ _ es0 _ _ kg_8 _ _ es _ g4 h
def gm_99_79 (x3 : Int) (x4 : Nat) (x5 : Int) (s0 : Int) (s : gx_S) : Option (Int × gx_S) :=
  if (-2147483648 ≤ x3 ∧ x3 ≤ 2147483647) then (
  if ¬ x3 = (-1) then (
    gm_99_91 x3 x4 x5 s0 x3 s) else (
    gm_99_91 x3 x4 x5 s0 0 s)) else none
theorem gf_99_79 (x3 : Int) (yx3 : Int32) (e3 : yx3 = Int32.ofInt x3) (x4 : Nat) (x5 : Int) (yx5 : Int32) (e5 : yx5 = Int32.ofInt x5) (s0 : Int) (ys0 : Int32) (es0 : ys0 = Int32.ofInt s0) (s : gx_S) (σ : fx_S) (es : σ = gx s) (q : Int × gx_S) (g4 : fx_oc x4 2 = true) (h : gm_99_79 x3 x4 x5 s0 s = some q) : fm_99_79 yx3 x4 yx5 ys0 σ = some (Int32.ofInt q.1, gx q.2) := by
  unfold gm_99_79 at h
  unfold fm_99_79
  obtain ⟨z1, h⟩ := fx_gd h
  by_cases c2 : ¬ x3 = (-1)
  · rw [if_pos c2] at h
    refine gb_t ((gc_ne e3 kg_m1 z1 (by decide)).mpr c2) ?_
    exact gf_99_91 _ _ e3 _ _ _ e5 _ _ es0 _ _ e3 _ _ es _ g4 h
  · rw [if_neg c2] at h
    refine gb_f (fun q => c2 ((gc_ne e3 kg_m1 z1 (by decide)).mp q)) ?_
    exact gf_99_91 _ _ e3 _ _ _ e5 _ _ es0 _ _ kg_0 _ _ es _ g4 h
def gm_99_66 (x2 : Int) (x3 : Int) (x4 : Nat) (s0 : Int) (s : gx_S) : Option (Int × gx_S) :=
  if (-2147483648 ≤ x2 ∧ x2 ≤ 2147483647) then (
  if ¬ x2 = (-1) then (
    gm_99_79 x3 x4 s0 x2 s) else (
    gm_99_79 x3 x4 s0 7 s)) else none
theorem gf_99_66 (x2 : Int) (yx2 : Int32) (e2 : yx2 = Int32.ofInt x2) (x3 : Int) (yx3 : Int32) (e3 : yx3 = Int32.ofInt x3) (x4 : Nat) (s0 : Int) (ys0 : Int32) (es0 : ys0 = Int32.ofInt s0) (s : gx_S) (σ : fx_S) (es : σ = gx s) (q : Int × gx_S) (g4 : fx_oc x4 2 = true) (h : gm_99_66 x2 x3 x4 s0 s = some q) : fm_99_66 yx2 yx3 x4 ys0 σ = some (Int32.ofInt q.1, gx q.2) := by
  unfold gm_99_66 at h
  unfold fm_99_66
  obtain ⟨z1, h⟩ := fx_gd h
  by_cases c2 : ¬ x2 = (-1)
  · rw [if_pos c2] at h
    refine gb_t ((gc_ne e2 kg_m1 z1 (by decide)).mpr c2) ?_
    exact gf_99_79 _ _ e3 _ _ _ es0 _ _ e2 _ _ es _ g4 h
  · rw [if_neg c2] at h
    refine gb_f (fun q => c2 ((gc_ne e2 kg_m1 z1 (by decide)).mp q)) ?_
    exact gf_99_79 _ _ e3 _ _ _ es0 _ _ kg_7 _ _ es _ g4 h
def gm_99 (x1 : Int) (x2 : Int) (x3 : Int) (s : gx_S) : Option (Int × gx_S) :=
  (gm_114 x1 s).bind fun q39 =>
  if (gb q39.1) = 0 then (
    some ((-1), q39.2)) else (
    (gm_57 1 q39.2).bind fun q42 =>
    if (gb q42.1) = 0 then (
      some ((-1), q42.2)) else (
      if (-2147483648 ≤ x2 ∧ x2 ≤ 2147483647) then (
      if x2 < (-1) then (
        some ((-1), q42.2)) else (
        if 8 ≤ x2 then (
          some ((-1), q42.2)) else (
          if (-2147483648 ≤ x3 ∧ x3 ≤ 2147483647) then (
          if x3 < (-1) then (
            some ((-1), q42.2)) else (
            if x3 ≤ 8 then (
              if 0 ≤ x1 ∧ x1 < 3 then (
              (some (fx_rf 70 (x1).toNat)).bind fun v50 =>
              (gm_19 v50 2 q42.2).bind fun q55 =>
              if ¬ x2 = (-1) then (
                gm_99_66 x2 x3 v50 x2 q55) else (
                gm_99_66 x2 x3 v50 0 q55)) else none) else (
              some ((-1), q42.2)))) else none))) else none))
theorem gf_99 {x1 : Int} {yx1 : Int32} (e1 : yx1 = Int32.ofInt x1) {x2 : Int} {yx2 : Int32} (e2 : yx2 = Int32.ofInt x2) {x3 : Int} {yx3 : Int32} (e3 : yx3 = Int32.ofInt x3) {s : gx_S} {σ : fx_S} (es : σ = gx s) {q : Int × gx_S} (h : gm_99 x1 x2 x3 s = some q) : fm_99 yx1 yx2 yx3 σ = some (Int32.ofInt q.1, gx q.2) := by
  unfold gm_99 at h
  unfold fm_99
  obtain ⟨q39, w38, h⟩ := fx_bd h
  refine gb_bind (gf_114 e1 es w38) ?_
  by_cases c40 : (gb q39.1) = 0
  · rw [if_pos c40] at h
    refine gb_t ((gc_eq (gb_b q39.1) kg_0 (gb_r _) (by decide)).mpr c40) ?_
    have h := Option.some.inj h
    subst h
    exact gret kg_m1 (rfl : _ = gx q39.2)
  · rw [if_neg c40] at h
    refine gb_f (fun q => c40 ((gc_eq (gb_b q39.1) kg_0 (gb_r _) (by decide)).mp q)) ?_
    obtain ⟨q42, w41, h⟩ := fx_bd h
    refine gb_bind (gf_57 (rfl : _ = gx q39.2) w41) ?_
    by_cases c43 : (gb q42.1) = 0
    · rw [if_pos c43] at h
      refine gb_t ((gc_eq (gb_b q42.1) kg_0 (gb_r _) (by decide)).mpr c43) ?_
      have h := Option.some.inj h
      subst h
      exact gret kg_m1 (rfl : _ = gx q42.2)
    · rw [if_neg c43] at h
      refine gb_f (fun q => c43 ((gc_eq (gb_b q42.1) kg_0 (gb_r _) (by decide)).mp q)) ?_
      obtain ⟨z44, h⟩ := fx_gd h
      by_cases c45 : x2 < (-1)
      · rw [if_pos c45] at h
        refine gb_t ((gc_lt e2 kg_m1 z44 (by decide)).mpr c45) ?_
        have h := Option.some.inj h
        subst h
        exact gret kg_m1 (rfl : _ = gx q42.2)
      · rw [if_neg c45] at h
        refine gb_f (fun q => c45 ((gc_lt e2 kg_m1 z44 (by decide)).mp q)) ?_
        by_cases c46 : 8 ≤ x2
        · rw [if_pos c46] at h
          refine gb_t ((gc_le kg_8 e2 (by decide) z44).mpr c46) ?_
          have h := Option.some.inj h
          subst h
          exact gret kg_m1 (rfl : _ = gx q42.2)
        · rw [if_neg c46] at h
          refine gb_f (fun q => c46 ((gc_le kg_8 e2 (by decide) z44).mp q)) ?_
          obtain ⟨z47, h⟩ := fx_gd h
          by_cases c48 : x3 < (-1)
          · rw [if_pos c48] at h
            refine gb_t ((gc_lt e3 kg_m1 z47 (by decide)).mpr c48) ?_
            have h := Option.some.inj h
            subst h
            exact gret kg_m1 (rfl : _ = gx q42.2)
          · rw [if_neg c48] at h
            refine gb_f (fun q => c48 ((gc_lt e3 kg_m1 z47 (by decide)).mp q)) ?_
            by_cases c49 : x3 ≤ 8
            · rw [if_pos c49] at h
              refine gb_t ((gc_le e3 kg_8 z47 (by decide)).mpr c49) ?_
              obtain ⟨z53, h⟩ := fx_gd h
              obtain ⟨v50, w51, h⟩ := fx_bd h
              have g52 := fa_70 ((gl_ldr (t := 4) e1 ga_70 z53).trans w51)
              refine gb_bind ((gl_ldr e1 ga_70 z53).trans w51) ?_
              obtain ⟨q55, w54, h⟩ := fx_bd h
              refine gb_bind (gf_19 kg_2 (rfl : _ = gx q42.2) w54) ?_
              by_cases c56 : ¬ x2 = (-1)
              · rw [if_pos c56] at h
                refine gb_t ((gc_ne e2 kg_m1 z44 (by decide)).mpr c56) ?_
                exact gf_99_66 _ _ e2 _ _ e3 _ _ _ e2 _ _ (rfl : _ = gx q55) _ g52 h
              · rw [if_neg c56] at h
                refine gb_f (fun q => c56 ((gc_ne e2 kg_m1 z44 (by decide)).mp q)) ?_
                exact gf_99_66 _ _ e2 _ _ e3 _ _ _ kg_0 _ _ (rfl : _ = gx q55) _ g52 h
            · rw [if_neg c49] at h
              refine gb_f (fun q => c49 ((gc_le e3 kg_8 z47 (by decide)).mp q)) ?_
              have h := Option.some.inj h
              subst h
              exact gret kg_m1 (rfl : _ = gx q42.2)

/-! ZoneShares.exact(III)J -/
def gm_100_18 (s : gx_S) : Option (Int × gx_S) :=
  some ((-1), s)
theorem gf_100_18 (s : gx_S) (σ : fx_S) (es : σ = gx s) (q : Int × gx_S) (h : gm_100_18 s = some q) : fm_100_18 σ = some (Int64.ofInt q.1, gx q.2) := by
  unfold gm_100_18 at h
  unfold fm_100_18
  have h := Option.some.inj h
  subst h
  exact gretl kgl_m1 es
def gm_100 (x1 : Int) (x2 : Int) (x3 : Int) (s : gx_S) : Option (Int × gx_S) :=
  (gm_118 x1 x2 s).bind fun q30 =>
  if (gb q30.1) = 0 then (
    gm_100_18 q30.2) else (
    if (-2147483648 ≤ x3 ∧ x3 ≤ 2147483647) then (
    if x3 < 0 then (
      gm_100_18 q30.2) else (
      if x3 ≤ 2 then (
        if 0 ≤ x1 ∧ x1 < 3 then (
        (some (fx_rf 70 (x1).toNat)).bind fun v35 =>
        (gm_19 v35 2 q30.2).bind fun q40 =>
        (gm_78 (v35 + 3) q40).bind fun q42 =>
        if (-9223372036854775808 ≤ q42.1 ∧ q42.1 ≤ 9223372036854775807) then (
        if 0 < q42.1 then (
          (gm_79 (v35 + 3) x2 q42.1 q42.2).bind fun q46 =>
          if ¬ x3 = 0 then (
            if 0 ≤ q46.1 ∧ q46.1 ≤ 9223372036854775807 ∧ 0 < q42.1 ∧ q42.1 ≤ 9223372036854775807 then (
            (gm_127 (q46.1 % q42.1) q42.1 (x3 - 1) q46.2).bind fun q51 =>
            some (q51.1, q51.2)) else none) else (
            (gm_77 (v35 + 3) x2 q46.2).bind fun q53 =>
            if (-2147483648 ≤ q53.1 ∧ q53.1 ≤ 2147483647) then (
            if 0 ≤ q46.1 ∧ q46.1 ≤ 9223372036854775807 ∧ 0 < q42.1 ∧ q42.1 ≤ 9223372036854775807 then (
            some ((q53.1 + (q46.1 / q42.1)), q53.2)) else none) else none)) else (
          some ((-1), q42.2))) else none) else none) else (
        gm_100_18 q30.2))) else none)
theorem gf_100 {x1 : Int} {yx1 : Int32} (e1 : yx1 = Int32.ofInt x1) {x2 : Int} {yx2 : Int32} (e2 : yx2 = Int32.ofInt x2) {x3 : Int} {yx3 : Int32} (e3 : yx3 = Int32.ofInt x3) {s : gx_S} {σ : fx_S} (es : σ = gx s) {q : Int × gx_S} (h : gm_100 x1 x2 x3 s = some q) : fm_100 yx1 yx2 yx3 σ = some (Int64.ofInt q.1, gx q.2) := by
  unfold gm_100 at h
  unfold fm_100
  obtain ⟨q30, w29, h⟩ := fx_bd h
  refine gb_bind (gf_118 e1 e2 es w29) ?_
  by_cases c31 : (gb q30.1) = 0
  · rw [if_pos c31] at h
    refine gb_t ((gc_eq (gb_b q30.1) kg_0 (gb_r _) (by decide)).mpr c31) ?_
    exact gf_100_18 _ _ (rfl : _ = gx q30.2) _ h
  · rw [if_neg c31] at h
    refine gb_f (fun q => c31 ((gc_eq (gb_b q30.1) kg_0 (gb_r _) (by decide)).mp q)) ?_
    obtain ⟨z32, h⟩ := fx_gd h
    by_cases c33 : x3 < 0
    · rw [if_pos c33] at h
      refine gb_t ((gc_lt e3 kg_0 z32 (by decide)).mpr c33) ?_
      exact gf_100_18 _ _ (rfl : _ = gx q30.2) _ h
    · rw [if_neg c33] at h
      refine gb_f (fun q => c33 ((gc_lt e3 kg_0 z32 (by decide)).mp q)) ?_
      by_cases c34 : x3 ≤ 2
      · rw [if_pos c34] at h
        refine gb_t ((gc_le e3 kg_2 z32 (by decide)).mpr c34) ?_
        obtain ⟨z38, h⟩ := fx_gd h
        obtain ⟨v35, w36, h⟩ := fx_bd h
        have g37 := fa_70 ((gl_ldr (t := 4) e1 ga_70 z38).trans w36)
        refine gb_bind ((gl_ldr e1 ga_70 z38).trans w36) ?_
        obtain ⟨q40, w39, h⟩ := fx_bd h
        refine gb_bind (gf_19 kg_2 (rfl : _ = gx q30.2) w39) ?_
        obtain ⟨q42, w41, h⟩ := fx_bd h
        refine gb_bind (gf_78 (rfl : _ = gx q40) w41) ?_
        obtain ⟨z43, h⟩ := fx_gd h
        by_cases c44 : 0 < q42.1
        · rw [if_pos c44] at h
          refine gb_t ((gcl_lt kgl_0 (gr2 q42.1) (by decide) z43).mpr c44) ?_
          obtain ⟨q46, w45, h⟩ := fx_bd h
          refine gb_bind (gf_79 e2 (gr2 q42.1) (rfl : _ = gx q42.2) w45) ?_
          by_cases c47 : ¬ x3 = 0
          · rw [if_pos c47] at h
            refine gb_t ((gc_ne e3 kg_0 z32 (by decide)).mpr c47) ?_
            obtain ⟨z48, h⟩ := fx_gd h
            refine gb_t (gcl_nz (gr2 q42.1) z48) ?_
            obtain ⟨q51, w50, h⟩ := fx_bd h
            refine gb_bind (gf_127 (gal_rem (gr2 q46.1) (gr2 q42.1) z48) (gr2 q42.1) (ga_sub e3 kg_1) (rfl : _ = gx q46.2) w50) ?_
            have h := Option.some.inj h
            subst h
            exact gretl (gr2 q51.1) (rfl : _ = gx q51.2)
          · rw [if_neg c47] at h
            refine gb_f (fun q => c47 ((gc_ne e3 kg_0 z32 (by decide)).mp q)) ?_
            obtain ⟨q53, w52, h⟩ := fx_bd h
            refine gb_bind (gf_77 e2 (rfl : _ = gx q46.2) w52) ?_
            obtain ⟨z54, h⟩ := fx_gd h
            obtain ⟨z55, h⟩ := fx_gd h
            refine gb_t (gcl_nz (gr2 q42.1) z55) ?_
            have h := Option.some.inj h
            subst h
            exact gretl (gal_add (ga_i2l (gr q53.1) z54) (gal_div (gr2 q46.1) (gr2 q42.1) z55)) (rfl : _ = gx q53.2)
        · rw [if_neg c44] at h
          refine gb_f (fun q => c44 ((gcl_lt kgl_0 (gr2 q42.1) (by decide) z43).mp q)) ?_
          have h := Option.some.inj h
          subst h
          exact gretl kgl_m1 (rfl : _ = gx q42.2)
      · rw [if_neg c34] at h
        refine gb_f (fun q => c34 ((gc_le e3 kg_2 z32 (by decide)).mp q)) ?_
        exact gf_100_18 _ _ (rfl : _ = gx q30.2) _ h

/-! ZoneShares.coarse(III)I -/
def gm_101_115 (k_79 : Int → Nat → Int → Int → gx_S → Option (Int × gx_S)) (x2 : Int) (x4 : Nat) (x5 : Int) (x6 : Int) (s : gx_S) : Option (Int × gx_S) :=
  k_79 x2 x4 x5 (x6 + 1) s
theorem gf_101_115 {kf_79 : Int32 → Nat → Int32 → Int32 → fx_S → Option (Int32 × fx_S)} {kg_79 : Int → Nat → Int → Int → gx_S → Option (Int × gx_S)} (hk_79 : ∀ (x2 : Int) (yx2 : Int32) (e2 : yx2 = Int32.ofInt x2) (x4 : Nat) (x5 : Int) (yx5 : Int32) (e5 : yx5 = Int32.ofInt x5) (x6 : Int) (yx6 : Int32) (e6 : yx6 = Int32.ofInt x6) (s : gx_S) (σ : fx_S) (es : σ = gx s) (q : Int × gx_S) (g4 : fx_oc x4 2 = true), kg_79 x2 x4 x5 x6 s = some q → kf_79 yx2 x4 yx5 yx6 σ = some (Int32.ofInt q.1, gx q.2)) (x2 : Int) (yx2 : Int32) (e2 : yx2 = Int32.ofInt x2) (x4 : Nat) (x5 : Int) (yx5 : Int32) (e5 : yx5 = Int32.ofInt x5) (x6 : Int) (yx6 : Int32) (e6 : yx6 = Int32.ofInt x6) (s : gx_S) (σ : fx_S) (es : σ = gx s) (q : Int × gx_S) (g4 : fx_oc x4 2 = true) (h : gm_101_115 kg_79 x2 x4 x5 x6 s = some q) : fm_101_115 kf_79 yx2 x4 yx5 yx6 σ = some (Int32.ofInt q.1, gx q.2) := by
  unfold gm_101_115 at h
  unfold fm_101_115
  exact hk_79 _ _ e2 _ _ _ e5 _ _ (ga_add e6 kg_1) _ _ es _ g4 h
def gm_101_79 : Nat → Int → Nat → Int → Int → gx_S → Option (Int × gx_S)
  | 0, _, _, _, _, _ => none
  | n + 1, x2, x4, x5, x6, s =>
    if (-2147483648 ≤ x6 ∧ x6 ≤ 2147483647) then (
    if 8 ≤ x6 then (
      some (x5, s)) else (
      if 0 ≤ x6 ∧ x6 < 8 then (
      if (-2147483648 ≤ (s.1 5 (x6).toNat) ∧ (s.1 5 (x6).toNat) ≤ 2147483647) then (
      if (-2147483648 ≤ x2 ∧ x2 ≤ 2147483647) then (
      if ¬ (s.1 5 (x6).toNat) = x2 then (
        gm_101_115 (gm_101_79 n) x2 x4 x5 x6 s) else (
        (gm_76 (x4 + 3) x6 s).bind fun q10 =>
        gm_101_115 (gm_101_79 n) x2 x4 (x5 + q10.1) x6 q10.2)) else none) else none) else none)) else none
theorem gf_101_79 : ∀ (n : Nat) (x2 : Int) (yx2 : Int32) (e2 : yx2 = Int32.ofInt x2) (x4 : Nat) (x5 : Int) (yx5 : Int32) (e5 : yx5 = Int32.ofInt x5) (x6 : Int) (yx6 : Int32) (e6 : yx6 = Int32.ofInt x6) (s : gx_S) (σ : fx_S) (es : σ = gx s) (q : Int × gx_S) (g4 : fx_oc x4 2 = true), gm_101_79 n x2 x4 x5 x6 s = some q → fm_101_79 n yx2 x4 yx5 yx6 σ = some (Int32.ofInt q.1, gx q.2) := by
  intro n
  induction n with
  | zero =>
    intro x2 yx2 e2 x4 x5 yx5 e5 x6 yx6 e6 s σ es q g4 h
    rw [gm_101_79] at h
    exact fx_no h
  | succ n ih =>
    intro x2 yx2 e2 x4 x5 yx5 e5 x6 yx6 e6 s σ es q g4 h
    rw [gm_101_79] at h
    rw [fm_101_79]
    obtain ⟨z1, h⟩ := fx_gd h
    by_cases c2 : 8 ≤ x6
    · rw [if_pos c2] at h
      refine gb_t ((gc_le kg_8 e6 (by decide) z1).mpr c2) ?_
      have h := Option.some.inj h
      subst h
      exact gret e5 es
    · rw [if_neg c2] at h
      refine gb_f (fun q => c2 ((gc_le kg_8 e6 (by decide) z1).mp q)) ?_
      obtain ⟨z5, h⟩ := fx_gd h
      refine gb_bind (gl_ld es e6 ga_5 z5) ?_
      obtain ⟨z6, h⟩ := fx_gd h
      obtain ⟨z7, h⟩ := fx_gd h
      by_cases c8 : ¬ (s.1 5 (x6).toNat) = x2
      · rw [if_pos c8] at h
        refine gb_t ((gc_ne (gr (s.1 5 (x6).toNat)) e2 z6 z7).mpr c8) ?_
        exact gf_101_115 ih _ _ e2 _ _ _ e5 _ _ e6 _ _ es _ g4 h
      · rw [if_neg c8] at h
        refine gb_f (fun q => c8 ((gc_ne (gr (s.1 5 (x6).toNat)) e2 z6 z7).mp q)) ?_
        obtain ⟨q10, w9, h⟩ := fx_bd h
        refine gb_bind (gf_76 e6 es w9) ?_
        exact gf_101_115 ih _ _ e2 _ _ _ (ga_add e5 (gr q10.1)) _ _ e6 _ _ (rfl : _ = gx q10.2) _ g4 h
def gm_101 (x1 : Int) (x2 : Int) (x3 : Int) (s : gx_S) : Option (Int × gx_S) :=
  (gm_114 x1 s).bind fun q35 =>
  if (gb q35.1) = 0 then (
    some ((-1), q35.2)) else (
    (gm_57 1 q35.2).bind fun q38 =>
    if (gb q38.1) = 0 then (
      some ((-1), q38.2)) else (
      (gm_117 x2 q38.2).bind fun q41 =>
      if (gb q41.1) = 0 then (
        some ((-1), q41.2)) else (
        if (-2147483648 ≤ x3 ∧ x3 ≤ 2147483647) then (
        if x3 < 0 then (
          some ((-1), q41.2)) else (
          if x3 ≤ 1 then (
            if 0 ≤ x1 ∧ x1 < 3 then (
            (some (fx_rf 70 (x1).toNat)).bind fun v46 =>
            if ¬ x3 = 1 then (
              (gm_19 v46 2 q41.2).bind fun q52 =>
              gm_101_79 100000 x2 v46 0 0 q52) else (
              (gm_19 v46 8 q41.2).bind fun q54 =>
              (gm_76 (v46 + 21) x2 q54).bind fun q56 =>
              some (q56.1, q56.2))) else none) else (
            some ((-1), q41.2)))) else none)))
theorem gf_101 {x1 : Int} {yx1 : Int32} (e1 : yx1 = Int32.ofInt x1) {x2 : Int} {yx2 : Int32} (e2 : yx2 = Int32.ofInt x2) {x3 : Int} {yx3 : Int32} (e3 : yx3 = Int32.ofInt x3) {s : gx_S} {σ : fx_S} (es : σ = gx s) {q : Int × gx_S} (h : gm_101 x1 x2 x3 s = some q) : fm_101 yx1 yx2 yx3 σ = some (Int32.ofInt q.1, gx q.2) := by
  unfold gm_101 at h
  unfold fm_101
  obtain ⟨q35, w34, h⟩ := fx_bd h
  refine gb_bind (gf_114 e1 es w34) ?_
  by_cases c36 : (gb q35.1) = 0
  · rw [if_pos c36] at h
    refine gb_t ((gc_eq (gb_b q35.1) kg_0 (gb_r _) (by decide)).mpr c36) ?_
    have h := Option.some.inj h
    subst h
    exact gret kg_m1 (rfl : _ = gx q35.2)
  · rw [if_neg c36] at h
    refine gb_f (fun q => c36 ((gc_eq (gb_b q35.1) kg_0 (gb_r _) (by decide)).mp q)) ?_
    obtain ⟨q38, w37, h⟩ := fx_bd h
    refine gb_bind (gf_57 (rfl : _ = gx q35.2) w37) ?_
    by_cases c39 : (gb q38.1) = 0
    · rw [if_pos c39] at h
      refine gb_t ((gc_eq (gb_b q38.1) kg_0 (gb_r _) (by decide)).mpr c39) ?_
      have h := Option.some.inj h
      subst h
      exact gret kg_m1 (rfl : _ = gx q38.2)
    · rw [if_neg c39] at h
      refine gb_f (fun q => c39 ((gc_eq (gb_b q38.1) kg_0 (gb_r _) (by decide)).mp q)) ?_
      obtain ⟨q41, w40, h⟩ := fx_bd h
      refine gb_bind (gf_117 e2 (rfl : _ = gx q38.2) w40) ?_
      by_cases c42 : (gb q41.1) = 0
      · rw [if_pos c42] at h
        refine gb_t ((gc_eq (gb_b q41.1) kg_0 (gb_r _) (by decide)).mpr c42) ?_
        have h := Option.some.inj h
        subst h
        exact gret kg_m1 (rfl : _ = gx q41.2)
      · rw [if_neg c42] at h
        refine gb_f (fun q => c42 ((gc_eq (gb_b q41.1) kg_0 (gb_r _) (by decide)).mp q)) ?_
        obtain ⟨z43, h⟩ := fx_gd h
        by_cases c44 : x3 < 0
        · rw [if_pos c44] at h
          refine gb_t ((gc_lt e3 kg_0 z43 (by decide)).mpr c44) ?_
          have h := Option.some.inj h
          subst h
          exact gret kg_m1 (rfl : _ = gx q41.2)
        · rw [if_neg c44] at h
          refine gb_f (fun q => c44 ((gc_lt e3 kg_0 z43 (by decide)).mp q)) ?_
          by_cases c45 : x3 ≤ 1
          · rw [if_pos c45] at h
            refine gb_t ((gc_le e3 kg_1 z43 (by decide)).mpr c45) ?_
            obtain ⟨z49, h⟩ := fx_gd h
            obtain ⟨v46, w47, h⟩ := fx_bd h
            have g48 := fa_70 ((gl_ldr (t := 4) e1 ga_70 z49).trans w47)
            refine gb_bind ((gl_ldr e1 ga_70 z49).trans w47) ?_
            by_cases c50 : ¬ x3 = 1
            · rw [if_pos c50] at h
              refine gb_t ((gc_ne e3 kg_1 z43 (by decide)).mpr c50) ?_
              obtain ⟨q52, w51, h⟩ := fx_bd h
              refine gb_bind (gf_19 kg_2 (rfl : _ = gx q41.2) w51) ?_
              exact gf_101_79 100000 _ _ e2 _ _ _ kg_0 _ _ kg_0 _ _ (rfl : _ = gx q52) _ g48 h
            · rw [if_neg c50] at h
              refine gb_f (fun q => c50 ((gc_ne e3 kg_1 z43 (by decide)).mp q)) ?_
              obtain ⟨q54, w53, h⟩ := fx_bd h
              refine gb_bind (gf_19 kg_8 (rfl : _ = gx q41.2) w53) ?_
              obtain ⟨q56, w55, h⟩ := fx_bd h
              refine gb_bind (gf_76 e2 (rfl : _ = gx q54) w55) ?_
              have h := Option.some.inj h
              subst h
              exact gret (gr q56.1) (rfl : _ = gx q56.2)
          · rw [if_neg c45] at h
            refine gb_f (fun q => c45 ((gc_le e3 kg_1 z43 (by decide)).mp q)) ?_
            have h := Option.some.inj h
            subst h
            exact gret kg_m1 (rfl : _ = gx q41.2)
