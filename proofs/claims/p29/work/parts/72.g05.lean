/-! ZoneShares.byWay(II)I -/
def gm_103 (x1 : Int) (x2 : Int) (s : gx_S) : Option (Int × gx_S) :=
  (gm_114 x1 s).bind fun q19 =>
  if (gb q19.1) = 0 then (
    some ((-1), q19.2)) else (
    (gm_115 x2 q19.2).bind fun q22 =>
    if (gb q22.1) = 0 then (
      some ((-1), q22.2)) else (
      (gm_57 1 q22.2).bind fun q25 =>
      if ¬ (gb q25.1) = 0 then (
        if 0 ≤ x1 ∧ x1 < 3 then (
        (some (fx_rf 70 (x1).toNat)).bind fun v27 =>
        (gm_19 v27 16 q25.2).bind fun q32 =>
        (gm_76 (v27 + 30) x2 q32).bind fun q34 =>
        some (q34.1, q34.2)) else none) else (
        some ((-1), q25.2))))
theorem gf_103 {x1 : Int} {yx1 : Int32} (e1 : yx1 = Int32.ofInt x1) {x2 : Int} {yx2 : Int32} (e2 : yx2 = Int32.ofInt x2) {s : gx_S} {σ : fx_S} (es : σ = gx s) {q : Int × gx_S} (h : gm_103 x1 x2 s = some q) : fm_103 yx1 yx2 σ = some (Int32.ofInt q.1, gx q.2) := by
  unfold gm_103 at h
  unfold fm_103
  obtain ⟨q19, w18, h⟩ := fx_bd h
  refine gb_bind (gf_114 e1 es w18) ?_
  by_cases c20 : (gb q19.1) = 0
  · rw [if_pos c20] at h
    refine gb_t ((gc_eq (gb_b q19.1) kg_0 (gb_r _) (by decide)).mpr c20) ?_
    have h := Option.some.inj h
    subst h
    exact gret kg_m1 (rfl : _ = gx q19.2)
  · rw [if_neg c20] at h
    refine gb_f (fun q => c20 ((gc_eq (gb_b q19.1) kg_0 (gb_r _) (by decide)).mp q)) ?_
    obtain ⟨q22, w21, h⟩ := fx_bd h
    refine gb_bind (gf_115 e2 (rfl : _ = gx q19.2) w21) ?_
    by_cases c23 : (gb q22.1) = 0
    · rw [if_pos c23] at h
      refine gb_t ((gc_eq (gb_b q22.1) kg_0 (gb_r _) (by decide)).mpr c23) ?_
      have h := Option.some.inj h
      subst h
      exact gret kg_m1 (rfl : _ = gx q22.2)
    · rw [if_neg c23] at h
      refine gb_f (fun q => c23 ((gc_eq (gb_b q22.1) kg_0 (gb_r _) (by decide)).mp q)) ?_
      obtain ⟨q25, w24, h⟩ := fx_bd h
      refine gb_bind (gf_57 (rfl : _ = gx q22.2) w24) ?_
      by_cases c26 : ¬ (gb q25.1) = 0
      · rw [if_pos c26] at h
        refine gb_t ((gc_ne (gb_b q25.1) kg_0 (gb_r _) (by decide)).mpr c26) ?_
        obtain ⟨z30, h⟩ := fx_gd h
        obtain ⟨v27, w28, h⟩ := fx_bd h
        have g29 := fa_70 ((gl_ldr (t := 4) e1 ga_70 z30).trans w28)
        refine gb_bind ((gl_ldr e1 ga_70 z30).trans w28) ?_
        obtain ⟨q32, w31, h⟩ := fx_bd h
        refine gb_bind (gf_19 kg_16 (rfl : _ = gx q25.2) w31) ?_
        obtain ⟨q34, w33, h⟩ := fx_bd h
        refine gb_bind (gf_76 e2 (rfl : _ = gx q32) w33) ?_
        have h := Option.some.inj h
        subst h
        exact gret (gr q34.1) (rfl : _ = gx q34.2)
      · rw [if_neg c26] at h
        refine gb_f (fun q => c26 ((gc_ne (gb_b q25.1) kg_0 (gb_r _) (by decide)).mp q)) ?_
        have h := Option.some.inj h
        subst h
        exact gret kg_m1 (rfl : _ = gx q25.2)

/-! ZoneShares.returned(II)I -/
def gm_104 (x1 : Int) (x2 : Int) (s : gx_S) : Option (Int × gx_S) :=
  (gm_118 x1 x2 s).bind fun q13 =>
  if ¬ (gb q13.1) = 0 then (
    if 0 ≤ x1 ∧ x1 < 3 then (
    (some (fx_rf 70 (x1).toNat)).bind fun v15 =>
    (gm_19 v15 4 q13.2).bind fun q20 =>
    (gm_76 (v15 + 12) x2 q20).bind fun q22 =>
    some (q22.1, q22.2)) else none) else (
    some ((-1), q13.2))
theorem gf_104 {x1 : Int} {yx1 : Int32} (e1 : yx1 = Int32.ofInt x1) {x2 : Int} {yx2 : Int32} (e2 : yx2 = Int32.ofInt x2) {s : gx_S} {σ : fx_S} (es : σ = gx s) {q : Int × gx_S} (h : gm_104 x1 x2 s = some q) : fm_104 yx1 yx2 σ = some (Int32.ofInt q.1, gx q.2) := by
  unfold gm_104 at h
  unfold fm_104
  obtain ⟨q13, w12, h⟩ := fx_bd h
  refine gb_bind (gf_118 e1 e2 es w12) ?_
  by_cases c14 : ¬ (gb q13.1) = 0
  · rw [if_pos c14] at h
    refine gb_t ((gc_ne (gb_b q13.1) kg_0 (gb_r _) (by decide)).mpr c14) ?_
    obtain ⟨z18, h⟩ := fx_gd h
    obtain ⟨v15, w16, h⟩ := fx_bd h
    have g17 := fa_70 ((gl_ldr (t := 4) e1 ga_70 z18).trans w16)
    refine gb_bind ((gl_ldr e1 ga_70 z18).trans w16) ?_
    obtain ⟨q20, w19, h⟩ := fx_bd h
    refine gb_bind (gf_19 kg_4 (rfl : _ = gx q13.2) w19) ?_
    obtain ⟨q22, w21, h⟩ := fx_bd h
    refine gb_bind (gf_76 e2 (rfl : _ = gx q20) w21) ?_
    have h := Option.some.inj h
    subst h
    exact gret (gr q22.1) (rfl : _ = gx q22.2)
  · rw [if_neg c14] at h
    refine gb_f (fun q => c14 ((gc_ne (gb_b q13.1) kg_0 (gb_r _) (by decide)).mp q)) ?_
    have h := Option.some.inj h
    subst h
    exact gret kg_m1 (rfl : _ = gx q13.2)

/-! ZoneShares.astray(I)I -/
def gm_105_37 : Nat → Nat → Int → Int → gx_S → Option (Int × gx_S)
  | 0, _, _, _, _ => none
  | n + 1, x2, x3, x4, s =>
    if (-2147483648 ≤ x4 ∧ x4 ≤ 2147483647) then (
    if 8 ≤ x4 then (
      some (x3, s)) else (
      if 0 ≤ x4 ∧ x4 < 8 then (
      (gm_76 (x2 + 12) x4 s).bind fun q7 =>
      if (-2147483648 ≤ ((s.1 (x2 + 1) (x4).toNat) - q7.1) ∧ ((s.1 (x2 + 1) (x4).toNat) - q7.1) ≤ 2147483647) then (
      gm_105_37 n x2 (x3 + (if 0 ≤ ((s.1 (x2 + 1) (x4).toNat) - q7.1) then ((s.1 (x2 + 1) (x4).toNat) - q7.1) else 0 - ((s.1 (x2 + 1) (x4).toNat) - q7.1))) (x4 + 1) q7.2) else none) else none)) else none
theorem gf_105_37 : ∀ (n : Nat) (x2 : Nat) (x3 : Int) (yx3 : Int32) (e3 : yx3 = Int32.ofInt x3) (x4 : Int) (yx4 : Int32) (e4 : yx4 = Int32.ofInt x4) (s : gx_S) (σ : fx_S) (es : σ = gx s) (q : Int × gx_S) (g2 : fx_oc x2 2 = true), gm_105_37 n x2 x3 x4 s = some q → fm_105_37 n x2 yx3 yx4 σ = some (Int32.ofInt q.1, gx q.2) := by
  intro n
  induction n with
  | zero =>
    intro x2 x3 yx3 e3 x4 yx4 e4 s σ es q g2 h
    rw [gm_105_37] at h
    exact fx_no h
  | succ n ih =>
    intro x2 x3 yx3 e3 x4 yx4 e4 s σ es q g2 h
    rw [gm_105_37] at h
    rw [fm_105_37]
    obtain ⟨z1, h⟩ := fx_gd h
    by_cases c2 : 8 ≤ x4
    · rw [if_pos c2] at h
      refine gb_t ((gc_le kg_8 e4 (by decide) z1).mpr c2) ?_
      have h := Option.some.inj h
      subst h
      exact gret e3 es
    · rw [if_neg c2] at h
      refine gb_f (fun q => c2 ((gc_le kg_8 e4 (by decide) z1).mp q)) ?_
      obtain ⟨z5, h⟩ := fx_gd h
      refine gb_bind (gl_ld es e4 (ga_2_0 g2) z5) ?_
      obtain ⟨q7, w6, h⟩ := fx_bd h
      refine gb_bind (gf_76 e4 es w6) ?_
      obtain ⟨z8, h⟩ := fx_gd h
      exact ih _ _ _ (ga_add e3 (ga_ite (gc_le kg_0 (ga_sub (gr (s.1 (x2 + 1) (x4).toNat)) (gr q7.1)) (by decide) z8) (ga_sub (gr (s.1 (x2 + 1) (x4).toNat)) (gr q7.1)) (ga_sub kg_0 (ga_sub (gr (s.1 (x2 + 1) (x4).toNat)) (gr q7.1))))) _ _ (ga_add e4 kg_1) _ _ (rfl : _ = gx q7.2) _ g2 h
def gm_105 (x1 : Int) (s : gx_S) : Option (Int × gx_S) :=
  (gm_114 x1 s).bind fun q22 =>
  if (gb q22.1) = 0 then (
    some ((-1), q22.2)) else (
    (gm_57 1 q22.2).bind fun q25 =>
    if ¬ (gb q25.1) = 0 then (
      if 0 ≤ x1 ∧ x1 < 3 then (
      (some (fx_rf 70 (x1).toNat)).bind fun v27 =>
      (gm_19 v27 4 q25.2).bind fun q32 =>
      gm_105_37 100000 v27 0 0 q32) else none) else (
      some ((-1), q25.2)))
theorem gf_105 {x1 : Int} {yx1 : Int32} (e1 : yx1 = Int32.ofInt x1) {s : gx_S} {σ : fx_S} (es : σ = gx s) {q : Int × gx_S} (h : gm_105 x1 s = some q) : fm_105 yx1 σ = some (Int32.ofInt q.1, gx q.2) := by
  unfold gm_105 at h
  unfold fm_105
  obtain ⟨q22, w21, h⟩ := fx_bd h
  refine gb_bind (gf_114 e1 es w21) ?_
  by_cases c23 : (gb q22.1) = 0
  · rw [if_pos c23] at h
    refine gb_t ((gc_eq (gb_b q22.1) kg_0 (gb_r _) (by decide)).mpr c23) ?_
    have h := Option.some.inj h
    subst h
    exact gret kg_m1 (rfl : _ = gx q22.2)
  · rw [if_neg c23] at h
    refine gb_f (fun q => c23 ((gc_eq (gb_b q22.1) kg_0 (gb_r _) (by decide)).mp q)) ?_
    obtain ⟨q25, w24, h⟩ := fx_bd h
    refine gb_bind (gf_57 (rfl : _ = gx q22.2) w24) ?_
    by_cases c26 : ¬ (gb q25.1) = 0
    · rw [if_pos c26] at h
      refine gb_t ((gc_ne (gb_b q25.1) kg_0 (gb_r _) (by decide)).mpr c26) ?_
      obtain ⟨z30, h⟩ := fx_gd h
      obtain ⟨v27, w28, h⟩ := fx_bd h
      have g29 := fa_70 ((gl_ldr (t := 4) e1 ga_70 z30).trans w28)
      refine gb_bind ((gl_ldr e1 ga_70 z30).trans w28) ?_
      obtain ⟨q32, w31, h⟩ := fx_bd h
      refine gb_bind (gf_19 kg_4 (rfl : _ = gx q25.2) w31) ?_
      exact gf_105_37 100000 _ _ _ kg_0 _ _ kg_0 _ _ (rfl : _ = gx q32) _ g29 h
    · rw [if_neg c26] at h
      refine gb_f (fun q => c26 ((gc_ne (gb_b q25.1) kg_0 (gb_r _) (by decide)).mp q)) ?_
      have h := Option.some.inj h
      subst h
      exact gret kg_m1 (rfl : _ = gx q25.2)

/-! ZoneShares.surface(IIII)J -/
def gm_106_40 (s : gx_S) : Option (Int × gx_S) :=
  some ((-1), s)
theorem gf_106_40 (s : gx_S) (σ : fx_S) (es : σ = gx s) (q : Int × gx_S) (h : gm_106_40 s = some q) : fm_106_40 σ = some (Int64.ofInt q.1, gx q.2) := by
  unfold gm_106_40 at h
  unfold fm_106_40
  have h := Option.some.inj h
  subst h
  exact gretl kgl_m1 es
def gm_106 (x1 : Int) (x2 : Int) (x3 : Int) (x4 : Int) (s : gx_S) : Option (Int × gx_S) :=
  (gm_114 x1 s).bind fun q28 =>
  if (gb q28.1) = 0 then (
    gm_106_40 q28.2) else (
    (gm_57 1 q28.2).bind fun q31 =>
    if (gb q31.1) = 0 then (
      gm_106_40 q31.2) else (
      (gm_59 1 x2 x3 q31.2).bind fun q34 =>
      if (gb q34.1) = 0 then (
        gm_106_40 q34.2) else (
        if (-2147483648 ≤ x4 ∧ x4 ≤ 2147483647) then (
        if x4 < 0 then (
          gm_106_40 q34.2) else (
          if x4 ≤ 1 then (
            if 0 ≤ x1 ∧ x1 < 3 then (
            (some (fx_rf 70 (x1).toNat)).bind fun v39 =>
            (gm_19 v39 2 q34.2).bind fun q44 =>
            (gm_27 v39 ((x2 * (q44.1 1 5)) + x3) q44).bind fun q46 =>
            if (-2147483648 ≤ q46.1 ∧ q46.1 ≤ 2147483647) then (
            (gm_28 v39 ((x2 * (q44.1 1 5)) + x3) q46.2).bind fun q49 =>
            if (-2147483648 ≤ q49.1 ∧ q49.1 ≤ 2147483647) then (
            (gm_127 q46.1 q49.1 x4 q49.2).bind fun q52 =>
            some (q52.1, q52.2)) else none) else none) else none) else (
            gm_106_40 q34.2))) else none)))
theorem gf_106 {x1 : Int} {yx1 : Int32} (e1 : yx1 = Int32.ofInt x1) {x2 : Int} {yx2 : Int32} (e2 : yx2 = Int32.ofInt x2) {x3 : Int} {yx3 : Int32} (e3 : yx3 = Int32.ofInt x3) {x4 : Int} {yx4 : Int32} (e4 : yx4 = Int32.ofInt x4) {s : gx_S} {σ : fx_S} (es : σ = gx s) {q : Int × gx_S} (h : gm_106 x1 x2 x3 x4 s = some q) : fm_106 yx1 yx2 yx3 yx4 σ = some (Int64.ofInt q.1, gx q.2) := by
  unfold gm_106 at h
  unfold fm_106
  obtain ⟨q28, w27, h⟩ := fx_bd h
  refine gb_bind (gf_114 e1 es w27) ?_
  by_cases c29 : (gb q28.1) = 0
  · rw [if_pos c29] at h
    refine gb_t ((gc_eq (gb_b q28.1) kg_0 (gb_r _) (by decide)).mpr c29) ?_
    exact gf_106_40 _ _ (rfl : _ = gx q28.2) _ h
  · rw [if_neg c29] at h
    refine gb_f (fun q => c29 ((gc_eq (gb_b q28.1) kg_0 (gb_r _) (by decide)).mp q)) ?_
    obtain ⟨q31, w30, h⟩ := fx_bd h
    refine gb_bind (gf_57 (rfl : _ = gx q28.2) w30) ?_
    by_cases c32 : (gb q31.1) = 0
    · rw [if_pos c32] at h
      refine gb_t ((gc_eq (gb_b q31.1) kg_0 (gb_r _) (by decide)).mpr c32) ?_
      exact gf_106_40 _ _ (rfl : _ = gx q31.2) _ h
    · rw [if_neg c32] at h
      refine gb_f (fun q => c32 ((gc_eq (gb_b q31.1) kg_0 (gb_r _) (by decide)).mp q)) ?_
      obtain ⟨q34, w33, h⟩ := fx_bd h
      refine gb_bind (gf_59 e2 e3 (rfl : _ = gx q31.2) w33) ?_
      by_cases c35 : (gb q34.1) = 0
      · rw [if_pos c35] at h
        refine gb_t ((gc_eq (gb_b q34.1) kg_0 (gb_r _) (by decide)).mpr c35) ?_
        exact gf_106_40 _ _ (rfl : _ = gx q34.2) _ h
      · rw [if_neg c35] at h
        refine gb_f (fun q => c35 ((gc_eq (gb_b q34.1) kg_0 (gb_r _) (by decide)).mp q)) ?_
        obtain ⟨z36, h⟩ := fx_gd h
        by_cases c37 : x4 < 0
        · rw [if_pos c37] at h
          refine gb_t ((gc_lt e4 kg_0 z36 (by decide)).mpr c37) ?_
          exact gf_106_40 _ _ (rfl : _ = gx q34.2) _ h
        · rw [if_neg c37] at h
          refine gb_f (fun q => c37 ((gc_lt e4 kg_0 z36 (by decide)).mp q)) ?_
          by_cases c38 : x4 ≤ 1
          · rw [if_pos c38] at h
            refine gb_t ((gc_le e4 kg_1 z36 (by decide)).mpr c38) ?_
            obtain ⟨z42, h⟩ := fx_gd h
            obtain ⟨v39, w40, h⟩ := fx_bd h
            have g41 := fa_70 ((gl_ldr (t := 4) e1 ga_70 z42).trans w40)
            refine gb_bind ((gl_ldr e1 ga_70 z42).trans w40) ?_
            obtain ⟨q44, w43, h⟩ := fx_bd h
            refine gb_bind (gf_19 kg_2 (rfl : _ = gx q34.2) w43) ?_
            obtain ⟨q46, w45, h⟩ := fx_bd h
            refine gb_bind (gf_27 (ga_add (ga_mul e2 (gf1 (rfl : _ = gx q44) 1 5)) e3) (rfl : _ = gx q44) w45) ?_
            obtain ⟨z47, h⟩ := fx_gd h
            obtain ⟨q49, w48, h⟩ := fx_bd h
            refine gb_bind (gf_28 (ga_add (ga_mul e2 (gf1 (rfl : _ = gx q44) 1 5)) e3) (rfl : _ = gx q46.2) w48) ?_
            obtain ⟨z50, h⟩ := fx_gd h
            obtain ⟨q52, w51, h⟩ := fx_bd h
            refine gb_bind (gf_127 (ga_i2l (gr q46.1) z47) (ga_i2l (gr q49.1) z50) e4 (rfl : _ = gx q49.2) w51) ?_
            have h := Option.some.inj h
            subst h
            exact gretl (gr2 q52.1) (rfl : _ = gx q52.2)
          · rw [if_neg c38] at h
            refine gb_f (fun q => c38 ((gc_le e4 kg_1 z36 (by decide)).mp q)) ?_
            exact gf_106_40 _ _ (rfl : _ = gx q34.2) _ h

/-! ZoneShares.densest(II)I -/
def gm_107 (x1 : Int) (x2 : Int) (s : gx_S) : Option (Int × gx_S) :=
  (gm_114 x1 s).bind fun q27 =>
  if (gb q27.1) = 0 then (
    some ((-1), q27.2)) else (
    (gm_57 1 q27.2).bind fun q30 =>
    if (gb q30.1) = 0 then (
      some ((-1), q30.2)) else (
      if (-2147483648 ≤ x2 ∧ x2 ≤ 2147483647) then (
      if x2 < 0 then (
        some ((-1), q30.2)) else (
        (gm_58 1 q30.2).bind fun q35 =>
        if (-2147483648 ≤ q35.1 ∧ q35.1 ≤ 2147483647) then (
        if x2 < q35.1 then (
          if 0 ≤ x1 ∧ x1 < 3 then (
          (some (fx_rf 70 (x1).toNat)).bind fun v38 =>
          (gm_19 v38 32 q35.2).bind fun q43 =>
          if 0 ≤ x2 ∧ x2 < 96 then (
          if (-2147483648 ≤ (q43.1 1 5) ∧ (q43.1 1 5) ≤ 2147483647) then (
          if 0 ≤ (q43.1 (v38 + 2) (x2).toNat) ∧ (q43.1 (v38 + 2) (x2).toNat) ≤ 2147483647 ∧ 0 < (if 1 < (q43.1 1 5) then (q43.1 1 5) else 1) ∧ (if 1 < (q43.1 1 5) then (q43.1 1 5) else 1) ≤ 2147483647 then (
          some (((12 * ((q43.1 (v38 + 2) (x2).toNat) / (if 1 < (q43.1 1 5) then (q43.1 1 5) else 1))) + ((q43.1 (v38 + 2) (x2).toNat) % (if 1 < (q43.1 1 5) then (q43.1 1 5) else 1))), q43)) else none) else none) else none) else none) else (
          some ((-1), q35.2))) else none)) else none))
theorem gf_107 {x1 : Int} {yx1 : Int32} (e1 : yx1 = Int32.ofInt x1) {x2 : Int} {yx2 : Int32} (e2 : yx2 = Int32.ofInt x2) {s : gx_S} {σ : fx_S} (es : σ = gx s) {q : Int × gx_S} (h : gm_107 x1 x2 s = some q) : fm_107 yx1 yx2 σ = some (Int32.ofInt q.1, gx q.2) := by
  unfold gm_107 at h
  unfold fm_107
  obtain ⟨q27, w26, h⟩ := fx_bd h
  refine gb_bind (gf_114 e1 es w26) ?_
  by_cases c28 : (gb q27.1) = 0
  · rw [if_pos c28] at h
    refine gb_t ((gc_eq (gb_b q27.1) kg_0 (gb_r _) (by decide)).mpr c28) ?_
    have h := Option.some.inj h
    subst h
    exact gret kg_m1 (rfl : _ = gx q27.2)
  · rw [if_neg c28] at h
    refine gb_f (fun q => c28 ((gc_eq (gb_b q27.1) kg_0 (gb_r _) (by decide)).mp q)) ?_
    obtain ⟨q30, w29, h⟩ := fx_bd h
    refine gb_bind (gf_57 (rfl : _ = gx q27.2) w29) ?_
    by_cases c31 : (gb q30.1) = 0
    · rw [if_pos c31] at h
      refine gb_t ((gc_eq (gb_b q30.1) kg_0 (gb_r _) (by decide)).mpr c31) ?_
      have h := Option.some.inj h
      subst h
      exact gret kg_m1 (rfl : _ = gx q30.2)
    · rw [if_neg c31] at h
      refine gb_f (fun q => c31 ((gc_eq (gb_b q30.1) kg_0 (gb_r _) (by decide)).mp q)) ?_
      obtain ⟨z32, h⟩ := fx_gd h
      by_cases c33 : x2 < 0
      · rw [if_pos c33] at h
        refine gb_t ((gc_lt e2 kg_0 z32 (by decide)).mpr c33) ?_
        have h := Option.some.inj h
        subst h
        exact gret kg_m1 (rfl : _ = gx q30.2)
      · rw [if_neg c33] at h
        refine gb_f (fun q => c33 ((gc_lt e2 kg_0 z32 (by decide)).mp q)) ?_
        obtain ⟨q35, w34, h⟩ := fx_bd h
        refine gb_bind (gf_58 (rfl : _ = gx q30.2) w34) ?_
        obtain ⟨z36, h⟩ := fx_gd h
        by_cases c37 : x2 < q35.1
        · rw [if_pos c37] at h
          refine gb_t ((gc_lt e2 (gr q35.1) z32 z36).mpr c37) ?_
          obtain ⟨z41, h⟩ := fx_gd h
          obtain ⟨v38, w39, h⟩ := fx_bd h
          have g40 := fa_70 ((gl_ldr (t := 4) e1 ga_70 z41).trans w39)
          refine gb_bind ((gl_ldr e1 ga_70 z41).trans w39) ?_
          obtain ⟨q43, w42, h⟩ := fx_bd h
          refine gb_bind (gf_19 kg_32 (rfl : _ = gx q35.2) w42) ?_
          obtain ⟨z46, h⟩ := fx_gd h
          refine gb_bind (gl_ld (rfl : _ = gx q43) e2 (ga_2_1 g40) z46) ?_
          obtain ⟨z47, h⟩ := fx_gd h
          obtain ⟨z48, h⟩ := fx_gd h
          refine gb_t (gc_nz (ga_gt_ite kg_1 (gf1 (rfl : _ = gx q43) 1 5) (by decide) z47) z48) ?_
          refine gb_t (gc_nz (ga_gt_ite kg_1 (gf1 (rfl : _ = gx q43) 1 5) (by decide) z47) z48) ?_
          have h := Option.some.inj h
          subst h
          exact gret (ga_add (ga_mul kg_12 (ga_div (gr (q43.1 (v38 + 2) (x2).toNat)) (ga_gt_ite kg_1 (gf1 (rfl : _ = gx q43) 1 5) (by decide) z47) z48)) (ga_rem (gr (q43.1 (v38 + 2) (x2).toNat)) (ga_gt_ite kg_1 (gf1 (rfl : _ = gx q43) 1 5) (by decide) z47) z48)) (rfl : _ = gx q43)
        · rw [if_neg c37] at h
          refine gb_f (fun q => c37 ((gc_lt e2 (gr q35.1) z32 z36).mp q)) ?_
          have h := Option.some.inj h
          subst h
          exact gret kg_m1 (rfl : _ = gx q35.2)

/-! ZoneShares.count(I)I -/
def gm_111 (x1 : Int) (s : gx_S) : Option (Int × gx_S) :=
  if (-2147483648 ≤ x1 ∧ x1 ≤ 2147483647) then (
  if x1 = 0 then (
    (gm_58 1 s).bind fun q50 =>
    some (q50.1, q50.2)) else (
    if x1 = 1 then (
      some ((s.1 1 4), s)) else (
      if x1 = 2 then (
        (gm_63 1 0 8 s).bind fun q48 =>
        some (q48.1, q48.2)) else (
        if x1 = 3 then (
          (gm_63 1 1 8 s).bind fun q46 =>
          some (q46.1, q46.2)) else (
          if x1 = 4 then (
            (gm_63 1 2 4 s).bind fun q44 =>
            some (q44.1, q44.2)) else (
            if x1 = 5 then (
              some ((s.1 1 7), s)) else (
              if x1 = 6 then (
                some ((s.1 1 8), s)) else (
                if x1 = 7 then (
                  some ((s.1 1 6), s)) else (
                  if x1 = 8 then (
                    some ((s.1 16 2), s)) else (
                    if x1 = 9 then (
                      some ((s.1 14 1), s)) else (
                      if x1 = 10 then (
                        (gm_126 1 s).bind fun q42 =>
                        some (q42.1, q42.2)) else (
                        if x1 = 11 then (
                          (gm_126 0 s).bind fun q40 =>
                          some (q40.1, q40.2)) else (
                          some ((-1), s)))))))))))))) else none
theorem gf_111 {x1 : Int} {yx1 : Int32} (e1 : yx1 = Int32.ofInt x1) {s : gx_S} {σ : fx_S} (es : σ = gx s) {q : Int × gx_S} (h : gm_111 x1 s = some q) : fm_111 yx1 σ = some (Int32.ofInt q.1, gx q.2) := by
  unfold gm_111 at h
  unfold fm_111
  obtain ⟨z38, h⟩ := fx_gd h
  by_cases c26 : x1 = 0
  · rw [if_pos c26] at h
    refine gb_t ((gc_eq e1 kg_0 z38 (by decide)).mpr c26) ?_
    obtain ⟨q50, w49, h⟩ := fx_bd h
    refine gb_bind (gf_58 es w49) ?_
    have h := Option.some.inj h
    subst h
    exact gret (gr q50.1) (rfl : _ = gx q50.2)
  · rw [if_neg c26] at h
    refine gb_f (fun q => c26 ((gc_eq e1 kg_0 z38 (by decide)).mp q)) ?_
    by_cases c27 : x1 = 1
    · rw [if_pos c27] at h
      refine gb_t ((gc_eq e1 kg_1 z38 (by decide)).mpr c27) ?_
      have h := Option.some.inj h
      subst h
      exact gret (gf1 es 1 4) es
    · rw [if_neg c27] at h
      refine gb_f (fun q => c27 ((gc_eq e1 kg_1 z38 (by decide)).mp q)) ?_
      by_cases c28 : x1 = 2
      · rw [if_pos c28] at h
        refine gb_t ((gc_eq e1 kg_2 z38 (by decide)).mpr c28) ?_
        obtain ⟨q48, w47, h⟩ := fx_bd h
        refine gb_bind (gf_63 kg_0 kg_8 es w47) ?_
        have h := Option.some.inj h
        subst h
        exact gret (gr q48.1) (rfl : _ = gx q48.2)
      · rw [if_neg c28] at h
        refine gb_f (fun q => c28 ((gc_eq e1 kg_2 z38 (by decide)).mp q)) ?_
        by_cases c29 : x1 = 3
        · rw [if_pos c29] at h
          refine gb_t ((gc_eq e1 kg_3 z38 (by decide)).mpr c29) ?_
          obtain ⟨q46, w45, h⟩ := fx_bd h
          refine gb_bind (gf_63 kg_1 kg_8 es w45) ?_
          have h := Option.some.inj h
          subst h
          exact gret (gr q46.1) (rfl : _ = gx q46.2)
        · rw [if_neg c29] at h
          refine gb_f (fun q => c29 ((gc_eq e1 kg_3 z38 (by decide)).mp q)) ?_
          by_cases c30 : x1 = 4
          · rw [if_pos c30] at h
            refine gb_t ((gc_eq e1 kg_4 z38 (by decide)).mpr c30) ?_
            obtain ⟨q44, w43, h⟩ := fx_bd h
            refine gb_bind (gf_63 kg_2 kg_4 es w43) ?_
            have h := Option.some.inj h
            subst h
            exact gret (gr q44.1) (rfl : _ = gx q44.2)
          · rw [if_neg c30] at h
            refine gb_f (fun q => c30 ((gc_eq e1 kg_4 z38 (by decide)).mp q)) ?_
            by_cases c31 : x1 = 5
            · rw [if_pos c31] at h
              refine gb_t ((gc_eq e1 kg_5 z38 (by decide)).mpr c31) ?_
              have h := Option.some.inj h
              subst h
              exact gret (gf1 es 1 7) es
            · rw [if_neg c31] at h
              refine gb_f (fun q => c31 ((gc_eq e1 kg_5 z38 (by decide)).mp q)) ?_
              by_cases c32 : x1 = 6
              · rw [if_pos c32] at h
                refine gb_t ((gc_eq e1 kg_6 z38 (by decide)).mpr c32) ?_
                have h := Option.some.inj h
                subst h
                exact gret (gf1 es 1 8) es
              · rw [if_neg c32] at h
                refine gb_f (fun q => c32 ((gc_eq e1 kg_6 z38 (by decide)).mp q)) ?_
                by_cases c33 : x1 = 7
                · rw [if_pos c33] at h
                  refine gb_t ((gc_eq e1 kg_7 z38 (by decide)).mpr c33) ?_
                  have h := Option.some.inj h
                  subst h
                  exact gret (gf1 es 1 6) es
                · rw [if_neg c33] at h
                  refine gb_f (fun q => c33 ((gc_eq e1 kg_7 z38 (by decide)).mp q)) ?_
                  by_cases c34 : x1 = 8
                  · rw [if_pos c34] at h
                    refine gb_t ((gc_eq e1 kg_8 z38 (by decide)).mpr c34) ?_
                    have h := Option.some.inj h
                    subst h
                    exact gret (gf1 es 16 2) es
                  · rw [if_neg c34] at h
                    refine gb_f (fun q => c34 ((gc_eq e1 kg_8 z38 (by decide)).mp q)) ?_
                    by_cases c35 : x1 = 9
                    · rw [if_pos c35] at h
                      refine gb_t ((gc_eq e1 kg_9 z38 (by decide)).mpr c35) ?_
                      have h := Option.some.inj h
                      subst h
                      exact gret (gf1 es 14 1) es
                    · rw [if_neg c35] at h
                      refine gb_f (fun q => c35 ((gc_eq e1 kg_9 z38 (by decide)).mp q)) ?_
                      by_cases c36 : x1 = 10
                      · rw [if_pos c36] at h
                        refine gb_t ((gc_eq e1 kg_10 z38 (by decide)).mpr c36) ?_
                        obtain ⟨q42, w41, h⟩ := fx_bd h
                        refine gb_bind (gf_126 kg_1 es w41) ?_
                        have h := Option.some.inj h
                        subst h
                        exact gret (gr q42.1) (rfl : _ = gx q42.2)
                      · rw [if_neg c36] at h
                        refine gb_f (fun q => c36 ((gc_eq e1 kg_10 z38 (by decide)).mp q)) ?_
                        by_cases c37 : x1 = 11
                        · rw [if_pos c37] at h
                          refine gb_t ((gc_eq e1 kg_11 z38 (by decide)).mpr c37) ?_
                          obtain ⟨q40, w39, h⟩ := fx_bd h
                          refine gb_bind (gf_126 kg_0 es w39) ?_
                          have h := Option.some.inj h
                          subst h
                          exact gret (gr q40.1) (rfl : _ = gx q40.2)
                        · rw [if_neg c37] at h
                          refine gb_f (fun q => c37 ((gc_eq e1 kg_11 z38 (by decide)).mp q)) ?_
                          have h := Option.some.inj h
                          subst h
                          exact gret kg_m1 es

/-! ZoneSharesModel.finds(I)Z -/
def gm_168_111 (k168 : Int → gx_S → Option (Bool × gx_S)) (k169 : Int → gx_S → Option (Bool × gx_S)) (k_2 : Int → Int → gx_S → Option (Bool × gx_S)) (x1 : Int) (x2 : Int) (s : gx_S) : Option (Bool × gx_S) :=
  k_2 x1 (x2 + 1) s
theorem gf_168_111 {kf168 : Int32 → fx_S → Option (Bool × fx_S)} {kf169 : Int32 → fx_S → Option (Bool × fx_S)} {kg168 : Int → gx_S → Option (Bool × gx_S)} {kg169 : Int → gx_S → Option (Bool × gx_S)} (hg168 : ∀ (x1 : Int) (yx1 : Int32) (_ : yx1 = Int32.ofInt x1) (s : gx_S) (σ : fx_S) (_ : σ = gx s) (q : Bool × gx_S), kg168 x1 s = some q → kf168 yx1 σ = some (q.1, gx q.2)) (hg169 : ∀ (x1 : Int) (yx1 : Int32) (_ : yx1 = Int32.ofInt x1) (s : gx_S) (σ : fx_S) (_ : σ = gx s) (q : Bool × gx_S), kg169 x1 s = some q → kf169 yx1 σ = some (q.1, gx q.2)) {kf_2 : Int32 → Int32 → fx_S → Option (Bool × fx_S)} {kg_2 : Int → Int → gx_S → Option (Bool × gx_S)} (hk_2 : ∀ (x1 : Int) (yx1 : Int32) (e1 : yx1 = Int32.ofInt x1) (x2 : Int) (yx2 : Int32) (e2 : yx2 = Int32.ofInt x2) (s : gx_S) (σ : fx_S) (es : σ = gx s) (q : Bool × gx_S), kg_2 x1 x2 s = some q → kf_2 yx1 yx2 σ = some (q.1, gx q.2)) (x1 : Int) (yx1 : Int32) (e1 : yx1 = Int32.ofInt x1) (x2 : Int) (yx2 : Int32) (e2 : yx2 = Int32.ofInt x2) (s : gx_S) (σ : fx_S) (es : σ = gx s) (q : Bool × gx_S) (h : gm_168_111 kg168 kg169 kg_2 x1 x2 s = some q) : fm_168_111 kf168 kf169 kf_2 yx1 yx2 σ = some (q.1, gx q.2) := by
  unfold gm_168_111 at h
  unfold fm_168_111
  exact hk_2 _ _ e1 _ _ (ga_add e2 kg_1) _ _ es _ h
def gm_168_88 (k168 : Int → gx_S → Option (Bool × gx_S)) (k169 : Int → gx_S → Option (Bool × gx_S)) (x1 : Int) (x2 : Int) (s : gx_S) : Option (Bool × gx_S) :=
  (gm_160 x1 x2 s).bind fun q2 =>
  if 0 ≤ q2.1 ∧ q2.1 < 72 then (
  if 0 ≤ x2 ∧ x2 < 9 then (
  some (true, (gw2 (gw1 q2.2 232 (q2.1).toNat (gn2 1)) 230 (x2).toNat (((gw1 q2.2 232 (q2.1).toNat (gn2 1)).2 230 (x2).toNat) + 1)))) else none) else none
theorem gf_168_88 {kf168 : Int32 → fx_S → Option (Bool × fx_S)} {kf169 : Int32 → fx_S → Option (Bool × fx_S)} {kg168 : Int → gx_S → Option (Bool × gx_S)} {kg169 : Int → gx_S → Option (Bool × gx_S)} (hg168 : ∀ (x1 : Int) (yx1 : Int32) (_ : yx1 = Int32.ofInt x1) (s : gx_S) (σ : fx_S) (_ : σ = gx s) (q : Bool × gx_S), kg168 x1 s = some q → kf168 yx1 σ = some (q.1, gx q.2)) (hg169 : ∀ (x1 : Int) (yx1 : Int32) (_ : yx1 = Int32.ofInt x1) (s : gx_S) (σ : fx_S) (_ : σ = gx s) (q : Bool × gx_S), kg169 x1 s = some q → kf169 yx1 σ = some (q.1, gx q.2)) (x1 : Int) (yx1 : Int32) (e1 : yx1 = Int32.ofInt x1) (x2 : Int) (yx2 : Int32) (e2 : yx2 = Int32.ofInt x2) (s : gx_S) (σ : fx_S) (es : σ = gx s) (q : Bool × gx_S) (h : gm_168_88 kg168 kg169 x1 x2 s = some q) : fm_168_88 kf168 kf169 yx1 yx2 σ = some (q.1, gx q.2) := by
  unfold gm_168_88 at h
  unfold fm_168_88
  obtain ⟨q2, w1, h⟩ := fx_bd h
  refine gb_bind (gf_160 e1 e2 es w1) ?_
  obtain ⟨z5, h⟩ := fx_gd h
  refine gb_bind (gl_stb2 (rfl : _ = gx q2.2) (gr q2.1) kg_1 ga_232 z5) ?_
  obtain ⟨z8, h⟩ := fx_gd h
  refine gb_bind (gl_ldl (rfl : _ = gx (gw1 q2.2 232 (q2.1).toNat (gn2 1))) e2 ga_230 z8) ?_
  refine gb_bind (gl_stl (rfl : _ = gx (gw1 q2.2 232 (q2.1).toNat (gn2 1))) e2 (gal_add (gr2 ((gw1 q2.2 232 (q2.1).toNat (gn2 1)).2 230 (x2).toNat)) kgl_1) ga_230 z8) ?_
  have h := Option.some.inj h
  subst h
  exact gretb (rfl : _ = gx (gw2 (gw1 q2.2 232 (q2.1).toNat (gn2 1)) 230 (x2).toNat (((gw1 q2.2 232 (q2.1).toNat (gn2 1)).2 230 (x2).toNat) + 1)))
def gm_168_2 (k168 : Int → gx_S → Option (Bool × gx_S)) (k169 : Int → gx_S → Option (Bool × gx_S)) : Nat → Int → Int → gx_S → Option (Bool × gx_S)
  | 0, _, _, _ => none
  | n + 1, x1, x2, s =>
    if (-2147483648 ≤ x2 ∧ x2 ≤ 2147483647) then (
    if (-2147483648 ≤ (s.1 215 18) ∧ (s.1 215 18) ≤ 2147483647) then (
    if (s.1 215 18) ≤ x2 then (
      some (false, s)) else (
      (gm_167 x1 x2 s).bind fun q5 =>
      if (gb q5.1) = 0 then (
        gm_168_111 k168 k169 (gm_168_2 k168 k169 n) x1 x2 q5.2) else (
        (gm_160 x1 x2 q5.2).bind fun q8 =>
        if 0 ≤ q8.1 ∧ q8.1 < 72 then (
        if (-2147483648 ≤ (q8.2.1 233 (q8.1).toNat) ∧ (q8.2.1 233 (q8.1).toNat) ≤ 2147483647) then (
        if ¬ (q8.2.1 233 (q8.1).toNat) = 0 then (
          gm_168_111 k168 k169 (gm_168_2 k168 k169 n) x1 x2 q8.2) else (
          (gm_160 x1 x2 q8.2).bind fun q15 =>
          if 0 ≤ q15.1 ∧ q15.1 < 72 then (
          if (-2147483648 ≤ (q15.2.1 232 (q15.1).toNat) ∧ (q15.2.1 232 (q15.1).toNat) ≤ 2147483647) then (
          if ¬ (q15.2.1 232 (q15.1).toNat) = 0 then (
            gm_168_111 k168 k169 (gm_168_2 k168 k169 n) x1 x2 q15.2) else (
            if 0 ≤ x2 ∧ x2 < 9 then (
            if (-2147483648 ≤ (q15.2.1 235 (x2).toNat) ∧ (q15.2.1 235 (x2).toNat) ≤ 2147483647) then (
            if (q15.2.1 235 (x2).toNat) = 0 then (
              if (-9223372036854775808 ≤ ((gw1 q15.2 235 (x2).toNat (gn2 1)).2 230 (x2).toNat) ∧ ((gw1 q15.2 235 (x2).toNat (gn2 1)).2 230 (x2).toNat) ≤ 9223372036854775807) then (
              if (-9223372036854775808 ≤ ((gw1 q15.2 235 (x2).toNat (gn2 1)).2 229 (x2).toNat) ∧ ((gw1 q15.2 235 (x2).toNat (gn2 1)).2 229 (x2).toNat) ≤ 9223372036854775807) then (
              if ((gw1 q15.2 235 (x2).toNat (gn2 1)).2 230 (x2).toNat) < ((gw1 q15.2 235 (x2).toNat (gn2 1)).2 229 (x2).toNat) then (
                gm_168_88 k168 k169 x1 x2 (gw1 q15.2 235 (x2).toNat (gn2 1))) else (
                (k169 x2 (gw1 q15.2 235 (x2).toNat (gn2 1))).bind fun q36 =>
                if (gb q36.1) = 0 then (
                  gm_168_111 k168 k169 (gm_168_2 k168 k169 n) x1 x2 q36.2) else (
                  gm_168_88 k168 k169 x1 x2 q36.2))) else none) else none) else (
              gm_168_111 k168 k169 (gm_168_2 k168 k169 n) x1 x2 q15.2)) else none) else none)) else none) else none)) else none) else none))) else none) else none
theorem gf_168_2 {kf168 : Int32 → fx_S → Option (Bool × fx_S)} {kf169 : Int32 → fx_S → Option (Bool × fx_S)} {kg168 : Int → gx_S → Option (Bool × gx_S)} {kg169 : Int → gx_S → Option (Bool × gx_S)} (hg168 : ∀ (x1 : Int) (yx1 : Int32) (_ : yx1 = Int32.ofInt x1) (s : gx_S) (σ : fx_S) (_ : σ = gx s) (q : Bool × gx_S), kg168 x1 s = some q → kf168 yx1 σ = some (q.1, gx q.2)) (hg169 : ∀ (x1 : Int) (yx1 : Int32) (_ : yx1 = Int32.ofInt x1) (s : gx_S) (σ : fx_S) (_ : σ = gx s) (q : Bool × gx_S), kg169 x1 s = some q → kf169 yx1 σ = some (q.1, gx q.2)) : ∀ (n : Nat) (x1 : Int) (yx1 : Int32) (e1 : yx1 = Int32.ofInt x1) (x2 : Int) (yx2 : Int32) (e2 : yx2 = Int32.ofInt x2) (s : gx_S) (σ : fx_S) (es : σ = gx s) (q : Bool × gx_S), gm_168_2 kg168 kg169 n x1 x2 s = some q → fm_168_2 kf168 kf169 n yx1 yx2 σ = some (q.1, gx q.2) := by
  intro n
  induction n with
  | zero =>
    intro x1 yx1 e1 x2 yx2 e2 s σ es q  h
    rw [gm_168_2] at h
    exact fx_no h
  | succ n ih =>
    intro x1 yx1 e1 x2 yx2 e2 s σ es q  h
    rw [gm_168_2] at h
    rw [fm_168_2]
    obtain ⟨z1, h⟩ := fx_gd h
    obtain ⟨z2, h⟩ := fx_gd h
    by_cases c3 : (s.1 215 18) ≤ x2
    · rw [if_pos c3] at h
      refine gb_t ((gc_le (gf1 es 215 18) e2 z2 z1).mpr c3) ?_
      have h := Option.some.inj h
      subst h
      exact gretb es
    · rw [if_neg c3] at h
      refine gb_f (fun q => c3 ((gc_le (gf1 es 215 18) e2 z2 z1).mp q)) ?_
      obtain ⟨q5, w4, h⟩ := fx_bd h
      refine gb_bind (gf_167 e1 e2 es w4) ?_
      by_cases c6 : (gb q5.1) = 0
      · rw [if_pos c6] at h
        refine gb_t ((gc_eq (gb_b q5.1) kg_0 (gb_r _) (by decide)).mpr c6) ?_
        exact gf_168_111 hg168 hg169 ih _ _ e1 _ _ e2 _ _ (rfl : _ = gx q5.2) _ h
      · rw [if_neg c6] at h
        refine gb_f (fun q => c6 ((gc_eq (gb_b q5.1) kg_0 (gb_r _) (by decide)).mp q)) ?_
        obtain ⟨q8, w7, h⟩ := fx_bd h
        refine gb_bind (gf_160 e1 e2 (rfl : _ = gx q5.2) w7) ?_
        obtain ⟨z11, h⟩ := fx_gd h
        refine gb_bind (gl_ldb2 (rfl : _ = gx q8.2) (gr q8.1) ga_233 z11) ?_
        obtain ⟨z12, h⟩ := fx_gd h
        by_cases c13 : ¬ (q8.2.1 233 (q8.1).toNat) = 0
        · rw [if_pos c13] at h
          refine gb_t ((gc_ne (gr (q8.2.1 233 (q8.1).toNat)) kg_0 z12 (by decide)).mpr c13) ?_
          exact gf_168_111 hg168 hg169 ih _ _ e1 _ _ e2 _ _ (rfl : _ = gx q8.2) _ h
        · rw [if_neg c13] at h
          refine gb_f (fun q => c13 ((gc_ne (gr (q8.2.1 233 (q8.1).toNat)) kg_0 z12 (by decide)).mp q)) ?_
          obtain ⟨q15, w14, h⟩ := fx_bd h
          refine gb_bind (gf_160 e1 e2 (rfl : _ = gx q8.2) w14) ?_
          obtain ⟨z18, h⟩ := fx_gd h
          refine gb_bind (gl_ldb2 (rfl : _ = gx q15.2) (gr q15.1) ga_232 z18) ?_
          obtain ⟨z19, h⟩ := fx_gd h
          by_cases c20 : ¬ (q15.2.1 232 (q15.1).toNat) = 0
          · rw [if_pos c20] at h
            refine gb_t ((gc_ne (gr (q15.2.1 232 (q15.1).toNat)) kg_0 z19 (by decide)).mpr c20) ?_
            exact gf_168_111 hg168 hg169 ih _ _ e1 _ _ e2 _ _ (rfl : _ = gx q15.2) _ h
          · rw [if_neg c20] at h
            refine gb_f (fun q => c20 ((gc_ne (gr (q15.2.1 232 (q15.1).toNat)) kg_0 z19 (by decide)).mp q)) ?_
            obtain ⟨z23, h⟩ := fx_gd h
            refine gb_bind (gl_ldb2 (rfl : _ = gx q15.2) e2 ga_235 z23) ?_
            obtain ⟨z24, h⟩ := fx_gd h
            by_cases c25 : (q15.2.1 235 (x2).toNat) = 0
            · rw [if_pos c25] at h
              refine gb_t ((gc_eq (gr (q15.2.1 235 (x2).toNat)) kg_0 z24 (by decide)).mpr c25) ?_
              refine gb_bind (gl_stb2 (rfl : _ = gx q15.2) e2 kg_1 ga_235 z23) ?_
              refine gb_bind (gl_ldl (rfl : _ = gx (gw1 q15.2 235 (x2).toNat (gn2 1))) e2 ga_230 z23) ?_
              refine gb_bind (gl_ldl (rfl : _ = gx (gw1 q15.2 235 (x2).toNat (gn2 1))) e2 ga_229 z23) ?_
              obtain ⟨z32, h⟩ := fx_gd h
              obtain ⟨z33, h⟩ := fx_gd h
              by_cases c34 : ((gw1 q15.2 235 (x2).toNat (gn2 1)).2 230 (x2).toNat) < ((gw1 q15.2 235 (x2).toNat (gn2 1)).2 229 (x2).toNat)
              · rw [if_pos c34] at h
                refine gb_t ((gcl_lt (gr2 ((gw1 q15.2 235 (x2).toNat (gn2 1)).2 230 (x2).toNat)) (gr2 ((gw1 q15.2 235 (x2).toNat (gn2 1)).2 229 (x2).toNat)) z32 z33).mpr c34) ?_
                exact gf_168_88 hg168 hg169 _ _ e1 _ _ e2 _ _ (rfl : _ = gx (gw1 q15.2 235 (x2).toNat (gn2 1))) _ h
              · rw [if_neg c34] at h
                refine gb_f (fun q => c34 ((gcl_lt (gr2 ((gw1 q15.2 235 (x2).toNat (gn2 1)).2 230 (x2).toNat)) (gr2 ((gw1 q15.2 235 (x2).toNat (gn2 1)).2 229 (x2).toNat)) z32 z33).mp q)) ?_
                obtain ⟨q36, w35, h⟩ := fx_bd h
                refine gb_bind (hg169 _ _ e2 _ _ (rfl : _ = gx (gw1 q15.2 235 (x2).toNat (gn2 1))) _ w35) ?_
                by_cases c37 : (gb q36.1) = 0
                · rw [if_pos c37] at h
                  refine gb_t ((gc_eq (gb_b q36.1) kg_0 (gb_r _) (by decide)).mpr c37) ?_
                  exact gf_168_111 hg168 hg169 ih _ _ e1 _ _ e2 _ _ (rfl : _ = gx q36.2) _ h
                · rw [if_neg c37] at h
                  refine gb_f (fun q => c37 ((gc_eq (gb_b q36.1) kg_0 (gb_r _) (by decide)).mp q)) ?_
                  exact gf_168_88 hg168 hg169 _ _ e1 _ _ e2 _ _ (rfl : _ = gx q36.2) _ h
            · rw [if_neg c25] at h
              refine gb_f (fun q => c25 ((gc_eq (gr (q15.2.1 235 (x2).toNat)) kg_0 z24 (by decide)).mp q)) ?_
              exact gf_168_111 hg168 hg169 ih _ _ e1 _ _ e2 _ _ (rfl : _ = gx q15.2) _ h
def gm_168o (k168 : Int → gx_S → Option (Bool × gx_S)) (k169 : Int → gx_S → Option (Bool × gx_S)) (x1 : Int) (s : gx_S) : Option (Bool × gx_S) :=
  gm_168_2 k168 k169 100000 x1 0 s
theorem gf_168o {kf168 : Int32 → fx_S → Option (Bool × fx_S)} {kf169 : Int32 → fx_S → Option (Bool × fx_S)} {kg168 : Int → gx_S → Option (Bool × gx_S)} {kg169 : Int → gx_S → Option (Bool × gx_S)} (hg168 : ∀ (x1 : Int) (yx1 : Int32) (_ : yx1 = Int32.ofInt x1) (s : gx_S) (σ : fx_S) (_ : σ = gx s) (q : Bool × gx_S), kg168 x1 s = some q → kf168 yx1 σ = some (q.1, gx q.2)) (hg169 : ∀ (x1 : Int) (yx1 : Int32) (_ : yx1 = Int32.ofInt x1) (s : gx_S) (σ : fx_S) (_ : σ = gx s) (q : Bool × gx_S), kg169 x1 s = some q → kf169 yx1 σ = some (q.1, gx q.2)) {x1 : Int} {yx1 : Int32} (e1 : yx1 = Int32.ofInt x1) {s : gx_S} {σ : fx_S} (es : σ = gx s) {q : Bool × gx_S} (h : gm_168o kg168 kg169 x1 s = some q) : fm_168o kf168 kf169 yx1 σ = some (q.1, gx q.2) := by
  unfold gm_168o at h
  unfold fm_168o
  exact gf_168_2 hg168 hg169 100000 _ _ e1 _ _ kg_0 _ _ es _ h

/-! ZoneSharesModel.makesPlace(I)Z -/
def gm_169_67 (k168 : Int → gx_S → Option (Bool × gx_S)) (k169 : Int → gx_S → Option (Bool × gx_S)) (k_2 : Int → Int → gx_S → Option (Bool × gx_S)) (x1 : Int) (x2 : Int) (s : gx_S) : Option (Bool × gx_S) :=
  k_2 x1 (x2 + 1) s
theorem gf_169_67 {kf168 : Int32 → fx_S → Option (Bool × fx_S)} {kf169 : Int32 → fx_S → Option (Bool × fx_S)} {kg168 : Int → gx_S → Option (Bool × gx_S)} {kg169 : Int → gx_S → Option (Bool × gx_S)} (hg168 : ∀ (x1 : Int) (yx1 : Int32) (_ : yx1 = Int32.ofInt x1) (s : gx_S) (σ : fx_S) (_ : σ = gx s) (q : Bool × gx_S), kg168 x1 s = some q → kf168 yx1 σ = some (q.1, gx q.2)) (hg169 : ∀ (x1 : Int) (yx1 : Int32) (_ : yx1 = Int32.ofInt x1) (s : gx_S) (σ : fx_S) (_ : σ = gx s) (q : Bool × gx_S), kg169 x1 s = some q → kf169 yx1 σ = some (q.1, gx q.2)) {kf_2 : Int32 → Int32 → fx_S → Option (Bool × fx_S)} {kg_2 : Int → Int → gx_S → Option (Bool × gx_S)} (hk_2 : ∀ (x1 : Int) (yx1 : Int32) (e1 : yx1 = Int32.ofInt x1) (x2 : Int) (yx2 : Int32) (e2 : yx2 = Int32.ofInt x2) (s : gx_S) (σ : fx_S) (es : σ = gx s) (q : Bool × gx_S), kg_2 x1 x2 s = some q → kf_2 yx1 yx2 σ = some (q.1, gx q.2)) (x1 : Int) (yx1 : Int32) (e1 : yx1 = Int32.ofInt x1) (x2 : Int) (yx2 : Int32) (e2 : yx2 = Int32.ofInt x2) (s : gx_S) (σ : fx_S) (es : σ = gx s) (q : Bool × gx_S) (h : gm_169_67 kg168 kg169 kg_2 x1 x2 s = some q) : fm_169_67 kf168 kf169 kf_2 yx1 yx2 σ = some (q.1, gx q.2) := by
  unfold gm_169_67 at h
  unfold fm_169_67
  exact hk_2 _ _ e1 _ _ (ga_add e2 kg_1) _ _ es _ h
def gm_169_2 (k168 : Int → gx_S → Option (Bool × gx_S)) (k169 : Int → gx_S → Option (Bool × gx_S)) : Nat → Int → Int → gx_S → Option (Bool × gx_S)
  | 0, _, _, _ => none
  | n + 1, x1, x2, s =>
    if (-2147483648 ≤ x2 ∧ x2 ≤ 2147483647) then (
    if (-2147483648 ≤ (s.1 215 17) ∧ (s.1 215 17) ≤ 2147483647) then (
    if (s.1 215 17) ≤ x2 then (
      some (false, s)) else (
      (gm_160 x2 x1 s).bind fun q5 =>
      if 0 ≤ q5.1 ∧ q5.1 < 72 then (
      if (-2147483648 ≤ (q5.2.1 232 (q5.1).toNat) ∧ (q5.2.1 232 (q5.1).toNat) ≤ 2147483647) then (
      if (q5.2.1 232 (q5.1).toNat) = 0 then (
        gm_169_67 k168 k169 (gm_169_2 k168 k169 n) x1 x2 q5.2) else (
        (gm_160 x2 x1 q5.2).bind fun q12 =>
        if 0 ≤ q12.1 ∧ q12.1 < 72 then (
        if (-2147483648 ≤ (q12.2.1 233 (q12.1).toNat) ∧ (q12.2.1 233 (q12.1).toNat) ≤ 2147483647) then (
        if ¬ (q12.2.1 233 (q12.1).toNat) = 0 then (
          gm_169_67 k168 k169 (gm_169_2 k168 k169 n) x1 x2 q12.2) else (
          (k168 x2 q12.2).bind fun q19 =>
          if (gb q19.1) = 0 then (
            gm_169_67 k168 k169 (gm_169_2 k168 k169 n) x1 x2 q19.2) else (
            (gm_160 x2 x1 q19.2).bind fun q22 =>
            if 0 ≤ q22.1 ∧ q22.1 < 72 then (
            if 0 ≤ x1 ∧ x1 < 9 then (
            some (true, (gw2 (gw1 q22.2 232 (q22.1).toNat (gn2 0)) 230 (x1).toNat (((gw1 q22.2 232 (q22.1).toNat (gn2 0)).2 230 (x1).toNat) - 1)))) else none) else none))) else none) else none)) else none) else none)) else none) else none
theorem gf_169_2 {kf168 : Int32 → fx_S → Option (Bool × fx_S)} {kf169 : Int32 → fx_S → Option (Bool × fx_S)} {kg168 : Int → gx_S → Option (Bool × gx_S)} {kg169 : Int → gx_S → Option (Bool × gx_S)} (hg168 : ∀ (x1 : Int) (yx1 : Int32) (_ : yx1 = Int32.ofInt x1) (s : gx_S) (σ : fx_S) (_ : σ = gx s) (q : Bool × gx_S), kg168 x1 s = some q → kf168 yx1 σ = some (q.1, gx q.2)) (hg169 : ∀ (x1 : Int) (yx1 : Int32) (_ : yx1 = Int32.ofInt x1) (s : gx_S) (σ : fx_S) (_ : σ = gx s) (q : Bool × gx_S), kg169 x1 s = some q → kf169 yx1 σ = some (q.1, gx q.2)) : ∀ (n : Nat) (x1 : Int) (yx1 : Int32) (e1 : yx1 = Int32.ofInt x1) (x2 : Int) (yx2 : Int32) (e2 : yx2 = Int32.ofInt x2) (s : gx_S) (σ : fx_S) (es : σ = gx s) (q : Bool × gx_S), gm_169_2 kg168 kg169 n x1 x2 s = some q → fm_169_2 kf168 kf169 n yx1 yx2 σ = some (q.1, gx q.2) := by
  intro n
  induction n with
  | zero =>
    intro x1 yx1 e1 x2 yx2 e2 s σ es q  h
    rw [gm_169_2] at h
    exact fx_no h
  | succ n ih =>
    intro x1 yx1 e1 x2 yx2 e2 s σ es q  h
    rw [gm_169_2] at h
    rw [fm_169_2]
    obtain ⟨z1, h⟩ := fx_gd h
    obtain ⟨z2, h⟩ := fx_gd h
    by_cases c3 : (s.1 215 17) ≤ x2
    · rw [if_pos c3] at h
      refine gb_t ((gc_le (gf1 es 215 17) e2 z2 z1).mpr c3) ?_
      have h := Option.some.inj h
      subst h
      exact gretb es
    · rw [if_neg c3] at h
      refine gb_f (fun q => c3 ((gc_le (gf1 es 215 17) e2 z2 z1).mp q)) ?_
      obtain ⟨q5, w4, h⟩ := fx_bd h
      refine gb_bind (gf_160 e2 e1 es w4) ?_
      obtain ⟨z8, h⟩ := fx_gd h
      refine gb_bind (gl_ldb2 (rfl : _ = gx q5.2) (gr q5.1) ga_232 z8) ?_
      obtain ⟨z9, h⟩ := fx_gd h
      by_cases c10 : (q5.2.1 232 (q5.1).toNat) = 0
      · rw [if_pos c10] at h
        refine gb_t ((gc_eq (gr (q5.2.1 232 (q5.1).toNat)) kg_0 z9 (by decide)).mpr c10) ?_
        exact gf_169_67 hg168 hg169 ih _ _ e1 _ _ e2 _ _ (rfl : _ = gx q5.2) _ h
      · rw [if_neg c10] at h
        refine gb_f (fun q => c10 ((gc_eq (gr (q5.2.1 232 (q5.1).toNat)) kg_0 z9 (by decide)).mp q)) ?_
        obtain ⟨q12, w11, h⟩ := fx_bd h
        refine gb_bind (gf_160 e2 e1 (rfl : _ = gx q5.2) w11) ?_
        obtain ⟨z15, h⟩ := fx_gd h
        refine gb_bind (gl_ldb2 (rfl : _ = gx q12.2) (gr q12.1) ga_233 z15) ?_
        obtain ⟨z16, h⟩ := fx_gd h
        by_cases c17 : ¬ (q12.2.1 233 (q12.1).toNat) = 0
        · rw [if_pos c17] at h
          refine gb_t ((gc_ne (gr (q12.2.1 233 (q12.1).toNat)) kg_0 z16 (by decide)).mpr c17) ?_
          exact gf_169_67 hg168 hg169 ih _ _ e1 _ _ e2 _ _ (rfl : _ = gx q12.2) _ h
        · rw [if_neg c17] at h
          refine gb_f (fun q => c17 ((gc_ne (gr (q12.2.1 233 (q12.1).toNat)) kg_0 z16 (by decide)).mp q)) ?_
          obtain ⟨q19, w18, h⟩ := fx_bd h
          refine gb_bind (hg168 _ _ e2 _ _ (rfl : _ = gx q12.2) _ w18) ?_
          by_cases c20 : (gb q19.1) = 0
          · rw [if_pos c20] at h
            refine gb_t ((gc_eq (gb_b q19.1) kg_0 (gb_r _) (by decide)).mpr c20) ?_
            exact gf_169_67 hg168 hg169 ih _ _ e1 _ _ e2 _ _ (rfl : _ = gx q19.2) _ h
          · rw [if_neg c20] at h
            refine gb_f (fun q => c20 ((gc_eq (gb_b q19.1) kg_0 (gb_r _) (by decide)).mp q)) ?_
            obtain ⟨q22, w21, h⟩ := fx_bd h
            refine gb_bind (gf_160 e2 e1 (rfl : _ = gx q19.2) w21) ?_
            obtain ⟨z25, h⟩ := fx_gd h
            refine gb_bind (gl_stb2 (rfl : _ = gx q22.2) (gr q22.1) kg_0 ga_232 z25) ?_
            obtain ⟨z28, h⟩ := fx_gd h
            refine gb_bind (gl_ldl (rfl : _ = gx (gw1 q22.2 232 (q22.1).toNat (gn2 0))) e1 ga_230 z28) ?_
            refine gb_bind (gl_stl (rfl : _ = gx (gw1 q22.2 232 (q22.1).toNat (gn2 0))) e1 (gal_sub (gr2 ((gw1 q22.2 232 (q22.1).toNat (gn2 0)).2 230 (x1).toNat)) kgl_1) ga_230 z28) ?_
            have h := Option.some.inj h
            subst h
            exact gretb (rfl : _ = gx (gw2 (gw1 q22.2 232 (q22.1).toNat (gn2 0)) 230 (x1).toNat (((gw1 q22.2 232 (q22.1).toNat (gn2 0)).2 230 (x1).toNat) - 1)))
def gm_169o (k168 : Int → gx_S → Option (Bool × gx_S)) (k169 : Int → gx_S → Option (Bool × gx_S)) (x1 : Int) (s : gx_S) : Option (Bool × gx_S) :=
  gm_169_2 k168 k169 100000 x1 0 s
theorem gf_169o {kf168 : Int32 → fx_S → Option (Bool × fx_S)} {kf169 : Int32 → fx_S → Option (Bool × fx_S)} {kg168 : Int → gx_S → Option (Bool × gx_S)} {kg169 : Int → gx_S → Option (Bool × gx_S)} (hg168 : ∀ (x1 : Int) (yx1 : Int32) (_ : yx1 = Int32.ofInt x1) (s : gx_S) (σ : fx_S) (_ : σ = gx s) (q : Bool × gx_S), kg168 x1 s = some q → kf168 yx1 σ = some (q.1, gx q.2)) (hg169 : ∀ (x1 : Int) (yx1 : Int32) (_ : yx1 = Int32.ofInt x1) (s : gx_S) (σ : fx_S) (_ : σ = gx s) (q : Bool × gx_S), kg169 x1 s = some q → kf169 yx1 σ = some (q.1, gx q.2)) {x1 : Int} {yx1 : Int32} (e1 : yx1 = Int32.ofInt x1) {s : gx_S} {σ : fx_S} (es : σ = gx s) {q : Bool × gx_S} (h : gm_169o kg168 kg169 x1 s = some q) : fm_169o kf168 kf169 yx1 σ = some (q.1, gx q.2) := by
  unfold gm_169o at h
  unfold fm_169o
  exact gf_169_2 hg168 hg169 100000 _ _ e1 _ _ kg_0 _ _ es _ h

def gm_168f : Nat → Int → gx_S → Option (Bool × gx_S)
  | 0, _, _ => none
  | n + 1, r, s => gm_168o (fun _ _ => none) (fun c t => gm_169o (gm_168f n) (fun _ _ => none) c t) r s
theorem gf_168f : ∀ (n : Nat) (x1 : Int) (yx1 : Int32) (e1 : yx1 = Int32.ofInt x1) (s : gx_S) (σ : fx_S) (es : σ = gx s) (q : Bool × gx_S) (h : gm_168f n x1 s = some q), fm_168f n yx1 σ = some (q.1, gx q.2) := by
  intro n
  induction n with
  | zero => intro x1 y e1 s σ es q h; exact fx_no h
  | succ n ih =>
    intro x1 y e1 s σ es q h
    exact gf_168o (fun _ _ _ _ _ _ _ h => fx_no h) (fun x1 y e1 s σ es q h => gf_169o ih (fun _ _ _ _ _ _ _ h => fx_no h) e1 es h) e1 es h
def gm_168 (x1 : Int) (s : gx_S) : Option (Bool × gx_S) := gm_168f 12 x1 s
theorem gf_168 {x1 : Int} {yx1 : Int32} (e1 : yx1 = Int32.ofInt x1) {s : gx_S} {σ : fx_S} (es : σ = gx s) {q : Bool × gx_S} (h : gm_168 x1 s = some q) : fm_168 yx1 σ = some (q.1, gx q.2) := gf_168f 12 _ _ e1 _ _ es _ h

/-! ZoneSharesModel.fitsFrom(II)V -/
def gm_211_113 (k211 : Int → Int → gx_S → Option (gx_S)) : Nat → Int → gx_S → Option (gx_S)
  | 0, _, _ => none
  | n + 1, x3, s =>
    if (-2147483648 ≤ x3 ∧ x3 ≤ 2147483647) then (
    if 4 ≤ x3 then (
      some s) else (
      if 0 ≤ x3 ∧ x3 < 4 then (
      gm_211_113 k211 n (x3 + 1) (gw1 s 244 (x3).toNat (s.1 243 (x3).toNat))) else none)) else none
theorem gf_211_113 {kf211 : Int32 → Int32 → fx_S → Option (fx_S)} {kg211 : Int → Int → gx_S → Option (gx_S)} (hg211 : ∀ (x1 : Int) (yx1 : Int32) (_ : yx1 = Int32.ofInt x1) (x2 : Int) (yx2 : Int32) (_ : yx2 = Int32.ofInt x2) (s : gx_S) (σ : fx_S) (_ : σ = gx s) (q : gx_S), kg211 x1 x2 s = some q → kf211 yx1 yx2 σ = some (gx q)) : ∀ (n : Nat) (x3 : Int) (yx3 : Int32) (e3 : yx3 = Int32.ofInt x3) (s : gx_S) (σ : fx_S) (es : σ = gx s) (q : gx_S), gm_211_113 kg211 n x3 s = some q → fm_211_113 kf211 n yx3 σ = some (gx q) := by
  intro n
  induction n with
  | zero =>
    intro x3 yx3 e3 s σ es q  h
    rw [gm_211_113] at h
    exact fx_no h
  | succ n ih =>
    intro x3 yx3 e3 s σ es q  h
    rw [gm_211_113] at h
    rw [fm_211_113]
    obtain ⟨z1, h⟩ := fx_gd h
    by_cases c2 : 4 ≤ x3
    · rw [if_pos c2] at h
      refine gb_t ((gc_le kg_4 e3 (by decide) z1).mpr c2) ?_
      have h := Option.some.inj h
      subst h
      exact gretv es
    · rw [if_neg c2] at h
      refine gb_f (fun q => c2 ((gc_le kg_4 e3 (by decide) z1).mp q)) ?_
      obtain ⟨z5, h⟩ := fx_gd h
      refine gb_bind (gl_ld es e3 ga_243 z5) ?_
      refine gb_bind (gl_st es e3 (gr (s.1 243 (x3).toNat)) ga_244 z5) ?_
      exact ih _ _ (ga_add e3 kg_1) _ _ (rfl : _ = gx (gw1 s 244 (x3).toNat (s.1 243 (x3).toNat))) _ h
def gm_211_90 (k211 : Int → Int → gx_S → Option (gx_S)) (s : gx_S) : Option (gx_S) :=
  gm_211_113 k211 100000 0 (gw2 (gw2 (gw1 s 215 43 1) 215 44 ((gw1 s 215 43 1).2 215 40)) 215 45 ((gw2 (gw1 s 215 43 1) 215 44 ((gw1 s 215 43 1).2 215 40)).2 215 41))
theorem gf_211_90 {kf211 : Int32 → Int32 → fx_S → Option (fx_S)} {kg211 : Int → Int → gx_S → Option (gx_S)} (hg211 : ∀ (x1 : Int) (yx1 : Int32) (_ : yx1 = Int32.ofInt x1) (x2 : Int) (yx2 : Int32) (_ : yx2 = Int32.ofInt x2) (s : gx_S) (σ : fx_S) (_ : σ = gx s) (q : gx_S), kg211 x1 x2 s = some q → kf211 yx1 yx2 σ = some (gx q)) (s : gx_S) (σ : fx_S) (es : σ = gx s) (q : gx_S) (h : gm_211_90 kg211 s = some q) : fm_211_90 kf211 σ = some (gx q) := by
  unfold gm_211_90 at h
  unfold fm_211_90
  exact gf_211_113 hg211 100000 _ _ kg_0 _ _ (gx_w2 (gx_w2 (gx_w1 es kg_1) (gf2 (gx_w1 es kg_1) 215 40)) (gf2 (gx_w2 (gx_w1 es kg_1) (gf2 (gx_w1 es kg_1) 215 40)) 215 41)) _ h
def gm_211_24 (k211 : Int → Int → gx_S → Option (gx_S)) : Nat → Int → Int → Int → gx_S → Option (gx_S)
  | 0, _, _, _, _ => none
  | n + 1, x1, x2, x3, s =>
    if (-2147483648 ≤ x3 ∧ x3 ≤ 2147483647) then (
    if 10 ≤ x3 then (
      some s) else (
      if 0 ≤ x2 ∧ x2 < 4 then (
      (k211 x1 (x2 + 1) (gw1 s 243 (x2).toNat x3)).bind fun q7 =>
      gm_211_24 k211 n x1 x2 (x3 + 1) q7) else none)) else none
theorem gf_211_24 {kf211 : Int32 → Int32 → fx_S → Option (fx_S)} {kg211 : Int → Int → gx_S → Option (gx_S)} (hg211 : ∀ (x1 : Int) (yx1 : Int32) (_ : yx1 = Int32.ofInt x1) (x2 : Int) (yx2 : Int32) (_ : yx2 = Int32.ofInt x2) (s : gx_S) (σ : fx_S) (_ : σ = gx s) (q : gx_S), kg211 x1 x2 s = some q → kf211 yx1 yx2 σ = some (gx q)) : ∀ (n : Nat) (x1 : Int) (yx1 : Int32) (e1 : yx1 = Int32.ofInt x1) (x2 : Int) (yx2 : Int32) (e2 : yx2 = Int32.ofInt x2) (x3 : Int) (yx3 : Int32) (e3 : yx3 = Int32.ofInt x3) (s : gx_S) (σ : fx_S) (es : σ = gx s) (q : gx_S), gm_211_24 kg211 n x1 x2 x3 s = some q → fm_211_24 kf211 n yx1 yx2 yx3 σ = some (gx q) := by
  intro n
  induction n with
  | zero =>
    intro x1 yx1 e1 x2 yx2 e2 x3 yx3 e3 s σ es q  h
    rw [gm_211_24] at h
    exact fx_no h
  | succ n ih =>
    intro x1 yx1 e1 x2 yx2 e2 x3 yx3 e3 s σ es q  h
    rw [gm_211_24] at h
    rw [fm_211_24]
    obtain ⟨z1, h⟩ := fx_gd h
    by_cases c2 : 10 ≤ x3
    · rw [if_pos c2] at h
      refine gb_t ((gc_le kg_10 e3 (by decide) z1).mpr c2) ?_
      have h := Option.some.inj h
      subst h
      exact gretv es
    · rw [if_neg c2] at h
      refine gb_f (fun q => c2 ((gc_le kg_10 e3 (by decide) z1).mp q)) ?_
      obtain ⟨z5, h⟩ := fx_gd h
      refine gb_bind (gl_st es e2 e3 ga_243 z5) ?_
      obtain ⟨q7, w6, h⟩ := fx_bd h
      refine gb_bind (hg211 _ _ e1 _ _ (ga_add e2 kg_1) _ _ (rfl : _ = gx (gw1 s 243 (x2).toNat x3)) _ w6) ?_
      exact ih _ _ e1 _ _ e2 _ _ (ga_add e3 kg_1) _ _ (rfl : _ = gx q7) _ h
def gm_211o (k211 : Int → Int → gx_S → Option (gx_S)) (x1 : Int) (x2 : Int) (s : gx_S) : Option (gx_S) :=
  if (-2147483648 ≤ x2 ∧ x2 ≤ 2147483647) then (
  if 4 ≤ x2 then (
    (gm_209 x1 s).bind fun q34 =>
    if (gb q34.1) = 0 then (
      some q34.2) else (
      if (-2147483648 ≤ (q34.2.1 215 43) ∧ (q34.2.1 215 43) ≤ 2147483647) then (
      if (q34.2.1 215 43) = 0 then (
        gm_211_90 k211 q34.2) else (
        if (-9223372036854775808 ≤ ((q34.2.2 215 40) * (q34.2.2 215 45)) ∧ ((q34.2.2 215 40) * (q34.2.2 215 45)) ≤ 9223372036854775807) then (
        if (-9223372036854775808 ≤ ((q34.2.2 215 44) * (q34.2.2 215 41)) ∧ ((q34.2.2 215 44) * (q34.2.2 215 41)) ≤ 9223372036854775807) then (
        if ((q34.2.2 215 40) * (q34.2.2 215 45)) < ((q34.2.2 215 44) * (q34.2.2 215 41)) then (
          gm_211_90 k211 q34.2) else (
          some q34.2)) else none) else none)) else none)) else (
    (gm_207 x2 s).bind fun q42 =>
    if (-2147483648 ≤ q42.1 ∧ q42.1 ≤ 2147483647) then (
    if ¬ q42.1 = 0 then (
      gm_211_24 k211 100000 x1 x2 0 q42.2) else (
      (k211 x1 (x2 + 1) q42.2).bind fun q46 =>
      some q46)) else none)) else none
theorem gf_211o {kf211 : Int32 → Int32 → fx_S → Option (fx_S)} {kg211 : Int → Int → gx_S → Option (gx_S)} (hg211 : ∀ (x1 : Int) (yx1 : Int32) (_ : yx1 = Int32.ofInt x1) (x2 : Int) (yx2 : Int32) (_ : yx2 = Int32.ofInt x2) (s : gx_S) (σ : fx_S) (_ : σ = gx s) (q : gx_S), kg211 x1 x2 s = some q → kf211 yx1 yx2 σ = some (gx q)) {x1 : Int} {yx1 : Int32} (e1 : yx1 = Int32.ofInt x1) {x2 : Int} {yx2 : Int32} (e2 : yx2 = Int32.ofInt x2) {s : gx_S} {σ : fx_S} (es : σ = gx s) {q : gx_S} (h : gm_211o kg211 x1 x2 s = some q) : fm_211o kf211 yx1 yx2 σ = some (gx q) := by
  unfold gm_211o at h
  unfold fm_211o
  obtain ⟨z31, h⟩ := fx_gd h
  by_cases c32 : 4 ≤ x2
  · rw [if_pos c32] at h
    refine gb_t ((gc_le kg_4 e2 (by decide) z31).mpr c32) ?_
    obtain ⟨q34, w33, h⟩ := fx_bd h
    refine gb_bind (gf_209 e1 es w33) ?_
    by_cases c35 : (gb q34.1) = 0
    · rw [if_pos c35] at h
      refine gb_t ((gc_eq (gb_b q34.1) kg_0 (gb_r _) (by decide)).mpr c35) ?_
      have h := Option.some.inj h
      subst h
      exact gretv (rfl : _ = gx q34.2)
    · rw [if_neg c35] at h
      refine gb_f (fun q => c35 ((gc_eq (gb_b q34.1) kg_0 (gb_r _) (by decide)).mp q)) ?_
      obtain ⟨z36, h⟩ := fx_gd h
      by_cases c37 : (q34.2.1 215 43) = 0
      · rw [if_pos c37] at h
        refine gb_t ((gc_eq (gf1 (rfl : _ = gx q34.2) 215 43) kg_0 z36 (by decide)).mpr c37) ?_
        exact gf_211_90 hg211 _ _ (rfl : _ = gx q34.2) _ h
      · rw [if_neg c37] at h
        refine gb_f (fun q => c37 ((gc_eq (gf1 (rfl : _ = gx q34.2) 215 43) kg_0 z36 (by decide)).mp q)) ?_
        obtain ⟨z38, h⟩ := fx_gd h
        obtain ⟨z39, h⟩ := fx_gd h
        by_cases c40 : ((q34.2.2 215 40) * (q34.2.2 215 45)) < ((q34.2.2 215 44) * (q34.2.2 215 41))
        · rw [if_pos c40] at h
          refine gb_t ((gcl_lt (gal_mul (gf2 (rfl : _ = gx q34.2) 215 40) (gf2 (rfl : _ = gx q34.2) 215 45)) (gal_mul (gf2 (rfl : _ = gx q34.2) 215 44) (gf2 (rfl : _ = gx q34.2) 215 41)) z38 z39).mpr c40) ?_
          exact gf_211_90 hg211 _ _ (rfl : _ = gx q34.2) _ h
        · rw [if_neg c40] at h
          refine gb_f (fun q => c40 ((gcl_lt (gal_mul (gf2 (rfl : _ = gx q34.2) 215 40) (gf2 (rfl : _ = gx q34.2) 215 45)) (gal_mul (gf2 (rfl : _ = gx q34.2) 215 44) (gf2 (rfl : _ = gx q34.2) 215 41)) z38 z39).mp q)) ?_
          have h := Option.some.inj h
          subst h
          exact gretv (rfl : _ = gx q34.2)
  · rw [if_neg c32] at h
    refine gb_f (fun q => c32 ((gc_le kg_4 e2 (by decide) z31).mp q)) ?_
    obtain ⟨q42, w41, h⟩ := fx_bd h
    refine gb_bind (gf_207 e2 es w41) ?_
    obtain ⟨z43, h⟩ := fx_gd h
    by_cases c44 : ¬ q42.1 = 0
    · rw [if_pos c44] at h
      refine gb_t ((gc_ne (gr q42.1) kg_0 z43 (by decide)).mpr c44) ?_
      exact gf_211_24 hg211 100000 _ _ e1 _ _ e2 _ _ kg_0 _ _ (rfl : _ = gx q42.2) _ h
    · rw [if_neg c44] at h
      refine gb_f (fun q => c44 ((gc_ne (gr q42.1) kg_0 z43 (by decide)).mp q)) ?_
      obtain ⟨q46, w45, h⟩ := fx_bd h
      refine gb_bind (hg211 _ _ e1 _ _ (ga_add e2 kg_1) _ _ (rfl : _ = gx q42.2) _ w45) ?_
      have h := Option.some.inj h
      subst h
      exact gretv (rfl : _ = gx q46)

def gm_211f : Nat → Int → Int → gx_S → Option (gx_S)
  | 0, _, _, _ => none
  | n + 1, g, l, s => gm_211o (gm_211f n) g l s
theorem gf_211f : ∀ (n : Nat) (x1 : Int) (yx1 : Int32) (e1 : yx1 = Int32.ofInt x1) (x2 : Int) (yx2 : Int32) (e2 : yx2 = Int32.ofInt x2) (s : gx_S) (σ : fx_S) (es : σ = gx s) (q : gx_S) (h : gm_211f n x1 x2 s = some q), fm_211f n yx1 yx2 σ = some (gx q) := by
  intro n
  induction n with
  | zero => intro x1 y1 e1 x2 y2 e2 s σ es q h; exact fx_no h
  | succ n ih =>
    intro x1 y1 e1 x2 y2 e2 s σ es q h
    exact gf_211o ih e1 e2 es h
def gm_211 (x1 x2 : Int) (s : gx_S) : Option (gx_S) := gm_211f 6 x1 x2 s
theorem gf_211 {x1 x2 : Int} {yx1 yx2 : Int32} (e1 : yx1 = Int32.ofInt x1) (e2 : yx2 = Int32.ofInt x2) {s : gx_S} {σ : fx_S} (es : σ = gx s) {q : gx_S} (h : gm_211 x1 x2 s = some q) : fm_211 yx1 yx2 σ = some (gx q) := gf_211f 6 _ _ e1 _ _ e2 _ _ es _ h

/-! ZoneSharesModel.fillsUp()V -/
def gm_170_70 (k_10 : Int → Int → gx_S → Option (gx_S)) (x1 : Int) (x2 : Int) (s : gx_S) : Option (gx_S) :=
  k_10 x1 (x2 + 1) s
theorem gf_170_70 {kf_10 : Int32 → Int32 → fx_S → Option (fx_S)} {kg_10 : Int → Int → gx_S → Option (gx_S)} (hk_10 : ∀ (x1 : Int) (yx1 : Int32) (e1 : yx1 = Int32.ofInt x1) (x2 : Int) (yx2 : Int32) (e2 : yx2 = Int32.ofInt x2) (s : gx_S) (σ : fx_S) (es : σ = gx s) (q : gx_S), kg_10 x1 x2 s = some q → kf_10 yx1 yx2 σ = some (gx q)) (x1 : Int) (yx1 : Int32) (e1 : yx1 = Int32.ofInt x1) (x2 : Int) (yx2 : Int32) (e2 : yx2 = Int32.ofInt x2) (s : gx_S) (σ : fx_S) (es : σ = gx s) (q : gx_S) (h : gm_170_70 kg_10 x1 x2 s = some q) : fm_170_70 kf_10 yx1 yx2 σ = some (gx q) := by
  unfold gm_170_70 at h
  unfold fm_170_70
  exact hk_10 _ _ e1 _ _ (ga_add e2 kg_1) _ _ es _ h
def gm_170_20 (k_10 : Int → Int → gx_S → Option (gx_S)) : Nat → Int → Int → Int → gx_S → Option (gx_S)
  | 0, _, _, _, _ => none
  | n + 1, x1, x2, x3, s =>
    if (-2147483648 ≤ x3 ∧ x3 ≤ 2147483647) then (
    if 9 ≤ x3 then (
      if 0 ≤ x2 ∧ x2 < 8 then (
      if (-9223372036854775808 ≤ (s.2 231 (x2).toNat) ∧ (s.2 231 (x2).toNat) ≤ 9223372036854775807) then (
      if (s.2 231 (x2).toNat) ≤ 0 then (
        gm_170_70 k_10 x1 x2 s) else (
        (gm_168 x2 s).bind fun q9 =>
        if (gb q9.1) = 0 then (
          gm_170_70 k_10 x1 x2 q9.2) else (
          gm_170_70 k_10 1 x2 (gw2 q9.2 231 (x2).toNat ((q9.2.2 231 (x2).toNat) - 1))))) else none) else none) else (
      if 0 ≤ x3 ∧ x3 < 9 then (
      gm_170_20 k_10 n x1 x2 (x3 + 1) (gw1 s 235 (x3).toNat (gn2 0))) else none)) else none
theorem gf_170_20 {kf_10 : Int32 → Int32 → fx_S → Option (fx_S)} {kg_10 : Int → Int → gx_S → Option (gx_S)} (hk_10 : ∀ (x1 : Int) (yx1 : Int32) (e1 : yx1 = Int32.ofInt x1) (x2 : Int) (yx2 : Int32) (e2 : yx2 = Int32.ofInt x2) (s : gx_S) (σ : fx_S) (es : σ = gx s) (q : gx_S), kg_10 x1 x2 s = some q → kf_10 yx1 yx2 σ = some (gx q)) : ∀ (n : Nat) (x1 : Int) (yx1 : Int32) (e1 : yx1 = Int32.ofInt x1) (x2 : Int) (yx2 : Int32) (e2 : yx2 = Int32.ofInt x2) (x3 : Int) (yx3 : Int32) (e3 : yx3 = Int32.ofInt x3) (s : gx_S) (σ : fx_S) (es : σ = gx s) (q : gx_S), gm_170_20 kg_10 n x1 x2 x3 s = some q → fm_170_20 kf_10 n yx1 yx2 yx3 σ = some (gx q) := by
  intro n
  induction n with
  | zero =>
    intro x1 yx1 e1 x2 yx2 e2 x3 yx3 e3 s σ es q  h
    rw [gm_170_20] at h
    exact fx_no h
  | succ n ih =>
    intro x1 yx1 e1 x2 yx2 e2 x3 yx3 e3 s σ es q  h
    rw [gm_170_20] at h
    rw [fm_170_20]
    obtain ⟨z1, h⟩ := fx_gd h
    by_cases c2 : 9 ≤ x3
    · rw [if_pos c2] at h
      refine gb_t ((gc_le kg_9 e3 (by decide) z1).mpr c2) ?_
      obtain ⟨z5, h⟩ := fx_gd h
      refine gb_bind (gl_ldl es e2 ga_231 z5) ?_
      obtain ⟨z6, h⟩ := fx_gd h
      by_cases c7 : (s.2 231 (x2).toNat) ≤ 0
      · rw [if_pos c7] at h
        refine gb_t ((gcl_le (gr2 (s.2 231 (x2).toNat)) kgl_0 z6 (by decide)).mpr c7) ?_
        exact gf_170_70 hk_10 _ _ e1 _ _ e2 _ _ es _ h
      · rw [if_neg c7] at h
        refine gb_f (fun q => c7 ((gcl_le (gr2 (s.2 231 (x2).toNat)) kgl_0 z6 (by decide)).mp q)) ?_
        obtain ⟨q9, w8, h⟩ := fx_bd h
        refine gb_bind (gf_168 e2 es w8) ?_
        by_cases c10 : (gb q9.1) = 0
        · rw [if_pos c10] at h
          refine gb_t ((gc_eq (gb_b q9.1) kg_0 (gb_r _) (by decide)).mpr c10) ?_
          exact gf_170_70 hk_10 _ _ e1 _ _ e2 _ _ (rfl : _ = gx q9.2) _ h
        · rw [if_neg c10] at h
          refine gb_f (fun q => c10 ((gc_eq (gb_b q9.1) kg_0 (gb_r _) (by decide)).mp q)) ?_
          refine gb_bind (gl_ldl (rfl : _ = gx q9.2) e2 ga_231 z5) ?_
          refine gb_bind (gl_stl (rfl : _ = gx q9.2) e2 (gal_sub (gr2 (q9.2.2 231 (x2).toNat)) kgl_1) ga_231 z5) ?_
          exact gf_170_70 hk_10 _ _ kg_1 _ _ e2 _ _ (rfl : _ = gx (gw2 q9.2 231 (x2).toNat ((q9.2.2 231 (x2).toNat) - 1))) _ h
    · rw [if_neg c2] at h
      refine gb_f (fun q => c2 ((gc_le kg_9 e3 (by decide) z1).mp q)) ?_
      obtain ⟨z17, h⟩ := fx_gd h
      refine gb_bind (gl_stb2 es e3 kg_0 ga_235 z17) ?_
      exact ih _ _ e1 _ _ e2 _ _ (ga_add e3 kg_1) _ _ (rfl : _ = gx (gw1 s 235 (x3).toNat (gn2 0))) _ h
def gm_170_10 (k_2 : Int → gx_S → Option (gx_S)) : Nat → Int → Int → gx_S → Option (gx_S)
  | 0, _, _, _ => none
  | n + 1, x1, x2, s =>
    if (-2147483648 ≤ x2 ∧ x2 ≤ 2147483647) then (
    if (-2147483648 ≤ (s.1 215 17) ∧ (s.1 215 17) ≤ 2147483647) then (
    if (s.1 215 17) ≤ x2 then (
      k_2 x1 s) else (
      gm_170_20 (gm_170_10 k_2 n) 100000 x1 x2 0 s)) else none) else none
theorem gf_170_10 {kf_2 : Int32 → fx_S → Option (fx_S)} {kg_2 : Int → gx_S → Option (gx_S)} (hk_2 : ∀ (x1 : Int) (yx1 : Int32) (e1 : yx1 = Int32.ofInt x1) (s : gx_S) (σ : fx_S) (es : σ = gx s) (q : gx_S), kg_2 x1 s = some q → kf_2 yx1 σ = some (gx q)) : ∀ (n : Nat) (x1 : Int) (yx1 : Int32) (e1 : yx1 = Int32.ofInt x1) (x2 : Int) (yx2 : Int32) (e2 : yx2 = Int32.ofInt x2) (s : gx_S) (σ : fx_S) (es : σ = gx s) (q : gx_S), gm_170_10 kg_2 n x1 x2 s = some q → fm_170_10 kf_2 n yx1 yx2 σ = some (gx q) := by
  intro n
  induction n with
  | zero =>
    intro x1 yx1 e1 x2 yx2 e2 s σ es q  h
    rw [gm_170_10] at h
    exact fx_no h
  | succ n ih =>
    intro x1 yx1 e1 x2 yx2 e2 s σ es q  h
    rw [gm_170_10] at h
    rw [fm_170_10]
    obtain ⟨z1, h⟩ := fx_gd h
    obtain ⟨z2, h⟩ := fx_gd h
    by_cases c3 : (s.1 215 17) ≤ x2
    · rw [if_pos c3] at h
      refine gb_t ((gc_le (gf1 es 215 17) e2 z2 z1).mpr c3) ?_
      exact hk_2 _ _ e1 _ _ es _ h
    · rw [if_neg c3] at h
      refine gb_f (fun q => c3 ((gc_le (gf1 es 215 17) e2 z2 z1).mp q)) ?_
      exact gf_170_20 ih 100000 _ _ e1 _ _ e2 _ _ kg_0 _ _ es _ h
def gm_170_2 : Nat → Int → gx_S → Option (gx_S)
  | 0, _, _ => none
  | n + 1, x1, s =>
    if (-2147483648 ≤ x1 ∧ x1 ≤ 2147483647) then (
    if x1 = 0 then (
      some s) else (
      gm_170_10 (gm_170_2 n) 100000 0 0 s)) else none
theorem gf_170_2 : ∀ (n : Nat) (x1 : Int) (yx1 : Int32) (e1 : yx1 = Int32.ofInt x1) (s : gx_S) (σ : fx_S) (es : σ = gx s) (q : gx_S), gm_170_2 n x1 s = some q → fm_170_2 n yx1 σ = some (gx q) := by
  intro n
  induction n with
  | zero =>
    intro x1 yx1 e1 s σ es q  h
    rw [gm_170_2] at h
    exact fx_no h
  | succ n ih =>
    intro x1 yx1 e1 s σ es q  h
    rw [gm_170_2] at h
    rw [fm_170_2]
    obtain ⟨z1, h⟩ := fx_gd h
    by_cases c2 : x1 = 0
    · rw [if_pos c2] at h
      refine gb_t ((gc_eq e1 kg_0 z1 (by decide)).mpr c2) ?_
      have h := Option.some.inj h
      subst h
      exact gretv es
    · rw [if_neg c2] at h
      refine gb_f (fun q => c2 ((gc_eq e1 kg_0 z1 (by decide)).mp q)) ?_
      exact gf_170_10 ih 100000 _ _ kg_0 _ _ kg_0 _ _ es _ h
def gm_170 (s : gx_S) : Option (gx_S) :=
  gm_170_2 100000 1 s
theorem gf_170 {s : gx_S} {σ : fx_S} (es : σ = gx s) {q : gx_S} (h : gm_170 s = some q) : fm_170 σ = some (gx q) := by
  unfold gm_170 at h
  unfold fm_170
  exact gf_170_2 100000 _ _ kg_1 _ _ es _ h

/-! ZoneSharesModel.canBe()Z -/
def gm_171_254 : Nat → Int → gx_S → Option (Bool × gx_S)
  | 0, _, _ => none
  | n + 1, x1, s =>
    if (-2147483648 ≤ x1 ∧ x1 ≤ 2147483647) then (
    if (-2147483648 ≤ (s.1 215 17) ∧ (s.1 215 17) ≤ 2147483647) then (
    if (s.1 215 17) ≤ x1 then (
      some (true, s)) else (
      if 0 ≤ x1 ∧ x1 < 8 then (
      if (-9223372036854775808 ≤ (s.2 231 (x1).toNat) ∧ (s.2 231 (x1).toNat) ≤ 9223372036854775807) then (
      if (s.2 231 (x1).toNat) = 0 then (
        gm_171_254 n (x1 + 1) s) else (
        some (false, s))) else none) else none)) else none) else none
theorem gf_171_254 : ∀ (n : Nat) (x1 : Int) (yx1 : Int32) (e1 : yx1 = Int32.ofInt x1) (s : gx_S) (σ : fx_S) (es : σ = gx s) (q : Bool × gx_S), gm_171_254 n x1 s = some q → fm_171_254 n yx1 σ = some (q.1, gx q.2) := by
  intro n
  induction n with
  | zero =>
    intro x1 yx1 e1 s σ es q  h
    rw [gm_171_254] at h
    exact fx_no h
  | succ n ih =>
    intro x1 yx1 e1 s σ es q  h
    rw [gm_171_254] at h
    rw [fm_171_254]
    obtain ⟨z1, h⟩ := fx_gd h
    obtain ⟨z2, h⟩ := fx_gd h
    by_cases c3 : (s.1 215 17) ≤ x1
    · rw [if_pos c3] at h
      refine gb_t ((gc_le (gf1 es 215 17) e1 z2 z1).mpr c3) ?_
      have h := Option.some.inj h
      subst h
      exact gretb es
    · rw [if_neg c3] at h
      refine gb_f (fun q => c3 ((gc_le (gf1 es 215 17) e1 z2 z1).mp q)) ?_
      obtain ⟨z6, h⟩ := fx_gd h
      refine gb_bind (gl_ldl es e1 ga_231 z6) ?_
      obtain ⟨z7, h⟩ := fx_gd h
      by_cases c8 : (s.2 231 (x1).toNat) = 0
      · rw [if_pos c8] at h
        refine gb_t ((gcl_eq (gr2 (s.2 231 (x1).toNat)) kgl_0 z7 (by decide)).mpr c8) ?_
        exact ih _ _ (ga_add e1 kg_1) _ _ es _ h
      · rw [if_neg c8] at h
        refine gb_f (fun q => c8 ((gcl_eq (gr2 (s.2 231 (x1).toNat)) kgl_0 z7 (by decide)).mp q)) ?_
        have h := Option.some.inj h
        subst h
        exact gretb es
def gm_171_188 : Nat → Int → gx_S → Option (Bool × gx_S)
  | 0, _, _ => none
  | n + 1, x1, s =>
    if (-2147483648 ≤ x1 ∧ x1 ≤ 2147483647) then (
    if (-2147483648 ≤ (s.1 215 18) ∧ (s.1 215 18) ≤ 2147483647) then (
    if (s.1 215 18) ≤ x1 then (
      (gm_170 s).bind fun q5 =>
      gm_171_254 100000 0 q5) else (
      if 0 ≤ x1 ∧ x1 < 9 then (
      if (-9223372036854775808 ≤ (s.2 230 (x1).toNat) ∧ (s.2 230 (x1).toNat) ≤ 9223372036854775807) then (
      if (-9223372036854775808 ≤ (s.2 227 (x1).toNat) ∧ (s.2 227 (x1).toNat) ≤ 9223372036854775807) then (
      if (s.2 230 (x1).toNat) < (s.2 227 (x1).toNat) then (
        some (false, s)) else (
        if (-9223372036854775808 ≤ (s.2 228 (x1).toNat) ∧ (s.2 228 (x1).toNat) ≤ 9223372036854775807) then (
        if (s.2 230 (x1).toNat) ≤ (s.2 228 (x1).toNat) then (
          gm_171_188 n (x1 + 1) (gw2 s 229 (x1).toNat (s.2 228 (x1).toNat))) else (
          some (false, s))) else none)) else none) else none) else none)) else none) else none
theorem gf_171_188 : ∀ (n : Nat) (x1 : Int) (yx1 : Int32) (e1 : yx1 = Int32.ofInt x1) (s : gx_S) (σ : fx_S) (es : σ = gx s) (q : Bool × gx_S), gm_171_188 n x1 s = some q → fm_171_188 n yx1 σ = some (q.1, gx q.2) := by
  intro n
  induction n with
  | zero =>
    intro x1 yx1 e1 s σ es q  h
    rw [gm_171_188] at h
    exact fx_no h
  | succ n ih =>
    intro x1 yx1 e1 s σ es q  h
    rw [gm_171_188] at h
    rw [fm_171_188]
    obtain ⟨z1, h⟩ := fx_gd h
    obtain ⟨z2, h⟩ := fx_gd h
    by_cases c3 : (s.1 215 18) ≤ x1
    · rw [if_pos c3] at h
      refine gb_t ((gc_le (gf1 es 215 18) e1 z2 z1).mpr c3) ?_
      obtain ⟨q5, w4, h⟩ := fx_bd h
      refine gb_bind (gf_170 es w4) ?_
      exact gf_171_254 100000 _ _ kg_0 _ _ (rfl : _ = gx q5) _ h
    · rw [if_neg c3] at h
      refine gb_f (fun q => c3 ((gc_le (gf1 es 215 18) e1 z2 z1).mp q)) ?_
      obtain ⟨z8, h⟩ := fx_gd h
      refine gb_bind (gl_ldl es e1 ga_230 z8) ?_
      refine gb_bind (gl_ldl es e1 ga_227 z8) ?_
      obtain ⟨z11, h⟩ := fx_gd h
      obtain ⟨z12, h⟩ := fx_gd h
      by_cases c13 : (s.2 230 (x1).toNat) < (s.2 227 (x1).toNat)
      · rw [if_pos c13] at h
        refine gb_t ((gcl_lt (gr2 (s.2 230 (x1).toNat)) (gr2 (s.2 227 (x1).toNat)) z11 z12).mpr c13) ?_
        have h := Option.some.inj h
        subst h
        exact gretb es
      · rw [if_neg c13] at h
        refine gb_f (fun q => c13 ((gcl_lt (gr2 (s.2 230 (x1).toNat)) (gr2 (s.2 227 (x1).toNat)) z11 z12).mp q)) ?_
        refine gb_bind (gl_ldl es e1 ga_230 z8) ?_
        refine gb_bind (gl_ldl es e1 ga_228 z8) ?_
        obtain ⟨z18, h⟩ := fx_gd h
        by_cases c19 : (s.2 230 (x1).toNat) ≤ (s.2 228 (x1).toNat)
        · rw [if_pos c19] at h
          refine gb_t ((gcl_le (gr2 (s.2 230 (x1).toNat)) (gr2 (s.2 228 (x1).toNat)) z11 z18).mpr c19) ?_
          refine gb_bind (gl_ldl es e1 ga_228 z8) ?_
          refine gb_bind (gl_stl es e1 (gr2 (s.2 228 (x1).toNat)) ga_229 z8) ?_
          exact ih _ _ (ga_add e1 kg_1) _ _ (rfl : _ = gx (gw2 s 229 (x1).toNat (s.2 228 (x1).toNat))) _ h
        · rw [if_neg c19] at h
          refine gb_f (fun q => c19 ((gcl_le (gr2 (s.2 230 (x1).toNat)) (gr2 (s.2 228 (x1).toNat)) z11 z18).mp q)) ?_
          have h := Option.some.inj h
          subst h
          exact gretb es
def gm_171_123 (k_75 : Int → Int → gx_S → Option (Bool × gx_S)) (x1 : Int) (x2 : Int) (s1 : Int) (s2 : Int) (s : gx_S) : Option (Bool × gx_S) :=
  if 0 ≤ s1 ∧ s1 < 72 then (
  if 0 ≤ x1 ∧ x1 < 8 then (
  (gm_160 x1 x2 (gw1 s 232 (s1).toNat (gn2 s2))).bind fun q8 =>
  if 0 ≤ q8.1 ∧ q8.1 < 72 then (
  (gm_131 (q8.2.1 232 (q8.1).toNat) q8.2).bind fun q13 =>
  if (-2147483648 ≤ q13.1 ∧ q13.1 ≤ 2147483647) then (
  if 0 ≤ x2 ∧ x2 < 9 then (
  (gm_160 x1 x2 (gw2 q13.2 231 (x1).toNat (((gw1 s 232 (s1).toNat (gn2 s2)).2 231 (x1).toNat) - q13.1))).bind fun q21 =>
  if 0 ≤ q21.1 ∧ q21.1 < 72 then (
  (gm_131 (q21.2.1 232 (q21.1).toNat) q21.2).bind fun q26 =>
  if (-2147483648 ≤ q26.1 ∧ q26.1 ≤ 2147483647) then (
  k_75 x1 (x2 + 1) (gw2 q26.2 230 (x2).toNat (((gw2 q13.2 231 (x1).toNat (((gw1 s 232 (s1).toNat (gn2 s2)).2 231 (x1).toNat) - q13.1)).2 230 (x2).toNat) + q26.1))) else none) else none) else none) else none) else none) else none) else none
theorem gf_171_123 {kf_75 : Int32 → Int32 → fx_S → Option (Bool × fx_S)} {kg_75 : Int → Int → gx_S → Option (Bool × gx_S)} (hk_75 : ∀ (x1 : Int) (yx1 : Int32) (e1 : yx1 = Int32.ofInt x1) (x2 : Int) (yx2 : Int32) (e2 : yx2 = Int32.ofInt x2) (s : gx_S) (σ : fx_S) (es : σ = gx s) (q : Bool × gx_S), kg_75 x1 x2 s = some q → kf_75 yx1 yx2 σ = some (q.1, gx q.2)) (x1 : Int) (yx1 : Int32) (e1 : yx1 = Int32.ofInt x1) (x2 : Int) (yx2 : Int32) (e2 : yx2 = Int32.ofInt x2) (s1 : Int) (ys1 : Int32) (es1 : ys1 = Int32.ofInt s1) (s2 : Int) (ys2 : Int32) (es2 : ys2 = Int32.ofInt s2) (s : gx_S) (σ : fx_S) (es : σ = gx s) (q : Bool × gx_S) (h : gm_171_123 kg_75 x1 x2 s1 s2 s = some q) : fm_171_123 kf_75 yx1 yx2 ys1 ys2 σ = some (q.1, gx q.2) := by
  unfold gm_171_123 at h
  unfold fm_171_123
  obtain ⟨z3, h⟩ := fx_gd h
  refine gb_bind (gl_stb2 es es1 es2 ga_232 z3) ?_
  obtain ⟨z6, h⟩ := fx_gd h
  refine gb_bind (gl_ldl (rfl : _ = gx (gw1 s 232 (s1).toNat (gn2 s2))) e1 ga_231 z6) ?_
  obtain ⟨q8, w7, h⟩ := fx_bd h
  refine gb_bind (gf_160 e1 e2 (rfl : _ = gx (gw1 s 232 (s1).toNat (gn2 s2))) w7) ?_
  obtain ⟨z11, h⟩ := fx_gd h
  refine gb_bind (gl_ldb2 (rfl : _ = gx q8.2) (gr q8.1) ga_232 z11) ?_
  obtain ⟨q13, w12, h⟩ := fx_bd h
  refine gb_bind (gf_131 (gr (q8.2.1 232 (q8.1).toNat)) (rfl : _ = gx q8.2) w12) ?_
  obtain ⟨z14, h⟩ := fx_gd h
  refine gb_bind (gl_stl (rfl : _ = gx q13.2) e1 (gal_sub (gr2 ((gw1 s 232 (s1).toNat (gn2 s2)).2 231 (x1).toNat)) (ga_i2l (gr q13.1) z14)) ga_231 z6) ?_
  obtain ⟨z19, h⟩ := fx_gd h
  refine gb_bind (gl_ldl (rfl : _ = gx (gw2 q13.2 231 (x1).toNat (((gw1 s 232 (s1).toNat (gn2 s2)).2 231 (x1).toNat) - q13.1))) e2 ga_230 z19) ?_
  obtain ⟨q21, w20, h⟩ := fx_bd h
  refine gb_bind (gf_160 e1 e2 (rfl : _ = gx (gw2 q13.2 231 (x1).toNat (((gw1 s 232 (s1).toNat (gn2 s2)).2 231 (x1).toNat) - q13.1))) w20) ?_
  obtain ⟨z24, h⟩ := fx_gd h
  refine gb_bind (gl_ldb2 (rfl : _ = gx q21.2) (gr q21.1) ga_232 z24) ?_
  obtain ⟨q26, w25, h⟩ := fx_bd h
  refine gb_bind (gf_131 (gr (q21.2.1 232 (q21.1).toNat)) (rfl : _ = gx q21.2) w25) ?_
  obtain ⟨z27, h⟩ := fx_gd h
  refine gb_bind (gl_stl (rfl : _ = gx q26.2) e2 (gal_add (gr2 ((gw2 q13.2 231 (x1).toNat (((gw1 s 232 (s1).toNat (gn2 s2)).2 231 (x1).toNat) - q13.1)).2 230 (x2).toNat)) (ga_i2l (gr q26.1) z27)) ga_230 z19) ?_
  exact hk_75 _ _ e1 _ _ (ga_add e2 kg_1) _ _ (rfl : _ = gx (gw2 q26.2 230 (x2).toNat (((gw2 q13.2 231 (x1).toNat (((gw1 s 232 (s1).toNat (gn2 s2)).2 231 (x1).toNat) - q13.1)).2 230 (x2).toNat) + q26.1))) _ h
def gm_171_75 (k_65 : Int → gx_S → Option (Bool × gx_S)) : Nat → Int → Int → gx_S → Option (Bool × gx_S)
  | 0, _, _, _ => none
  | n + 1, x1, x2, s =>
    if (-2147483648 ≤ x2 ∧ x2 ≤ 2147483647) then (
    if (-2147483648 ≤ (s.1 215 18) ∧ (s.1 215 18) ≤ 2147483647) then (
    if (s.1 215 18) ≤ x2 then (
      k_65 (x1 + 1) s) else (
      (gm_160 x1 x2 s).bind fun q5 =>
      (gm_160 x1 x2 q5.2).bind fun q7 =>
      if 0 ≤ q7.1 ∧ q7.1 < 72 then (
      if (-2147483648 ≤ (q7.2.1 233 (q7.1).toNat) ∧ (q7.2.1 233 (q7.1).toNat) ≤ 2147483647) then (
      if (q7.2.1 233 (q7.1).toNat) = 0 then (
        gm_171_123 (gm_171_75 k_65 n) x1 x2 q5.1 0 q7.2) else (
        (gm_160 x1 x2 q7.2).bind fun q14 =>
        if 0 ≤ q14.1 ∧ q14.1 < 72 then (
        if (-2147483648 ≤ (q14.2.1 234 (q14.1).toNat) ∧ (q14.2.1 234 (q14.1).toNat) ≤ 2147483647) then (
        if (q14.2.1 234 (q14.1).toNat) = 0 then (
          gm_171_123 (gm_171_75 k_65 n) x1 x2 q5.1 0 q14.2) else (
          gm_171_123 (gm_171_75 k_65 n) x1 x2 q5.1 1 q14.2)) else none) else none)) else none) else none)) else none) else none
theorem gf_171_75 {kf_65 : Int32 → fx_S → Option (Bool × fx_S)} {kg_65 : Int → gx_S → Option (Bool × gx_S)} (hk_65 : ∀ (x1 : Int) (yx1 : Int32) (e1 : yx1 = Int32.ofInt x1) (s : gx_S) (σ : fx_S) (es : σ = gx s) (q : Bool × gx_S), kg_65 x1 s = some q → kf_65 yx1 σ = some (q.1, gx q.2)) : ∀ (n : Nat) (x1 : Int) (yx1 : Int32) (e1 : yx1 = Int32.ofInt x1) (x2 : Int) (yx2 : Int32) (e2 : yx2 = Int32.ofInt x2) (s : gx_S) (σ : fx_S) (es : σ = gx s) (q : Bool × gx_S), gm_171_75 kg_65 n x1 x2 s = some q → fm_171_75 kf_65 n yx1 yx2 σ = some (q.1, gx q.2) := by
  intro n
  induction n with
  | zero =>
    intro x1 yx1 e1 x2 yx2 e2 s σ es q  h
    rw [gm_171_75] at h
    exact fx_no h
  | succ n ih =>
    intro x1 yx1 e1 x2 yx2 e2 s σ es q  h
    rw [gm_171_75] at h
    rw [fm_171_75]
    obtain ⟨z1, h⟩ := fx_gd h
    obtain ⟨z2, h⟩ := fx_gd h
    by_cases c3 : (s.1 215 18) ≤ x2
    · rw [if_pos c3] at h
      refine gb_t ((gc_le (gf1 es 215 18) e2 z2 z1).mpr c3) ?_
      exact hk_65 _ _ (ga_add e1 kg_1) _ _ es _ h
    · rw [if_neg c3] at h
      refine gb_f (fun q => c3 ((gc_le (gf1 es 215 18) e2 z2 z1).mp q)) ?_
      obtain ⟨q5, w4, h⟩ := fx_bd h
      refine gb_bind (gf_160 e1 e2 es w4) ?_
      obtain ⟨q7, w6, h⟩ := fx_bd h
      refine gb_bind (gf_160 e1 e2 (rfl : _ = gx q5.2) w6) ?_
      obtain ⟨z10, h⟩ := fx_gd h
      refine gb_bind (gl_ldb2 (rfl : _ = gx q7.2) (gr q7.1) ga_233 z10) ?_
      obtain ⟨z11, h⟩ := fx_gd h
      by_cases c12 : (q7.2.1 233 (q7.1).toNat) = 0
      · rw [if_pos c12] at h
        refine gb_t ((gc_eq (gr (q7.2.1 233 (q7.1).toNat)) kg_0 z11 (by decide)).mpr c12) ?_
        exact gf_171_123 ih _ _ e1 _ _ e2 _ _ (gr q5.1) _ _ kg_0 _ _ (rfl : _ = gx q7.2) _ h
      · rw [if_neg c12] at h
        refine gb_f (fun q => c12 ((gc_eq (gr (q7.2.1 233 (q7.1).toNat)) kg_0 z11 (by decide)).mp q)) ?_
        obtain ⟨q14, w13, h⟩ := fx_bd h
        refine gb_bind (gf_160 e1 e2 (rfl : _ = gx q7.2) w13) ?_
        obtain ⟨z17, h⟩ := fx_gd h
        refine gb_bind (gl_ldb2 (rfl : _ = gx q14.2) (gr q14.1) ga_234 z17) ?_
        obtain ⟨z18, h⟩ := fx_gd h
        by_cases c19 : (q14.2.1 234 (q14.1).toNat) = 0
        · rw [if_pos c19] at h
          refine gb_t ((gc_eq (gr (q14.2.1 234 (q14.1).toNat)) kg_0 z18 (by decide)).mpr c19) ?_
          exact gf_171_123 ih _ _ e1 _ _ e2 _ _ (gr q5.1) _ _ kg_0 _ _ (rfl : _ = gx q14.2) _ h
        · rw [if_neg c19] at h
          refine gb_f (fun q => c19 ((gc_eq (gr (q14.2.1 234 (q14.1).toNat)) kg_0 z18 (by decide)).mp q)) ?_
          exact gf_171_123 ih _ _ e1 _ _ e2 _ _ (gr q5.1) _ _ kg_1 _ _ (rfl : _ = gx q14.2) _ h
def gm_171_65 : Nat → Int → gx_S → Option (Bool × gx_S)
  | 0, _, _ => none
  | n + 1, x1, s =>
    if (-2147483648 ≤ x1 ∧ x1 ≤ 2147483647) then (
    if (-2147483648 ≤ (s.1 215 17) ∧ (s.1 215 17) ≤ 2147483647) then (
    if (s.1 215 17) ≤ x1 then (
      (gm_170 s).bind fun q5 =>
      gm_171_188 100000 0 q5) else (
      gm_171_75 (gm_171_65 n) 100000 x1 0 s)) else none) else none
theorem gf_171_65 : ∀ (n : Nat) (x1 : Int) (yx1 : Int32) (e1 : yx1 = Int32.ofInt x1) (s : gx_S) (σ : fx_S) (es : σ = gx s) (q : Bool × gx_S), gm_171_65 n x1 s = some q → fm_171_65 n yx1 σ = some (q.1, gx q.2) := by
  intro n
  induction n with
  | zero =>
    intro x1 yx1 e1 s σ es q  h
    rw [gm_171_65] at h
    exact fx_no h
  | succ n ih =>
    intro x1 yx1 e1 s σ es q  h
    rw [gm_171_65] at h
    rw [fm_171_65]
    obtain ⟨z1, h⟩ := fx_gd h
    obtain ⟨z2, h⟩ := fx_gd h
    by_cases c3 : (s.1 215 17) ≤ x1
    · rw [if_pos c3] at h
      refine gb_t ((gc_le (gf1 es 215 17) e1 z2 z1).mpr c3) ?_
      obtain ⟨q5, w4, h⟩ := fx_bd h
      refine gb_bind (gf_170 es w4) ?_
      exact gf_171_188 100000 _ _ kg_0 _ _ (rfl : _ = gx q5) _ h
    · rw [if_neg c3] at h
      refine gb_f (fun q => c3 ((gc_le (gf1 es 215 17) e1 z2 z1).mp q)) ?_
      exact gf_171_75 ih 100000 _ _ e1 _ _ kg_0 _ _ es _ h
def gm_171_30 : Nat → Int → gx_S → Option (Bool × gx_S)
  | 0, _, _ => none
  | n + 1, x1, s =>
    if (-2147483648 ≤ x1 ∧ x1 ≤ 2147483647) then (
    if (-2147483648 ≤ (s.1 215 18) ∧ (s.1 215 18) ≤ 2147483647) then (
    if (s.1 215 18) ≤ x1 then (
      gm_171_65 100000 0 s) else (
      if 0 ≤ x1 ∧ x1 < 9 then (
      gm_171_30 n (x1 + 1) (gw2 (gw2 s 230 (x1).toNat 0) 229 (x1).toNat ((gw2 s 230 (x1).toNat 0).2 227 (x1).toNat))) else none)) else none) else none
theorem gf_171_30 : ∀ (n : Nat) (x1 : Int) (yx1 : Int32) (e1 : yx1 = Int32.ofInt x1) (s : gx_S) (σ : fx_S) (es : σ = gx s) (q : Bool × gx_S), gm_171_30 n x1 s = some q → fm_171_30 n yx1 σ = some (q.1, gx q.2) := by
  intro n
  induction n with
  | zero =>
    intro x1 yx1 e1 s σ es q  h
    rw [gm_171_30] at h
    exact fx_no h
  | succ n ih =>
    intro x1 yx1 e1 s σ es q  h
    rw [gm_171_30] at h
    rw [fm_171_30]
    obtain ⟨z1, h⟩ := fx_gd h
    obtain ⟨z2, h⟩ := fx_gd h
    by_cases c3 : (s.1 215 18) ≤ x1
    · rw [if_pos c3] at h
      refine gb_t ((gc_le (gf1 es 215 18) e1 z2 z1).mpr c3) ?_
      exact gf_171_65 100000 _ _ kg_0 _ _ es _ h
    · rw [if_neg c3] at h
      refine gb_f (fun q => c3 ((gc_le (gf1 es 215 18) e1 z2 z1).mp q)) ?_
      obtain ⟨z6, h⟩ := fx_gd h
      refine gb_bind (gl_stl es e1 kgl_0 ga_230 z6) ?_
      refine gb_bind (gl_ldl (rfl : _ = gx (gw2 s 230 (x1).toNat 0)) e1 ga_227 z6) ?_
      refine gb_bind (gl_stl (rfl : _ = gx (gw2 s 230 (x1).toNat 0)) e1 (gr2 ((gw2 s 230 (x1).toNat 0).2 227 (x1).toNat)) ga_229 z6) ?_
      exact ih _ _ (ga_add e1 kg_1) _ _ (rfl : _ = gx (gw2 (gw2 s 230 (x1).toNat 0) 229 (x1).toNat ((gw2 s 230 (x1).toNat 0).2 227 (x1).toNat))) _ h
def gm_171_2 : Nat → Int → gx_S → Option (Bool × gx_S)
  | 0, _, _ => none
  | n + 1, x1, s =>
    if (-2147483648 ≤ x1 ∧ x1 ≤ 2147483647) then (
    if (-2147483648 ≤ (s.1 215 17) ∧ (s.1 215 17) ≤ 2147483647) then (
    if (s.1 215 17) ≤ x1 then (
      gm_171_30 100000 0 s) else (
      if 0 ≤ x1 ∧ x1 < 8 then (
      gm_171_2 n (x1 + 1) (gw2 s 231 (x1).toNat (s.2 226 (x1).toNat))) else none)) else none) else none
theorem gf_171_2 : ∀ (n : Nat) (x1 : Int) (yx1 : Int32) (e1 : yx1 = Int32.ofInt x1) (s : gx_S) (σ : fx_S) (es : σ = gx s) (q : Bool × gx_S), gm_171_2 n x1 s = some q → fm_171_2 n yx1 σ = some (q.1, gx q.2) := by
  intro n
  induction n with
  | zero =>
    intro x1 yx1 e1 s σ es q  h
    rw [gm_171_2] at h
    exact fx_no h
  | succ n ih =>
    intro x1 yx1 e1 s σ es q  h
    rw [gm_171_2] at h
    rw [fm_171_2]
    obtain ⟨z1, h⟩ := fx_gd h
    obtain ⟨z2, h⟩ := fx_gd h
    by_cases c3 : (s.1 215 17) ≤ x1
    · rw [if_pos c3] at h
      refine gb_t ((gc_le (gf1 es 215 17) e1 z2 z1).mpr c3) ?_
      exact gf_171_30 100000 _ _ kg_0 _ _ es _ h
    · rw [if_neg c3] at h
      refine gb_f (fun q => c3 ((gc_le (gf1 es 215 17) e1 z2 z1).mp q)) ?_
      obtain ⟨z6, h⟩ := fx_gd h
      refine gb_bind (gl_ldl es e1 ga_226 z6) ?_
      refine gb_bind (gl_stl es e1 (gr2 (s.2 226 (x1).toNat)) ga_231 z6) ?_
      exact ih _ _ (ga_add e1 kg_1) _ _ (rfl : _ = gx (gw2 s 231 (x1).toNat (s.2 226 (x1).toNat))) _ h
def gm_171 (s : gx_S) : Option (Bool × gx_S) :=
  gm_171_2 100000 0 s
theorem gf_171 {s : gx_S} {σ : fx_S} (es : σ = gx s) {q : Bool × gx_S} (h : gm_171 s = some q) : fm_171 σ = some (q.1, gx q.2) := by
  unfold gm_171 at h
  unfold fm_171
  exact gf_171_2 100000 _ _ kg_0 _ _ es _ h

/-! ZoneSharesModel.balances()V -/
def gm_172_146 (k_81 : Int → Int → gx_S → Option (gx_S)) (x1 : Int) (x2 : Int) (s1 : Int) (s2 : Int) (s : gx_S) : Option (gx_S) :=
  if 0 ≤ s1 ∧ s1 < 72 then (
  (gm_160 x1 x2 (gw1 s 234 (s1).toNat (gn2 s2))).bind fun q5 =>
  if 0 ≤ q5.1 ∧ q5.1 < 72 then (
  (gm_160 x1 x2 q5.2).bind fun q10 =>
  if 0 ≤ q10.1 ∧ q10.1 < 72 then (
  (gm_131 (q10.2.1 234 (q10.1).toNat) q10.2).bind fun q15 =>
  if (-2147483648 ≤ q15.1 ∧ q15.1 ≤ 2147483647) then (
  k_81 x1 (x2 + 1) (gw2 q15.2 224 (q5.1).toNat ((q5.2.2 224 (q5.1).toNat) + q15.1))) else none) else none) else none) else none
theorem gf_172_146 {kf_81 : Int32 → Int32 → fx_S → Option (fx_S)} {kg_81 : Int → Int → gx_S → Option (gx_S)} (hk_81 : ∀ (x1 : Int) (yx1 : Int32) (e1 : yx1 = Int32.ofInt x1) (x2 : Int) (yx2 : Int32) (e2 : yx2 = Int32.ofInt x2) (s : gx_S) (σ : fx_S) (es : σ = gx s) (q : gx_S), kg_81 x1 x2 s = some q → kf_81 yx1 yx2 σ = some (gx q)) (x1 : Int) (yx1 : Int32) (e1 : yx1 = Int32.ofInt x1) (x2 : Int) (yx2 : Int32) (e2 : yx2 = Int32.ofInt x2) (s1 : Int) (ys1 : Int32) (es1 : ys1 = Int32.ofInt s1) (s2 : Int) (ys2 : Int32) (es2 : ys2 = Int32.ofInt s2) (s : gx_S) (σ : fx_S) (es : σ = gx s) (q : gx_S) (h : gm_172_146 kg_81 x1 x2 s1 s2 s = some q) : fm_172_146 kf_81 yx1 yx2 ys1 ys2 σ = some (gx q) := by
  unfold gm_172_146 at h
  unfold fm_172_146
  obtain ⟨z3, h⟩ := fx_gd h
  refine gb_bind (gl_stb2 es es1 es2 ga_234 z3) ?_
  obtain ⟨q5, w4, h⟩ := fx_bd h
  refine gb_bind (gf_160 e1 e2 (rfl : _ = gx (gw1 s 234 (s1).toNat (gn2 s2))) w4) ?_
  obtain ⟨z8, h⟩ := fx_gd h
  refine gb_bind (gl_ldl (rfl : _ = gx q5.2) (gr q5.1) ga_224 z8) ?_
  obtain ⟨q10, w9, h⟩ := fx_bd h
  refine gb_bind (gf_160 e1 e2 (rfl : _ = gx q5.2) w9) ?_
  obtain ⟨z13, h⟩ := fx_gd h
  refine gb_bind (gl_ldb2 (rfl : _ = gx q10.2) (gr q10.1) ga_234 z13) ?_
  obtain ⟨q15, w14, h⟩ := fx_bd h
  refine gb_bind (gf_131 (gr (q10.2.1 234 (q10.1).toNat)) (rfl : _ = gx q10.2) w14) ?_
  obtain ⟨z16, h⟩ := fx_gd h
  refine gb_bind (gl_stl (rfl : _ = gx q15.2) (gr q5.1) (gal_add (gr2 (q5.2.2 224 (q5.1).toNat)) (ga_i2l (gr q15.1) z16)) ga_224 z8) ?_
  exact hk_81 _ _ e1 _ _ (ga_add e2 kg_1) _ _ (rfl : _ = gx (gw2 q15.2 224 (q5.1).toNat ((q5.2.2 224 (q5.1).toNat) + q15.1))) _ h
def gm_172_81 (k_71 : Int → gx_S → Option (gx_S)) : Nat → Int → Int → gx_S → Option (gx_S)
  | 0, _, _, _ => none
  | n + 1, x1, x2, s =>
    if (-2147483648 ≤ x2 ∧ x2 ≤ 2147483647) then (
    if (-2147483648 ≤ (s.1 215 18) ∧ (s.1 215 18) ≤ 2147483647) then (
    if (s.1 215 18) ≤ x2 then (
      k_71 (x1 + 1) s) else (
      (gm_160 x1 x2 s).bind fun q5 =>
      if 0 ≤ q5.1 ∧ q5.1 < 72 then (
      (gm_160 x1 x2 (gw1 q5.2 233 (q5.1).toNat (gn2 1))).bind fun q10 =>
      (gm_167 x1 x2 q10.2).bind fun q12 =>
      if 0 ≤ q10.1 ∧ q10.1 < 72 then (
      (gm_160 x1 x2 (gw1 q12.2 234 (q10.1).toNat (gn2 (gb q12.1)))).bind fun q17 =>
      (gm_167 x1 x2 q17.2).bind fun q19 =>
      if (gb q19.1) = 0 then (
        gm_172_146 (gm_172_81 k_71 n) x1 x2 q17.1 0 q19.2) else (
        (gm_171 q19.2).bind fun q22 =>
        if (gb q22.1) = 0 then (
          gm_172_146 (gm_172_81 k_71 n) x1 x2 q17.1 0 q22.2) else (
          gm_172_146 (gm_172_81 k_71 n) x1 x2 q17.1 1 q22.2))) else none) else none)) else none) else none
theorem gf_172_81 {kf_71 : Int32 → fx_S → Option (fx_S)} {kg_71 : Int → gx_S → Option (gx_S)} (hk_71 : ∀ (x1 : Int) (yx1 : Int32) (e1 : yx1 = Int32.ofInt x1) (s : gx_S) (σ : fx_S) (es : σ = gx s) (q : gx_S), kg_71 x1 s = some q → kf_71 yx1 σ = some (gx q)) : ∀ (n : Nat) (x1 : Int) (yx1 : Int32) (e1 : yx1 = Int32.ofInt x1) (x2 : Int) (yx2 : Int32) (e2 : yx2 = Int32.ofInt x2) (s : gx_S) (σ : fx_S) (es : σ = gx s) (q : gx_S), gm_172_81 kg_71 n x1 x2 s = some q → fm_172_81 kf_71 n yx1 yx2 σ = some (gx q) := by
  intro n
  induction n with
  | zero =>
    intro x1 yx1 e1 x2 yx2 e2 s σ es q  h
    rw [gm_172_81] at h
    exact fx_no h
  | succ n ih =>
    intro x1 yx1 e1 x2 yx2 e2 s σ es q  h
    rw [gm_172_81] at h
    rw [fm_172_81]
    obtain ⟨z1, h⟩ := fx_gd h
    obtain ⟨z2, h⟩ := fx_gd h
    by_cases c3 : (s.1 215 18) ≤ x2
    · rw [if_pos c3] at h
      refine gb_t ((gc_le (gf1 es 215 18) e2 z2 z1).mpr c3) ?_
      exact hk_71 _ _ (ga_add e1 kg_1) _ _ es _ h
    · rw [if_neg c3] at h
      refine gb_f (fun q => c3 ((gc_le (gf1 es 215 18) e2 z2 z1).mp q)) ?_
      obtain ⟨q5, w4, h⟩ := fx_bd h
      refine gb_bind (gf_160 e1 e2 es w4) ?_
      obtain ⟨z8, h⟩ := fx_gd h
      refine gb_bind (gl_stb2 (rfl : _ = gx q5.2) (gr q5.1) kg_1 ga_233 z8) ?_
      obtain ⟨q10, w9, h⟩ := fx_bd h
      refine gb_bind (gf_160 e1 e2 (rfl : _ = gx (gw1 q5.2 233 (q5.1).toNat (gn2 1))) w9) ?_
      obtain ⟨q12, w11, h⟩ := fx_bd h
      refine gb_bind (gf_167 e1 e2 (rfl : _ = gx q10.2) w11) ?_
      obtain ⟨z15, h⟩ := fx_gd h
      refine gb_bind (gl_stb2 (rfl : _ = gx q12.2) (gr q10.1) (gb_b q12.1) ga_234 z15) ?_
      obtain ⟨q17, w16, h⟩ := fx_bd h
      refine gb_bind (gf_160 e1 e2 (rfl : _ = gx (gw1 q12.2 234 (q10.1).toNat (gn2 (gb q12.1)))) w16) ?_
      obtain ⟨q19, w18, h⟩ := fx_bd h
      refine gb_bind (gf_167 e1 e2 (rfl : _ = gx q17.2) w18) ?_
      by_cases c20 : (gb q19.1) = 0
      · rw [if_pos c20] at h
        refine gb_t ((gc_eq (gb_b q19.1) kg_0 (gb_r _) (by decide)).mpr c20) ?_
        exact gf_172_146 ih _ _ e1 _ _ e2 _ _ (gr q17.1) _ _ kg_0 _ _ (rfl : _ = gx q19.2) _ h
      · rw [if_neg c20] at h
        refine gb_f (fun q => c20 ((gc_eq (gb_b q19.1) kg_0 (gb_r _) (by decide)).mp q)) ?_
        obtain ⟨q22, w21, h⟩ := fx_bd h
        refine gb_bind (gf_171 (rfl : _ = gx q19.2) w21) ?_
        by_cases c23 : (gb q22.1) = 0
        · rw [if_pos c23] at h
          refine gb_t ((gc_eq (gb_b q22.1) kg_0 (gb_r _) (by decide)).mpr c23) ?_
          exact gf_172_146 ih _ _ e1 _ _ e2 _ _ (gr q17.1) _ _ kg_0 _ _ (rfl : _ = gx q22.2) _ h
        · rw [if_neg c23] at h
          refine gb_f (fun q => c23 ((gc_eq (gb_b q22.1) kg_0 (gb_r _) (by decide)).mp q)) ?_
          exact gf_172_146 ih _ _ e1 _ _ e2 _ _ (gr q17.1) _ _ kg_1 _ _ (rfl : _ = gx q22.2) _ h
def gm_172_71 : Nat → Int → gx_S → Option (gx_S)
  | 0, _, _ => none
  | n + 1, x1, s =>
    if (-2147483648 ≤ x1 ∧ x1 ≤ 2147483647) then (
    if (-2147483648 ≤ (s.1 215 17) ∧ (s.1 215 17) ≤ 2147483647) then (
    if (s.1 215 17) ≤ x1 then (
      some s) else (
      gm_172_81 (gm_172_71 n) 100000 x1 0 s)) else none) else none
theorem gf_172_71 : ∀ (n : Nat) (x1 : Int) (yx1 : Int32) (e1 : yx1 = Int32.ofInt x1) (s : gx_S) (σ : fx_S) (es : σ = gx s) (q : gx_S), gm_172_71 n x1 s = some q → fm_172_71 n yx1 σ = some (gx q) := by
  intro n
  induction n with
  | zero =>
    intro x1 yx1 e1 s σ es q  h
    rw [gm_172_71] at h
    exact fx_no h
  | succ n ih =>
    intro x1 yx1 e1 s σ es q  h
    rw [gm_172_71] at h
    rw [fm_172_71]
    obtain ⟨z1, h⟩ := fx_gd h
    obtain ⟨z2, h⟩ := fx_gd h
    by_cases c3 : (s.1 215 17) ≤ x1
    · rw [if_pos c3] at h
      refine gb_t ((gc_le (gf1 es 215 17) e1 z2 z1).mpr c3) ?_
      have h := Option.some.inj h
      subst h
      exact gretv es
    · rw [if_neg c3] at h
      refine gb_f (fun q => c3 ((gc_le (gf1 es 215 17) e1 z2 z1).mp q)) ?_
      exact gf_172_81 ih 100000 _ _ e1 _ _ kg_0 _ _ es _ h
def gm_172_50 : Nat → Int → gx_S → Option (gx_S)
  | 0, _, _ => none
  | n + 1, x1, s =>
    if (-2147483648 ≤ x1 ∧ x1 ≤ 2147483647) then (
    if 72 ≤ x1 then (
      gm_172_71 100000 0 s) else (
      if 0 ≤ x1 ∧ x1 < 72 then (
      gm_172_50 n (x1 + 1) (gw1 s 233 (x1).toNat (gn2 0))) else none)) else none
theorem gf_172_50 : ∀ (n : Nat) (x1 : Int) (yx1 : Int32) (e1 : yx1 = Int32.ofInt x1) (s : gx_S) (σ : fx_S) (es : σ = gx s) (q : gx_S), gm_172_50 n x1 s = some q → fm_172_50 n yx1 σ = some (gx q) := by
  intro n
  induction n with
  | zero =>
    intro x1 yx1 e1 s σ es q  h
    rw [gm_172_50] at h
    exact fx_no h
  | succ n ih =>
    intro x1 yx1 e1 s σ es q  h
    rw [gm_172_50] at h
    rw [fm_172_50]
    obtain ⟨z1, h⟩ := fx_gd h
    by_cases c2 : 72 ≤ x1
    · rw [if_pos c2] at h
      refine gb_t ((gc_le kg_72 e1 (by decide) z1).mpr c2) ?_
      exact gf_172_71 100000 _ _ kg_0 _ _ es _ h
    · rw [if_neg c2] at h
      refine gb_f (fun q => c2 ((gc_le kg_72 e1 (by decide) z1).mp q)) ?_
      obtain ⟨z5, h⟩ := fx_gd h
      refine gb_bind (gl_stb2 es e1 kg_0 ga_233 z5) ?_
      exact ih _ _ (ga_add e1 kg_1) _ _ (rfl : _ = gx (gw1 s 233 (x1).toNat (gn2 0))) _ h
def gm_172_29 : Nat → Int → gx_S → Option (gx_S)
  | 0, _, _ => none
  | n + 1, x1, s =>
    if (-2147483648 ≤ x1 ∧ x1 ≤ 2147483647) then (
    if (-2147483648 ≤ (s.1 215 18) ∧ (s.1 215 18) ≤ 2147483647) then (
    if (s.1 215 18) ≤ x1 then (
      gm_172_50 100000 0 s) else (
      (gm_166 x1 s).bind fun q5 =>
      gm_172_29 n (x1 + 1) q5)) else none) else none
theorem gf_172_29 : ∀ (n : Nat) (x1 : Int) (yx1 : Int32) (e1 : yx1 = Int32.ofInt x1) (s : gx_S) (σ : fx_S) (es : σ = gx s) (q : gx_S), gm_172_29 n x1 s = some q → fm_172_29 n yx1 σ = some (gx q) := by
  intro n
  induction n with
  | zero =>
    intro x1 yx1 e1 s σ es q  h
    rw [gm_172_29] at h
    exact fx_no h
  | succ n ih =>
    intro x1 yx1 e1 s σ es q  h
    rw [gm_172_29] at h
    rw [fm_172_29]
    obtain ⟨z1, h⟩ := fx_gd h
    obtain ⟨z2, h⟩ := fx_gd h
    by_cases c3 : (s.1 215 18) ≤ x1
    · rw [if_pos c3] at h
      refine gb_t ((gc_le (gf1 es 215 18) e1 z2 z1).mpr c3) ?_
      exact gf_172_50 100000 _ _ kg_0 _ _ es _ h
    · rw [if_neg c3] at h
      refine gb_f (fun q => c3 ((gc_le (gf1 es 215 18) e1 z2 z1).mp q)) ?_
      obtain ⟨q5, w4, h⟩ := fx_bd h
      refine gb_bind (gf_166 e1 es w4) ?_
      exact ih _ _ (ga_add e1 kg_1) _ _ (rfl : _ = gx q5) _ h
def gm_172_2 : Nat → Int → gx_S → Option (gx_S)
  | 0, _, _ => none
  | n + 1, x1, s =>
    if (-2147483648 ≤ x1 ∧ x1 ≤ 2147483647) then (
    if (-2147483648 ≤ (s.1 215 17) ∧ (s.1 215 17) ≤ 2147483647) then (
    if (s.1 215 17) ≤ x1 then (
      gm_172_29 100000 0 s) else (
      (gm_162 x1 s).bind fun q5 =>
      if 0 ≤ x1 ∧ x1 < 8 then (
      gm_172_2 n (x1 + 1) (gw2 q5.2 226 (x1).toNat q5.1)) else none)) else none) else none
theorem gf_172_2 : ∀ (n : Nat) (x1 : Int) (yx1 : Int32) (e1 : yx1 = Int32.ofInt x1) (s : gx_S) (σ : fx_S) (es : σ = gx s) (q : gx_S), gm_172_2 n x1 s = some q → fm_172_2 n yx1 σ = some (gx q) := by
  intro n
  induction n with
  | zero =>
    intro x1 yx1 e1 s σ es q  h
    rw [gm_172_2] at h
    exact fx_no h
  | succ n ih =>
    intro x1 yx1 e1 s σ es q  h
    rw [gm_172_2] at h
    rw [fm_172_2]
    obtain ⟨z1, h⟩ := fx_gd h
    obtain ⟨z2, h⟩ := fx_gd h
    by_cases c3 : (s.1 215 17) ≤ x1
    · rw [if_pos c3] at h
      refine gb_t ((gc_le (gf1 es 215 17) e1 z2 z1).mpr c3) ?_
      exact gf_172_29 100000 _ _ kg_0 _ _ es _ h
    · rw [if_neg c3] at h
      refine gb_f (fun q => c3 ((gc_le (gf1 es 215 17) e1 z2 z1).mp q)) ?_
      obtain ⟨q5, w4, h⟩ := fx_bd h
      refine gb_bind (gf_162 e1 es w4) ?_
      obtain ⟨z8, h⟩ := fx_gd h
      refine gb_bind (gl_stl (rfl : _ = gx q5.2) e1 (gr2 q5.1) ga_226 z8) ?_
      exact ih _ _ (ga_add e1 kg_1) _ _ (rfl : _ = gx (gw2 q5.2 226 (x1).toNat q5.1)) _ h
def gm_172 (s : gx_S) : Option (gx_S) :=
  gm_172_2 100000 0 s
theorem gf_172 {s : gx_S} {σ : fx_S} (es : σ = gx s) {q : gx_S} (h : gm_172 s = some q) : fm_172 σ = some (gx q) := by
  unfold gm_172 at h
  unfold fm_172
  exact gf_172_2 100000 _ _ kg_0 _ _ es _ h

/-! ZoneSharesModel.fills()V -/
def gm_173_39 : Nat → Int → gx_S → Option (gx_S)
  | 0, _, _ => none
  | n + 1, x1, s =>
    if (-2147483648 ≤ x1 ∧ x1 ≤ 2147483647) then (
    if (-2147483648 ≤ (s.1 215 17) ∧ (s.1 215 17) ≤ 2147483647) then (
    if (s.1 215 17) ≤ x1 then (
      some s) else (
      (gm_163 x1 s).bind fun q5 =>
      gm_173_39 n (x1 + 1) q5)) else none) else none
theorem gf_173_39 : ∀ (n : Nat) (x1 : Int) (yx1 : Int32) (e1 : yx1 = Int32.ofInt x1) (s : gx_S) (σ : fx_S) (es : σ = gx s) (q : gx_S), gm_173_39 n x1 s = some q → fm_173_39 n yx1 σ = some (gx q) := by
  intro n
  induction n with
  | zero =>
    intro x1 yx1 e1 s σ es q  h
    rw [gm_173_39] at h
    exact fx_no h
  | succ n ih =>
    intro x1 yx1 e1 s σ es q  h
    rw [gm_173_39] at h
    rw [fm_173_39]
    obtain ⟨z1, h⟩ := fx_gd h
    obtain ⟨z2, h⟩ := fx_gd h
    by_cases c3 : (s.1 215 17) ≤ x1
    · rw [if_pos c3] at h
      refine gb_t ((gc_le (gf1 es 215 17) e1 z2 z1).mpr c3) ?_
      have h := Option.some.inj h
      subst h
      exact gretv es
    · rw [if_neg c3] at h
      refine gb_f (fun q => c3 ((gc_le (gf1 es 215 17) e1 z2 z1).mp q)) ?_
      obtain ⟨q5, w4, h⟩ := fx_bd h
      refine gb_bind (gf_163 e1 es w4) ?_
      exact ih _ _ (ga_add e1 kg_1) _ _ (rfl : _ = gx q5) _ h
def gm_173_2 : Nat → Int → gx_S → Option (gx_S)
  | 0, _, _ => none
  | n + 1, x1, s =>
    if (-2147483648 ≤ x1 ∧ x1 ≤ 2147483647) then (
    if (-2147483648 ≤ (s.1 215 17) ∧ (s.1 215 17) ≤ 2147483647) then (
    if (s.1 215 17) ≤ x1 then (
      if (-2147483648 ≤ (s.1 216 3) ∧ (s.1 216 3) ≤ 2147483647) then (
      if ¬ (s.1 216 3) = 1 then (
        gm_173_39 100000 0 s) else (
        (gm_172 s).bind fun q9 =>
        some q9)) else none) else (
      (gm_161 x1 s).bind fun q11 =>
      gm_173_2 n (x1 + 1) q11.2)) else none) else none
theorem gf_173_2 : ∀ (n : Nat) (x1 : Int) (yx1 : Int32) (e1 : yx1 = Int32.ofInt x1) (s : gx_S) (σ : fx_S) (es : σ = gx s) (q : gx_S), gm_173_2 n x1 s = some q → fm_173_2 n yx1 σ = some (gx q) := by
  intro n
  induction n with
  | zero =>
    intro x1 yx1 e1 s σ es q  h
    rw [gm_173_2] at h
    exact fx_no h
  | succ n ih =>
    intro x1 yx1 e1 s σ es q  h
    rw [gm_173_2] at h
    rw [fm_173_2]
    obtain ⟨z1, h⟩ := fx_gd h
    obtain ⟨z2, h⟩ := fx_gd h
    by_cases c3 : (s.1 215 17) ≤ x1
    · rw [if_pos c3] at h
      refine gb_t ((gc_le (gf1 es 215 17) e1 z2 z1).mpr c3) ?_
      refine gb_bind (gl_ld es kg_3 ga_216 (by decide)) ?_
      obtain ⟨z6, h⟩ := fx_gd h
      by_cases c7 : ¬ (s.1 216 3) = 1
      · rw [if_pos c7] at h
        refine gb_t ((gc_ne (gr (s.1 216 3)) kg_1 z6 (by decide)).mpr c7) ?_
        exact gf_173_39 100000 _ _ kg_0 _ _ es _ h
      · rw [if_neg c7] at h
        refine gb_f (fun q => c7 ((gc_ne (gr (s.1 216 3)) kg_1 z6 (by decide)).mp q)) ?_
        obtain ⟨q9, w8, h⟩ := fx_bd h
        refine gb_bind (gf_172 es w8) ?_
        have h := Option.some.inj h
        subst h
        exact gretv (rfl : _ = gx q9)
    · rw [if_neg c3] at h
      refine gb_f (fun q => c3 ((gc_le (gf1 es 215 17) e1 z2 z1).mp q)) ?_
      obtain ⟨q11, w10, h⟩ := fx_bd h
      refine gb_bind (gf_161 e1 es w10) ?_
      exact ih _ _ (ga_add e1 kg_1) _ _ (rfl : _ = gx q11.2) _ h
def gm_173 (s : gx_S) : Option (gx_S) :=
  gm_173_2 100000 0 s
theorem gf_173 {s : gx_S} {σ : fx_S} (es : σ = gx s) {q : gx_S} (h : gm_173 s = some q) : fm_173 σ = some (gx q) := by
  unfold gm_173 at h
  unfold fm_173
  exact gf_173_2 100000 _ _ kg_0 _ _ es _ h

/-! ZoneSharesModel.moved(III)I -/
def gm_185 (x1 : Int) (x2 : Int) (x3 : Int) (s : gx_S) : Option (Int × gx_S) :=
  (gm_150 s).bind fun q34 =>
  if (gb q34.1) = 0 then (
    some ((-1), q34.2)) else (
    (gm_148 x1 q34.2).bind fun q37 =>
    if (gb q37.1) = 0 then (
      some ((-1), q37.2)) else (
      if (-2147483648 ≤ x2 ∧ x2 ≤ 2147483647) then (
      (gm_130 x2 (-1) 7 q37.2).bind fun q41 =>
      if (gb q41.1) = 0 then (
        some ((-1), q41.2)) else (
        if (-2147483648 ≤ x3 ∧ x3 ≤ 2147483647) then (
        (gm_130 x3 (-1) 8 q41.2).bind fun q45 =>
        if ¬ (gb q45.1) = 0 then (
          (gm_181 x1 q45.2).bind fun q48 =>
          (gm_173 q48).bind fun q50 =>
          if ¬ x2 = (-1) then (
            if ¬ x3 = (-1) then (
              (gm_160 x2 x3 q50).bind fun q54 =>
              if 0 ≤ q54.1 ∧ q54.1 < 72 then (
              some ((q54.2.2 224 (q54.1).toNat), q54.2)) else none) else (
              (gm_182 x2 q50).bind fun q59 =>
              some (q59.1, q59.2))) else (
            if ¬ x3 = (-1) then (
              (gm_183 x3 q50).bind fun q62 =>
              some (q62.1, q62.2)) else (
              (gm_184 q50).bind fun q64 =>
              some (q64.1, q64.2)))) else (
          some ((-1), q45.2))) else none)) else none))
theorem gf_185 {x1 : Int} {yx1 : Int32} (e1 : yx1 = Int32.ofInt x1) {x2 : Int} {yx2 : Int32} (e2 : yx2 = Int32.ofInt x2) {x3 : Int} {yx3 : Int32} (e3 : yx3 = Int32.ofInt x3) {s : gx_S} {σ : fx_S} (es : σ = gx s) {q : Int × gx_S} (h : gm_185 x1 x2 x3 s = some q) : fm_185 yx1 yx2 yx3 σ = some (Int32.ofInt q.1, gx q.2) := by
  unfold gm_185 at h
  unfold fm_185
  obtain ⟨q34, w33, h⟩ := fx_bd h
  refine gb_bind (gf_150 es w33) ?_
  by_cases c35 : (gb q34.1) = 0
  · rw [if_pos c35] at h
    refine gb_t ((gc_eq (gb_b q34.1) kg_0 (gb_r _) (by decide)).mpr c35) ?_
    have h := Option.some.inj h
    subst h
    exact gret kg_m1 (rfl : _ = gx q34.2)
  · rw [if_neg c35] at h
    refine gb_f (fun q => c35 ((gc_eq (gb_b q34.1) kg_0 (gb_r _) (by decide)).mp q)) ?_
    obtain ⟨q37, w36, h⟩ := fx_bd h
    refine gb_bind (gf_148 e1 (rfl : _ = gx q34.2) w36) ?_
    by_cases c38 : (gb q37.1) = 0
    · rw [if_pos c38] at h
      refine gb_t ((gc_eq (gb_b q37.1) kg_0 (gb_r _) (by decide)).mpr c38) ?_
      have h := Option.some.inj h
      subst h
      exact gret kg_m1 (rfl : _ = gx q37.2)
    · rw [if_neg c38] at h
      refine gb_f (fun q => c38 ((gc_eq (gb_b q37.1) kg_0 (gb_r _) (by decide)).mp q)) ?_
      obtain ⟨z39, h⟩ := fx_gd h
      obtain ⟨q41, w40, h⟩ := fx_bd h
      refine gb_bind (gf_130 (ga_i2l e2 z39) kgl_m1 kgl_7 (rfl : _ = gx q37.2) w40) ?_
      by_cases c42 : (gb q41.1) = 0
      · rw [if_pos c42] at h
        refine gb_t ((gc_eq (gb_b q41.1) kg_0 (gb_r _) (by decide)).mpr c42) ?_
        have h := Option.some.inj h
        subst h
        exact gret kg_m1 (rfl : _ = gx q41.2)
      · rw [if_neg c42] at h
        refine gb_f (fun q => c42 ((gc_eq (gb_b q41.1) kg_0 (gb_r _) (by decide)).mp q)) ?_
        obtain ⟨z43, h⟩ := fx_gd h
        obtain ⟨q45, w44, h⟩ := fx_bd h
        refine gb_bind (gf_130 (ga_i2l e3 z43) kgl_m1 kgl_8 (rfl : _ = gx q41.2) w44) ?_
        by_cases c46 : ¬ (gb q45.1) = 0
        · rw [if_pos c46] at h
          refine gb_t ((gc_ne (gb_b q45.1) kg_0 (gb_r _) (by decide)).mpr c46) ?_
          obtain ⟨q48, w47, h⟩ := fx_bd h
          refine gb_bind (gf_181 e1 (rfl : _ = gx q45.2) w47) ?_
          obtain ⟨q50, w49, h⟩ := fx_bd h
          refine gb_bind (gf_173 (rfl : _ = gx q48) w49) ?_
          by_cases c51 : ¬ x2 = (-1)
          · rw [if_pos c51] at h
            refine gb_t ((gc_ne e2 kg_m1 z39 (by decide)).mpr c51) ?_
            by_cases c52 : ¬ x3 = (-1)
            · rw [if_pos c52] at h
              refine gb_t ((gc_ne e3 kg_m1 z43 (by decide)).mpr c52) ?_
              obtain ⟨q54, w53, h⟩ := fx_bd h
              refine gb_bind (gf_160 e2 e3 (rfl : _ = gx q50) w53) ?_
              obtain ⟨z57, h⟩ := fx_gd h
              refine gb_bind (gl_ldl (rfl : _ = gx q54.2) (gr q54.1) ga_224 z57) ?_
              have h := Option.some.inj h
              subst h
              exact gret (ga_l2i (gr2 (q54.2.2 224 (q54.1).toNat))) (rfl : _ = gx q54.2)
            · rw [if_neg c52] at h
              refine gb_f (fun q => c52 ((gc_ne e3 kg_m1 z43 (by decide)).mp q)) ?_
              obtain ⟨q59, w58, h⟩ := fx_bd h
              refine gb_bind (gf_182 e2 (rfl : _ = gx q50) w58) ?_
              have h := Option.some.inj h
              subst h
              exact gret (gr q59.1) (rfl : _ = gx q59.2)
          · rw [if_neg c51] at h
            refine gb_f (fun q => c51 ((gc_ne e2 kg_m1 z39 (by decide)).mp q)) ?_
            by_cases c60 : ¬ x3 = (-1)
            · rw [if_pos c60] at h
              refine gb_t ((gc_ne e3 kg_m1 z43 (by decide)).mpr c60) ?_
              obtain ⟨q62, w61, h⟩ := fx_bd h
              refine gb_bind (gf_183 e3 (rfl : _ = gx q50) w61) ?_
              have h := Option.some.inj h
              subst h
              exact gret (gr q62.1) (rfl : _ = gx q62.2)
            · rw [if_neg c60] at h
              refine gb_f (fun q => c60 ((gc_ne e3 kg_m1 z43 (by decide)).mp q)) ?_
              obtain ⟨q64, w63, h⟩ := fx_bd h
              refine gb_bind (gf_184 (rfl : _ = gx q50) w63) ?_
              have h := Option.some.inj h
              subst h
              exact gret (gr q64.1) (rfl : _ = gx q64.2)
        · rw [if_neg c46] at h
          refine gb_f (fun q => c46 ((gc_ne (gb_b q45.1) kg_0 (gb_r _) (by decide)).mp q)) ?_
          have h := Option.some.inj h
          subst h
          exact gret kg_m1 (rfl : _ = gx q45.2)

/-! ZoneSharesModel.coarse(III)I -/
def gm_188_102 (k_73 : Int → Int → Int → gx_S → Option (Int × gx_S)) (x2 : Int) (x5 : Int) (s0 : Int) (s1 : Int) (s : gx_S) : Option (Int × gx_S) :=
  k_73 x2 (s0 + s1) (x5 + 1) s
theorem gf_188_102 {kf_73 : Int32 → Int32 → Int32 → fx_S → Option (Int32 × fx_S)} {kg_73 : Int → Int → Int → gx_S → Option (Int × gx_S)} (hk_73 : ∀ (x2 : Int) (yx2 : Int32) (e2 : yx2 = Int32.ofInt x2) (x4 : Int) (yx4 : Int32) (e4 : yx4 = Int32.ofInt x4) (x5 : Int) (yx5 : Int32) (e5 : yx5 = Int32.ofInt x5) (s : gx_S) (σ : fx_S) (es : σ = gx s) (q : Int × gx_S), kg_73 x2 x4 x5 s = some q → kf_73 yx2 yx4 yx5 σ = some (Int32.ofInt q.1, gx q.2)) (x2 : Int) (yx2 : Int32) (e2 : yx2 = Int32.ofInt x2) (x5 : Int) (yx5 : Int32) (e5 : yx5 = Int32.ofInt x5) (s0 : Int) (ys0 : Int32) (es0 : ys0 = Int32.ofInt s0) (s1 : Int) (ys1 : Int32) (es1 : ys1 = Int32.ofInt s1) (s : gx_S) (σ : fx_S) (es : σ = gx s) (q : Int × gx_S) (h : gm_188_102 kg_73 x2 x5 s0 s1 s = some q) : fm_188_102 kf_73 yx2 yx5 ys0 ys1 σ = some (Int32.ofInt q.1, gx q.2) := by
  unfold gm_188_102 at h
  unfold fm_188_102
  exact hk_73 _ _ e2 _ _ (ga_add es0 es1) _ _ (ga_add e5 kg_1) _ _ es _ h
def gm_188_73 : Nat → Int → Int → Int → gx_S → Option (Int × gx_S)
  | 0, _, _, _, _ => none
  | n + 1, x2, x4, x5, s =>
    if (-2147483648 ≤ x5 ∧ x5 ≤ 2147483647) then (
    if 8 ≤ x5 then (
      some (x4, s)) else (
      (gm_186 x5 s).bind fun q4 =>
      if (-2147483648 ≤ q4.1 ∧ q4.1 ≤ 2147483647) then (
      if (-2147483648 ≤ x2 ∧ x2 ≤ 2147483647) then (
      if ¬ q4.1 = x2 then (
        gm_188_102 (gm_188_73 n) x2 x5 x4 0 q4.2) else (
        (gm_183 x5 q4.2).bind fun q9 =>
        gm_188_102 (gm_188_73 n) x2 x5 x4 q9.1 q9.2)) else none) else none)) else none
theorem gf_188_73 : ∀ (n : Nat) (x2 : Int) (yx2 : Int32) (e2 : yx2 = Int32.ofInt x2) (x4 : Int) (yx4 : Int32) (e4 : yx4 = Int32.ofInt x4) (x5 : Int) (yx5 : Int32) (e5 : yx5 = Int32.ofInt x5) (s : gx_S) (σ : fx_S) (es : σ = gx s) (q : Int × gx_S), gm_188_73 n x2 x4 x5 s = some q → fm_188_73 n yx2 yx4 yx5 σ = some (Int32.ofInt q.1, gx q.2) := by
  intro n
  induction n with
  | zero =>
    intro x2 yx2 e2 x4 yx4 e4 x5 yx5 e5 s σ es q  h
    rw [gm_188_73] at h
    exact fx_no h
  | succ n ih =>
    intro x2 yx2 e2 x4 yx4 e4 x5 yx5 e5 s σ es q  h
    rw [gm_188_73] at h
    rw [fm_188_73]
    obtain ⟨z1, h⟩ := fx_gd h
    by_cases c2 : 8 ≤ x5
    · rw [if_pos c2] at h
      refine gb_t ((gc_le kg_8 e5 (by decide) z1).mpr c2) ?_
      have h := Option.some.inj h
      subst h
      exact gret e4 es
    · rw [if_neg c2] at h
      refine gb_f (fun q => c2 ((gc_le kg_8 e5 (by decide) z1).mp q)) ?_
      obtain ⟨q4, w3, h⟩ := fx_bd h
      refine gb_bind (gf_186 e5 es w3) ?_
      obtain ⟨z5, h⟩ := fx_gd h
      obtain ⟨z6, h⟩ := fx_gd h
      by_cases c7 : ¬ q4.1 = x2
      · rw [if_pos c7] at h
        refine gb_t ((gc_ne (gr q4.1) e2 z5 z6).mpr c7) ?_
        exact gf_188_102 ih _ _ e2 _ _ e5 _ _ e4 _ _ kg_0 _ _ (rfl : _ = gx q4.2) _ h
      · rw [if_neg c7] at h
        refine gb_f (fun q => c7 ((gc_ne (gr q4.1) e2 z5 z6).mp q)) ?_
        obtain ⟨q9, w8, h⟩ := fx_bd h
        refine gb_bind (gf_183 e5 (rfl : _ = gx q4.2) w8) ?_
        exact gf_188_102 ih _ _ e2 _ _ e5 _ _ e4 _ _ (gr q9.1) _ _ (rfl : _ = gx q9.2) _ h
def gm_188 (x1 : Int) (x2 : Int) (x3 : Int) (s : gx_S) : Option (Int × gx_S) :=
  (gm_150 s).bind fun q36 =>
  if (gb q36.1) = 0 then (
    some ((-1), q36.2)) else (
    (gm_148 x1 q36.2).bind fun q39 =>
    if (gb q39.1) = 0 then (
      some ((-1), q39.2)) else (
      if (-2147483648 ≤ x2 ∧ x2 ≤ 2147483647) then (
      (gm_130 x2 0 3 q39.2).bind fun q43 =>
      if (gb q43.1) = 0 then (
        some ((-1), q43.2)) else (
        if (-2147483648 ≤ x3 ∧ x3 ≤ 2147483647) then (
        (gm_130 x3 0 1 q43.2).bind fun q47 =>
        if ¬ (gb q47.1) = 0 then (
          if ¬ x3 = 1 then (
            (gm_181 x1 q47.2).bind fun q51 =>
            (gm_173 q51).bind fun q53 =>
            gm_188_73 100000 x2 0 0 q53) else (
            (gm_187 x1 q47.2).bind fun q55 =>
            (gm_173 q55).bind fun q57 =>
            (gm_183 x2 q57).bind fun q59 =>
            some (q59.1, q59.2))) else (
          some ((-1), q47.2))) else none)) else none))
theorem gf_188 {x1 : Int} {yx1 : Int32} (e1 : yx1 = Int32.ofInt x1) {x2 : Int} {yx2 : Int32} (e2 : yx2 = Int32.ofInt x2) {x3 : Int} {yx3 : Int32} (e3 : yx3 = Int32.ofInt x3) {s : gx_S} {σ : fx_S} (es : σ = gx s) {q : Int × gx_S} (h : gm_188 x1 x2 x3 s = some q) : fm_188 yx1 yx2 yx3 σ = some (Int32.ofInt q.1, gx q.2) := by
  unfold gm_188 at h
  unfold fm_188
  obtain ⟨q36, w35, h⟩ := fx_bd h
  refine gb_bind (gf_150 es w35) ?_
  by_cases c37 : (gb q36.1) = 0
  · rw [if_pos c37] at h
    refine gb_t ((gc_eq (gb_b q36.1) kg_0 (gb_r _) (by decide)).mpr c37) ?_
    have h := Option.some.inj h
    subst h
    exact gret kg_m1 (rfl : _ = gx q36.2)
  · rw [if_neg c37] at h
    refine gb_f (fun q => c37 ((gc_eq (gb_b q36.1) kg_0 (gb_r _) (by decide)).mp q)) ?_
    obtain ⟨q39, w38, h⟩ := fx_bd h
    refine gb_bind (gf_148 e1 (rfl : _ = gx q36.2) w38) ?_
    by_cases c40 : (gb q39.1) = 0
    · rw [if_pos c40] at h
      refine gb_t ((gc_eq (gb_b q39.1) kg_0 (gb_r _) (by decide)).mpr c40) ?_
      have h := Option.some.inj h
      subst h
      exact gret kg_m1 (rfl : _ = gx q39.2)
    · rw [if_neg c40] at h
      refine gb_f (fun q => c40 ((gc_eq (gb_b q39.1) kg_0 (gb_r _) (by decide)).mp q)) ?_
      obtain ⟨z41, h⟩ := fx_gd h
      obtain ⟨q43, w42, h⟩ := fx_bd h
      refine gb_bind (gf_130 (ga_i2l e2 z41) kgl_0 kgl_3 (rfl : _ = gx q39.2) w42) ?_
      by_cases c44 : (gb q43.1) = 0
      · rw [if_pos c44] at h
        refine gb_t ((gc_eq (gb_b q43.1) kg_0 (gb_r _) (by decide)).mpr c44) ?_
        have h := Option.some.inj h
        subst h
        exact gret kg_m1 (rfl : _ = gx q43.2)
      · rw [if_neg c44] at h
        refine gb_f (fun q => c44 ((gc_eq (gb_b q43.1) kg_0 (gb_r _) (by decide)).mp q)) ?_
        obtain ⟨z45, h⟩ := fx_gd h
        obtain ⟨q47, w46, h⟩ := fx_bd h
        refine gb_bind (gf_130 (ga_i2l e3 z45) kgl_0 kgl_1 (rfl : _ = gx q43.2) w46) ?_
        by_cases c48 : ¬ (gb q47.1) = 0
        · rw [if_pos c48] at h
          refine gb_t ((gc_ne (gb_b q47.1) kg_0 (gb_r _) (by decide)).mpr c48) ?_
          by_cases c49 : ¬ x3 = 1
          · rw [if_pos c49] at h
            refine gb_t ((gc_ne e3 kg_1 z45 (by decide)).mpr c49) ?_
            obtain ⟨q51, w50, h⟩ := fx_bd h
            refine gb_bind (gf_181 e1 (rfl : _ = gx q47.2) w50) ?_
            obtain ⟨q53, w52, h⟩ := fx_bd h
            refine gb_bind (gf_173 (rfl : _ = gx q51) w52) ?_
            exact gf_188_73 100000 _ _ e2 _ _ kg_0 _ _ kg_0 _ _ (rfl : _ = gx q53) _ h
          · rw [if_neg c49] at h
            refine gb_f (fun q => c49 ((gc_ne e3 kg_1 z45 (by decide)).mp q)) ?_
            obtain ⟨q55, w54, h⟩ := fx_bd h
            refine gb_bind (gf_187 e1 (rfl : _ = gx q47.2) w54) ?_
            obtain ⟨q57, w56, h⟩ := fx_bd h
            refine gb_bind (gf_173 (rfl : _ = gx q55) w56) ?_
            obtain ⟨q59, w58, h⟩ := fx_bd h
            refine gb_bind (gf_183 e2 (rfl : _ = gx q57) w58) ?_
            have h := Option.some.inj h
            subst h
            exact gret (gr q59.1) (rfl : _ = gx q59.2)
        · rw [if_neg c48] at h
          refine gb_f (fun q => c48 ((gc_ne (gb_b q47.1) kg_0 (gb_r _) (by decide)).mp q)) ?_
          have h := Option.some.inj h
          subst h
          exact gret kg_m1 (rfl : _ = gx q47.2)

/-! ZoneSharesModel.byWay(II)I -/
def gm_189_110 (k_70 : Int → Int → Int → gx_S → Option (Int × gx_S)) (x1 : Int) (x2 : Int) (x3 : Int) (s : gx_S) : Option (Int × gx_S) :=
  k_70 x1 x2 (x3 + 1) s
theorem gf_189_110 {kf_70 : Int32 → Int32 → Int32 → fx_S → Option (Int32 × fx_S)} {kg_70 : Int → Int → Int → gx_S → Option (Int × gx_S)} (hk_70 : ∀ (x1 : Int) (yx1 : Int32) (e1 : yx1 = Int32.ofInt x1) (x2 : Int) (yx2 : Int32) (e2 : yx2 = Int32.ofInt x2) (x3 : Int) (yx3 : Int32) (e3 : yx3 = Int32.ofInt x3) (s : gx_S) (σ : fx_S) (es : σ = gx s) (q : Int × gx_S), kg_70 x1 x2 x3 s = some q → kf_70 yx1 yx2 yx3 σ = some (Int32.ofInt q.1, gx q.2)) (x1 : Int) (yx1 : Int32) (e1 : yx1 = Int32.ofInt x1) (x2 : Int) (yx2 : Int32) (e2 : yx2 = Int32.ofInt x2) (x3 : Int) (yx3 : Int32) (e3 : yx3 = Int32.ofInt x3) (s : gx_S) (σ : fx_S) (es : σ = gx s) (q : Int × gx_S) (h : gm_189_110 kg_70 x1 x2 x3 s = some q) : fm_189_110 kf_70 yx1 yx2 yx3 σ = some (Int32.ofInt q.1, gx q.2) := by
  unfold gm_189_110 at h
  unfold fm_189_110
  exact hk_70 _ _ e1 _ _ e2 _ _ (ga_add e3 kg_1) _ _ es _ h
def gm_189_70 : Nat → Int → Int → Int → gx_S → Option (Int × gx_S)
  | 0, _, _, _, _ => none
  | n + 1, x1, x2, x3, s =>
    if (-2147483648 ≤ x3 ∧ x3 ≤ 2147483647) then (
    if 4 ≤ x3 then (
      (gm_173 s).bind fun q4 =>
      (gm_183 x2 q4).bind fun q6 =>
      some (q6.1, q6.2)) else (
      if 0 ≤ x3 ∧ x3 < 4 then (
      if (-2147483648 ≤ (s.1 238 (x3).toNat) ∧ (s.1 238 (x3).toNat) ≤ 2147483647) then (
      if 0 ≤ x3 ∧ x3 < 8 then (
      (gm_190 x1 x3 0 (gw2 s 221 (x3).toNat (s.1 238 (x3).toNat))).bind fun q15 =>
      (gm_161 x3 q15).bind fun q17 =>
      if (-2147483648 ≤ q17.1 ∧ q17.1 ≤ 2147483647) then (
      if ¬ q17.1 = 0 then (
        gm_189_110 (gm_189_70 n) x1 x2 x3 q17.2) else (
        (gm_190 x1 x3 1 q17.2).bind fun q21 =>
        gm_189_110 (gm_189_70 n) x1 x2 x3 q21)) else none) else none) else none) else none)) else none
theorem gf_189_70 : ∀ (n : Nat) (x1 : Int) (yx1 : Int32) (e1 : yx1 = Int32.ofInt x1) (x2 : Int) (yx2 : Int32) (e2 : yx2 = Int32.ofInt x2) (x3 : Int) (yx3 : Int32) (e3 : yx3 = Int32.ofInt x3) (s : gx_S) (σ : fx_S) (es : σ = gx s) (q : Int × gx_S), gm_189_70 n x1 x2 x3 s = some q → fm_189_70 n yx1 yx2 yx3 σ = some (Int32.ofInt q.1, gx q.2) := by
  intro n
  induction n with
  | zero =>
    intro x1 yx1 e1 x2 yx2 e2 x3 yx3 e3 s σ es q  h
    rw [gm_189_70] at h
    exact fx_no h
  | succ n ih =>
    intro x1 yx1 e1 x2 yx2 e2 x3 yx3 e3 s σ es q  h
    rw [gm_189_70] at h
    rw [fm_189_70]
    obtain ⟨z1, h⟩ := fx_gd h
    by_cases c2 : 4 ≤ x3
    · rw [if_pos c2] at h
      refine gb_t ((gc_le kg_4 e3 (by decide) z1).mpr c2) ?_
      obtain ⟨q4, w3, h⟩ := fx_bd h
      refine gb_bind (gf_173 es w3) ?_
      obtain ⟨q6, w5, h⟩ := fx_bd h
      refine gb_bind (gf_183 e2 (rfl : _ = gx q4) w5) ?_
      have h := Option.some.inj h
      subst h
      exact gret (gr q6.1) (rfl : _ = gx q6.2)
    · rw [if_neg c2] at h
      refine gb_f (fun q => c2 ((gc_le kg_4 e3 (by decide) z1).mp q)) ?_
      obtain ⟨z9, h⟩ := fx_gd h
      refine gb_bind (gl_ld es e3 ga_238 z9) ?_
      obtain ⟨z10, h⟩ := fx_gd h
      obtain ⟨z13, h⟩ := fx_gd h
      refine gb_bind (gl_stl es e3 (ga_i2l (gr (s.1 238 (x3).toNat)) z10) ga_221 z13) ?_
      obtain ⟨q15, w14, h⟩ := fx_bd h
      refine gb_bind (gf_190 e1 e3 kg_0 (rfl : _ = gx (gw2 s 221 (x3).toNat (s.1 238 (x3).toNat))) w14) ?_
      obtain ⟨q17, w16, h⟩ := fx_bd h
      refine gb_bind (gf_161 e3 (rfl : _ = gx q15) w16) ?_
      obtain ⟨z18, h⟩ := fx_gd h
      by_cases c19 : ¬ q17.1 = 0
      · rw [if_pos c19] at h
        refine gb_t ((gc_ne (gr q17.1) kg_0 z18 (by decide)).mpr c19) ?_
        exact gf_189_110 ih _ _ e1 _ _ e2 _ _ e3 _ _ (rfl : _ = gx q17.2) _ h
      · rw [if_neg c19] at h
        refine gb_f (fun q => c19 ((gc_ne (gr q17.1) kg_0 z18 (by decide)).mp q)) ?_
        obtain ⟨q21, w20, h⟩ := fx_bd h
        refine gb_bind (gf_190 e1 e3 kg_1 (rfl : _ = gx q17.2) w20) ?_
        exact gf_189_110 ih _ _ e1 _ _ e2 _ _ e3 _ _ (rfl : _ = gx q21) _ h
def gm_189_39 : Nat → Int → Int → Int → gx_S → Option (Int × gx_S)
  | 0, _, _, _, _ => none
  | n + 1, x1, x2, x3, s =>
    if (-2147483648 ≤ x3 ∧ x3 ≤ 2147483647) then (
    if 4 ≤ x3 then (
      (gm_159 4 8 s).bind fun q4 =>
      gm_189_70 100000 x1 x2 0 q4) else (
      (gm_183 x3 s).bind fun q6 =>
      if 0 ≤ x3 ∧ x3 < 4 then (
      gm_189_39 n x1 x2 (x3 + 1) (gw1 q6.2 238 (x3).toNat q6.1)) else none)) else none
theorem gf_189_39 : ∀ (n : Nat) (x1 : Int) (yx1 : Int32) (e1 : yx1 = Int32.ofInt x1) (x2 : Int) (yx2 : Int32) (e2 : yx2 = Int32.ofInt x2) (x3 : Int) (yx3 : Int32) (e3 : yx3 = Int32.ofInt x3) (s : gx_S) (σ : fx_S) (es : σ = gx s) (q : Int × gx_S), gm_189_39 n x1 x2 x3 s = some q → fm_189_39 n yx1 yx2 yx3 σ = some (Int32.ofInt q.1, gx q.2) := by
  intro n
  induction n with
  | zero =>
    intro x1 yx1 e1 x2 yx2 e2 x3 yx3 e3 s σ es q  h
    rw [gm_189_39] at h
    exact fx_no h
  | succ n ih =>
    intro x1 yx1 e1 x2 yx2 e2 x3 yx3 e3 s σ es q  h
    rw [gm_189_39] at h
    rw [fm_189_39]
    obtain ⟨z1, h⟩ := fx_gd h
    by_cases c2 : 4 ≤ x3
    · rw [if_pos c2] at h
      refine gb_t ((gc_le kg_4 e3 (by decide) z1).mpr c2) ?_
      obtain ⟨q4, w3, h⟩ := fx_bd h
      refine gb_bind (gf_159 kg_4 kg_8 es w3) ?_
      exact gf_189_70 100000 _ _ e1 _ _ e2 _ _ kg_0 _ _ (rfl : _ = gx q4) _ h
    · rw [if_neg c2] at h
      refine gb_f (fun q => c2 ((gc_le kg_4 e3 (by decide) z1).mp q)) ?_
      obtain ⟨q6, w5, h⟩ := fx_bd h
      refine gb_bind (gf_183 e3 es w5) ?_
      obtain ⟨z9, h⟩ := fx_gd h
      refine gb_bind (gl_st (rfl : _ = gx q6.2) e3 (gr q6.1) ga_238 z9) ?_
      exact ih _ _ e1 _ _ e2 _ _ (ga_add e3 kg_1) _ _ (rfl : _ = gx (gw1 q6.2 238 (x3).toNat q6.1)) _ h
def gm_189 (x1 : Int) (x2 : Int) (s : gx_S) : Option (Int × gx_S) :=
  (gm_150 s).bind fun q46 =>
  if (gb q46.1) = 0 then (
    some ((-1), q46.2)) else (
    (gm_148 x1 q46.2).bind fun q49 =>
    if (gb q49.1) = 0 then (
      some ((-1), q49.2)) else (
      if (-2147483648 ≤ x2 ∧ x2 ≤ 2147483647) then (
      (gm_130 x2 0 7 q49.2).bind fun q53 =>
      if ¬ (gb q53.1) = 0 then (
        (gm_187 x1 q53.2).bind fun q56 =>
        (gm_173 q56).bind fun q58 =>
        gm_189_39 100000 x1 x2 0 q58) else (
        some ((-1), q53.2))) else none))
theorem gf_189 {x1 : Int} {yx1 : Int32} (e1 : yx1 = Int32.ofInt x1) {x2 : Int} {yx2 : Int32} (e2 : yx2 = Int32.ofInt x2) {s : gx_S} {σ : fx_S} (es : σ = gx s) {q : Int × gx_S} (h : gm_189 x1 x2 s = some q) : fm_189 yx1 yx2 σ = some (Int32.ofInt q.1, gx q.2) := by
  unfold gm_189 at h
  unfold fm_189
  obtain ⟨q46, w45, h⟩ := fx_bd h
  refine gb_bind (gf_150 es w45) ?_
  by_cases c47 : (gb q46.1) = 0
  · rw [if_pos c47] at h
    refine gb_t ((gc_eq (gb_b q46.1) kg_0 (gb_r _) (by decide)).mpr c47) ?_
    have h := Option.some.inj h
    subst h
    exact gret kg_m1 (rfl : _ = gx q46.2)
  · rw [if_neg c47] at h
    refine gb_f (fun q => c47 ((gc_eq (gb_b q46.1) kg_0 (gb_r _) (by decide)).mp q)) ?_
    obtain ⟨q49, w48, h⟩ := fx_bd h
    refine gb_bind (gf_148 e1 (rfl : _ = gx q46.2) w48) ?_
    by_cases c50 : (gb q49.1) = 0
    · rw [if_pos c50] at h
      refine gb_t ((gc_eq (gb_b q49.1) kg_0 (gb_r _) (by decide)).mpr c50) ?_
      have h := Option.some.inj h
      subst h
      exact gret kg_m1 (rfl : _ = gx q49.2)
    · rw [if_neg c50] at h
      refine gb_f (fun q => c50 ((gc_eq (gb_b q49.1) kg_0 (gb_r _) (by decide)).mp q)) ?_
      obtain ⟨z51, h⟩ := fx_gd h
      obtain ⟨q53, w52, h⟩ := fx_bd h
      refine gb_bind (gf_130 (ga_i2l e2 z51) kgl_0 kgl_7 (rfl : _ = gx q49.2) w52) ?_
      by_cases c54 : ¬ (gb q53.1) = 0
      · rw [if_pos c54] at h
        refine gb_t ((gc_ne (gb_b q53.1) kg_0 (gb_r _) (by decide)).mpr c54) ?_
        obtain ⟨q56, w55, h⟩ := fx_bd h
        refine gb_bind (gf_187 e1 (rfl : _ = gx q53.2) w55) ?_
        obtain ⟨q58, w57, h⟩ := fx_bd h
        refine gb_bind (gf_173 (rfl : _ = gx q56) w57) ?_
        exact gf_189_39 100000 _ _ e1 _ _ e2 _ _ kg_0 _ _ (rfl : _ = gx q58) _ h
      · rw [if_neg c54] at h
        refine gb_f (fun q => c54 ((gc_ne (gb_b q53.1) kg_0 (gb_r _) (by decide)).mp q)) ?_
        have h := Option.some.inj h
        subst h
        exact gret kg_m1 (rfl : _ = gx q53.2)

/-! ZoneSharesModel.laysReturned(I)V -/
def gm_191_83 (k_44 : Int → Int → gx_S → Option (gx_S)) : Nat → Int → Int → Int → Int → gx_S → Option (gx_S)
  | 0, _, _, _, _, _ => none
  | n + 1, x1, x2, x3, x4, s =>
    if (-2147483648 ≤ x4 ∧ x4 ≤ 2147483647) then (
    if 9 ≤ x4 then (
      k_44 x1 (x2 + 1) s) else (
      (gm_160 x2 x4 s).bind fun q4 =>
      (gm_157 x1 x4 x2 x3 q4.2).bind fun q6 =>
      if 0 ≤ q4.1 ∧ q4.1 < 72 then (
      gm_191_83 k_44 n x1 x2 x3 (x4 + 1) (gw1 q6.2 222 (q4.1).toNat q6.1)) else none)) else none
theorem gf_191_83 {kf_44 : Int32 → Int32 → fx_S → Option (fx_S)} {kg_44 : Int → Int → gx_S → Option (gx_S)} (hk_44 : ∀ (x1 : Int) (yx1 : Int32) (e1 : yx1 = Int32.ofInt x1) (x2 : Int) (yx2 : Int32) (e2 : yx2 = Int32.ofInt x2) (s : gx_S) (σ : fx_S) (es : σ = gx s) (q : gx_S), kg_44 x1 x2 s = some q → kf_44 yx1 yx2 σ = some (gx q)) : ∀ (n : Nat) (x1 : Int) (yx1 : Int32) (e1 : yx1 = Int32.ofInt x1) (x2 : Int) (yx2 : Int32) (e2 : yx2 = Int32.ofInt x2) (x3 : Int) (yx3 : Int32) (e3 : yx3 = Int32.ofInt x3) (x4 : Int) (yx4 : Int32) (e4 : yx4 = Int32.ofInt x4) (s : gx_S) (σ : fx_S) (es : σ = gx s) (q : gx_S), gm_191_83 kg_44 n x1 x2 x3 x4 s = some q → fm_191_83 kf_44 n yx1 yx2 yx3 yx4 σ = some (gx q) := by
  intro n
  induction n with
  | zero =>
    intro x1 yx1 e1 x2 yx2 e2 x3 yx3 e3 x4 yx4 e4 s σ es q  h
    rw [gm_191_83] at h
    exact fx_no h
  | succ n ih =>
    intro x1 yx1 e1 x2 yx2 e2 x3 yx3 e3 x4 yx4 e4 s σ es q  h
    rw [gm_191_83] at h
    rw [fm_191_83]
    obtain ⟨z1, h⟩ := fx_gd h
    by_cases c2 : 9 ≤ x4
    · rw [if_pos c2] at h
      refine gb_t ((gc_le kg_9 e4 (by decide) z1).mpr c2) ?_
      exact hk_44 _ _ e1 _ _ (ga_add e2 kg_1) _ _ es _ h
    · rw [if_neg c2] at h
      refine gb_f (fun q => c2 ((gc_le kg_9 e4 (by decide) z1).mp q)) ?_
      obtain ⟨q4, w3, h⟩ := fx_bd h
      refine gb_bind (gf_160 e2 e4 es w3) ?_
      obtain ⟨q6, w5, h⟩ := fx_bd h
      refine gb_bind (gf_157 e1 e4 e2 e3 (rfl : _ = gx q4.2) w5) ?_
      obtain ⟨z9, h⟩ := fx_gd h
      refine gb_bind (gl_st (rfl : _ = gx q6.2) (gr q4.1) (gr q6.1) ga_222 z9) ?_
      exact ih _ _ e1 _ _ e2 _ _ e3 _ _ (ga_add e4 kg_1) _ _ (rfl : _ = gx (gw1 q6.2 222 (q4.1).toNat q6.1)) _ h
def gm_191_79 (k_44 : Int → Int → gx_S → Option (gx_S)) (x1 : Int) (x2 : Int) (s0 : Int) (s : gx_S) : Option (gx_S) :=
  gm_191_83 k_44 100000 x1 x2 s0 0 s
theorem gf_191_79 {kf_44 : Int32 → Int32 → fx_S → Option (fx_S)} {kg_44 : Int → Int → gx_S → Option (gx_S)} (hk_44 : ∀ (x1 : Int) (yx1 : Int32) (e1 : yx1 = Int32.ofInt x1) (x2 : Int) (yx2 : Int32) (e2 : yx2 = Int32.ofInt x2) (s : gx_S) (σ : fx_S) (es : σ = gx s) (q : gx_S), kg_44 x1 x2 s = some q → kf_44 yx1 yx2 σ = some (gx q)) (x1 : Int) (yx1 : Int32) (e1 : yx1 = Int32.ofInt x1) (x2 : Int) (yx2 : Int32) (e2 : yx2 = Int32.ofInt x2) (s0 : Int) (ys0 : Int32) (es0 : ys0 = Int32.ofInt s0) (s : gx_S) (σ : fx_S) (es : σ = gx s) (q : gx_S) (h : gm_191_79 kg_44 x1 x2 s0 s = some q) : fm_191_79 kf_44 yx1 yx2 ys0 σ = some (gx q) := by
  unfold gm_191_79 at h
  unfold fm_191_79
  exact gf_191_83 hk_44 100000 _ _ e1 _ _ e2 _ _ es0 _ _ kg_0 _ _ es _ h
def gm_191_44 : Nat → Int → Int → gx_S → Option (gx_S)
  | 0, _, _, _ => none
  | n + 1, x1, x2, s =>
    if (-2147483648 ≤ x2 ∧ x2 ≤ 2147483647) then (
    if 8 ≤ x2 then (
      (gm_173 s).bind fun q4 =>
      some q4) else (
      if 0 ≤ x2 ∧ x2 < 9 then (
      if (-2147483648 ≤ (s.1 239 (x2).toNat) ∧ (s.1 239 (x2).toNat) ≤ 2147483647) then (
      if 0 ≤ x2 ∧ x2 < 8 then (
      (gm_157 x1 (-1) x2 0 (gw2 s 221 (x2).toNat (s.1 239 (x2).toNat))).bind fun q13 =>
      if (-2147483648 ≤ q13.1 ∧ q13.1 ≤ 2147483647) then (
      if ¬ q13.1 = 0 then (
        gm_191_79 (gm_191_44 n) x1 x2 0 q13.2) else (
        gm_191_79 (gm_191_44 n) x1 x2 1 q13.2)) else none) else none) else none) else none)) else none
theorem gf_191_44 : ∀ (n : Nat) (x1 : Int) (yx1 : Int32) (e1 : yx1 = Int32.ofInt x1) (x2 : Int) (yx2 : Int32) (e2 : yx2 = Int32.ofInt x2) (s : gx_S) (σ : fx_S) (es : σ = gx s) (q : gx_S), gm_191_44 n x1 x2 s = some q → fm_191_44 n yx1 yx2 σ = some (gx q) := by
  intro n
  induction n with
  | zero =>
    intro x1 yx1 e1 x2 yx2 e2 s σ es q  h
    rw [gm_191_44] at h
    exact fx_no h
  | succ n ih =>
    intro x1 yx1 e1 x2 yx2 e2 s σ es q  h
    rw [gm_191_44] at h
    rw [fm_191_44]
    obtain ⟨z1, h⟩ := fx_gd h
    by_cases c2 : 8 ≤ x2
    · rw [if_pos c2] at h
      refine gb_t ((gc_le kg_8 e2 (by decide) z1).mpr c2) ?_
      obtain ⟨q4, w3, h⟩ := fx_bd h
      refine gb_bind (gf_173 es w3) ?_
      have h := Option.some.inj h
      subst h
      exact gretv (rfl : _ = gx q4)
    · rw [if_neg c2] at h
      refine gb_f (fun q => c2 ((gc_le kg_8 e2 (by decide) z1).mp q)) ?_
      obtain ⟨z7, h⟩ := fx_gd h
      refine gb_bind (gl_ld es e2 ga_239 z7) ?_
      obtain ⟨z8, h⟩ := fx_gd h
      obtain ⟨z11, h⟩ := fx_gd h
      refine gb_bind (gl_stl es e2 (ga_i2l (gr (s.1 239 (x2).toNat)) z8) ga_221 z11) ?_
      obtain ⟨q13, w12, h⟩ := fx_bd h
      refine gb_bind (gf_157 e1 kg_m1 e2 kg_0 (rfl : _ = gx (gw2 s 221 (x2).toNat (s.1 239 (x2).toNat))) w12) ?_
      obtain ⟨z14, h⟩ := fx_gd h
      by_cases c15 : ¬ q13.1 = 0
      · rw [if_pos c15] at h
        refine gb_t ((gc_ne (gr q13.1) kg_0 z14 (by decide)).mpr c15) ?_
        exact gf_191_79 ih _ _ e1 _ _ e2 _ _ kg_0 _ _ (rfl : _ = gx q13.2) _ h
      · rw [if_neg c15] at h
        refine gb_f (fun q => c15 ((gc_ne (gr q13.1) kg_0 z14 (by decide)).mp q)) ?_
        exact gf_191_79 ih _ _ e1 _ _ e2 _ _ kg_1 _ _ (rfl : _ = gx q13.2) _ h
def gm_191_11 : Nat → Int → Int → gx_S → Option (gx_S)
  | 0, _, _, _ => none
  | n + 1, x1, x2, s =>
    if (-2147483648 ≤ x2 ∧ x2 ≤ 2147483647) then (
    if 8 ≤ x2 then (
      (gm_159 8 9 s).bind fun q4 =>
      gm_191_44 100000 x1 0 q4) else (
      (gm_183 x2 s).bind fun q6 =>
      if 0 ≤ x2 ∧ x2 < 9 then (
      gm_191_11 n x1 (x2 + 1) (gw1 q6.2 239 (x2).toNat q6.1)) else none)) else none
theorem gf_191_11 : ∀ (n : Nat) (x1 : Int) (yx1 : Int32) (e1 : yx1 = Int32.ofInt x1) (x2 : Int) (yx2 : Int32) (e2 : yx2 = Int32.ofInt x2) (s : gx_S) (σ : fx_S) (es : σ = gx s) (q : gx_S), gm_191_11 n x1 x2 s = some q → fm_191_11 n yx1 yx2 σ = some (gx q) := by
  intro n
  induction n with
  | zero =>
    intro x1 yx1 e1 x2 yx2 e2 s σ es q  h
    rw [gm_191_11] at h
    exact fx_no h
  | succ n ih =>
    intro x1 yx1 e1 x2 yx2 e2 s σ es q  h
    rw [gm_191_11] at h
    rw [fm_191_11]
    obtain ⟨z1, h⟩ := fx_gd h
    by_cases c2 : 8 ≤ x2
    · rw [if_pos c2] at h
      refine gb_t ((gc_le kg_8 e2 (by decide) z1).mpr c2) ?_
      obtain ⟨q4, w3, h⟩ := fx_bd h
      refine gb_bind (gf_159 kg_8 kg_9 es w3) ?_
      exact gf_191_44 100000 _ _ e1 _ _ kg_0 _ _ (rfl : _ = gx q4) _ h
    · rw [if_neg c2] at h
      refine gb_f (fun q => c2 ((gc_le kg_8 e2 (by decide) z1).mp q)) ?_
      obtain ⟨q6, w5, h⟩ := fx_bd h
      refine gb_bind (gf_183 e2 es w5) ?_
      obtain ⟨z9, h⟩ := fx_gd h
      refine gb_bind (gl_st (rfl : _ = gx q6.2) e2 (gr q6.1) ga_239 z9) ?_
      exact ih _ _ e1 _ _ (ga_add e2 kg_1) _ _ (rfl : _ = gx (gw1 q6.2 239 (x2).toNat q6.1)) _ h
def gm_191 (x1 : Int) (s : gx_S) : Option (gx_S) :=
  (gm_181 x1 s).bind fun q54 =>
  (gm_173 q54).bind fun q56 =>
  gm_191_11 100000 x1 0 q56
theorem gf_191 {x1 : Int} {yx1 : Int32} (e1 : yx1 = Int32.ofInt x1) {s : gx_S} {σ : fx_S} (es : σ = gx s) {q : gx_S} (h : gm_191 x1 s = some q) : fm_191 yx1 σ = some (gx q) := by
  unfold gm_191 at h
  unfold fm_191
  obtain ⟨q54, w53, h⟩ := fx_bd h
  refine gb_bind (gf_181 e1 es w53) ?_
  obtain ⟨q56, w55, h⟩ := fx_bd h
  refine gb_bind (gf_173 (rfl : _ = gx q54) w55) ?_
  exact gf_191_11 100000 _ _ e1 _ _ kg_0 _ _ (rfl : _ = gx q56) _ h

/-! ZoneSharesModel.returned(II)I -/
def gm_192 (x1 : Int) (x2 : Int) (s : gx_S) : Option (Int × gx_S) :=
  (gm_150 s).bind fun q16 =>
  if (gb q16.1) = 0 then (
    some ((-1), q16.2)) else (
    (gm_148 x1 q16.2).bind fun q19 =>
    if (gb q19.1) = 0 then (
      some ((-1), q19.2)) else (
      if (-2147483648 ≤ x2 ∧ x2 ≤ 2147483647) then (
      (gm_130 x2 0 8 q19.2).bind fun q23 =>
      if ¬ (gb q23.1) = 0 then (
        (gm_191 x1 q23.2).bind fun q26 =>
        (gm_183 x2 q26).bind fun q28 =>
        some (q28.1, q28.2)) else (
        some ((-1), q23.2))) else none))
theorem gf_192 {x1 : Int} {yx1 : Int32} (e1 : yx1 = Int32.ofInt x1) {x2 : Int} {yx2 : Int32} (e2 : yx2 = Int32.ofInt x2) {s : gx_S} {σ : fx_S} (es : σ = gx s) {q : Int × gx_S} (h : gm_192 x1 x2 s = some q) : fm_192 yx1 yx2 σ = some (Int32.ofInt q.1, gx q.2) := by
  unfold gm_192 at h
  unfold fm_192
  obtain ⟨q16, w15, h⟩ := fx_bd h
  refine gb_bind (gf_150 es w15) ?_
  by_cases c17 : (gb q16.1) = 0
  · rw [if_pos c17] at h
    refine gb_t ((gc_eq (gb_b q16.1) kg_0 (gb_r _) (by decide)).mpr c17) ?_
    have h := Option.some.inj h
    subst h
    exact gret kg_m1 (rfl : _ = gx q16.2)
  · rw [if_neg c17] at h
    refine gb_f (fun q => c17 ((gc_eq (gb_b q16.1) kg_0 (gb_r _) (by decide)).mp q)) ?_
    obtain ⟨q19, w18, h⟩ := fx_bd h
    refine gb_bind (gf_148 e1 (rfl : _ = gx q16.2) w18) ?_
    by_cases c20 : (gb q19.1) = 0
    · rw [if_pos c20] at h
      refine gb_t ((gc_eq (gb_b q19.1) kg_0 (gb_r _) (by decide)).mpr c20) ?_
      have h := Option.some.inj h
      subst h
      exact gret kg_m1 (rfl : _ = gx q19.2)
    · rw [if_neg c20] at h
      refine gb_f (fun q => c20 ((gc_eq (gb_b q19.1) kg_0 (gb_r _) (by decide)).mp q)) ?_
      obtain ⟨z21, h⟩ := fx_gd h
      obtain ⟨q23, w22, h⟩ := fx_bd h
      refine gb_bind (gf_130 (ga_i2l e2 z21) kgl_0 kgl_8 (rfl : _ = gx q19.2) w22) ?_
      by_cases c24 : ¬ (gb q23.1) = 0
      · rw [if_pos c24] at h
        refine gb_t ((gc_ne (gb_b q23.1) kg_0 (gb_r _) (by decide)).mpr c24) ?_
        obtain ⟨q26, w25, h⟩ := fx_bd h
        refine gb_bind (gf_191 e1 (rfl : _ = gx q23.2) w25) ?_
        obtain ⟨q28, w27, h⟩ := fx_bd h
        refine gb_bind (gf_183 e2 (rfl : _ = gx q26) w27) ?_
        have h := Option.some.inj h
        subst h
        exact gret (gr q28.1) (rfl : _ = gx q28.2)
      · rw [if_neg c24] at h
        refine gb_f (fun q => c24 ((gc_ne (gb_b q23.1) kg_0 (gb_r _) (by decide)).mp q)) ?_
        have h := Option.some.inj h
        subst h
        exact gret kg_m1 (rfl : _ = gx q23.2)

/-! ZoneSharesModel.astray(I)I -/
def gm_193_55 : Nat → Int → Int → gx_S → Option (Int × gx_S)
  | 0, _, _, _ => none
  | n + 1, x2, x3, s =>
    if (-2147483648 ≤ x3 ∧ x3 ≤ 2147483647) then (
    if 8 ≤ x3 then (
      some (x2, s)) else (
      if 0 ≤ x3 ∧ x3 < 8 then (
      if 0 ≤ x3 ∧ x3 < 9 then (
      if (-2147483648 ≤ ((s.1 236 (x3).toNat) - (s.1 239 (x3).toNat)) ∧ ((s.1 236 (x3).toNat) - (s.1 239 (x3).toNat)) ≤ 2147483647) then (
      gm_193_55 n (x2 + (if 0 ≤ ((s.1 236 (x3).toNat) - (s.1 239 (x3).toNat)) then ((s.1 236 (x3).toNat) - (s.1 239 (x3).toNat)) else 0 - ((s.1 236 (x3).toNat) - (s.1 239 (x3).toNat)))) (x3 + 1) s) else none) else none) else none)) else none
theorem gf_193_55 : ∀ (n : Nat) (x2 : Int) (yx2 : Int32) (e2 : yx2 = Int32.ofInt x2) (x3 : Int) (yx3 : Int32) (e3 : yx3 = Int32.ofInt x3) (s : gx_S) (σ : fx_S) (es : σ = gx s) (q : Int × gx_S), gm_193_55 n x2 x3 s = some q → fm_193_55 n yx2 yx3 σ = some (Int32.ofInt q.1, gx q.2) := by
  intro n
  induction n with
  | zero =>
    intro x2 yx2 e2 x3 yx3 e3 s σ es q  h
    rw [gm_193_55] at h
    exact fx_no h
  | succ n ih =>
    intro x2 yx2 e2 x3 yx3 e3 s σ es q  h
    rw [gm_193_55] at h
    rw [fm_193_55]
    obtain ⟨z1, h⟩ := fx_gd h
    by_cases c2 : 8 ≤ x3
    · rw [if_pos c2] at h
      refine gb_t ((gc_le kg_8 e3 (by decide) z1).mpr c2) ?_
      have h := Option.some.inj h
      subst h
      exact gret e2 es
    · rw [if_neg c2] at h
      refine gb_f (fun q => c2 ((gc_le kg_8 e3 (by decide) z1).mp q)) ?_
      obtain ⟨z5, h⟩ := fx_gd h
      refine gb_bind (gl_ld es e3 ga_236 z5) ?_
      obtain ⟨z8, h⟩ := fx_gd h
      refine gb_bind (gl_ld es e3 ga_239 z8) ?_
      obtain ⟨z9, h⟩ := fx_gd h
      exact ih _ _ (ga_add e2 (ga_ite (gc_le kg_0 (ga_sub (gr (s.1 236 (x3).toNat)) (gr (s.1 239 (x3).toNat))) (by decide) z9) (ga_sub (gr (s.1 236 (x3).toNat)) (gr (s.1 239 (x3).toNat))) (ga_sub kg_0 (ga_sub (gr (s.1 236 (x3).toNat)) (gr (s.1 239 (x3).toNat)))))) _ _ (ga_add e3 kg_1) _ _ es _ h
def gm_193_23 : Nat → Int → Int → gx_S → Option (Int × gx_S)
  | 0, _, _, _ => none
  | n + 1, x1, x2, s =>
    if (-2147483648 ≤ x2 ∧ x2 ≤ 2147483647) then (
    if 8 ≤ x2 then (
      (gm_177 x1 s).bind fun q4 =>
      gm_193_55 100000 0 0 q4) else (
      (gm_183 x2 s).bind fun q6 =>
      if 0 ≤ x2 ∧ x2 < 9 then (
      gm_193_23 n x1 (x2 + 1) (gw1 q6.2 239 (x2).toNat q6.1)) else none)) else none
theorem gf_193_23 : ∀ (n : Nat) (x1 : Int) (yx1 : Int32) (e1 : yx1 = Int32.ofInt x1) (x2 : Int) (yx2 : Int32) (e2 : yx2 = Int32.ofInt x2) (s : gx_S) (σ : fx_S) (es : σ = gx s) (q : Int × gx_S), gm_193_23 n x1 x2 s = some q → fm_193_23 n yx1 yx2 σ = some (Int32.ofInt q.1, gx q.2) := by
  intro n
  induction n with
  | zero =>
    intro x1 yx1 e1 x2 yx2 e2 s σ es q  h
    rw [gm_193_23] at h
    exact fx_no h
  | succ n ih =>
    intro x1 yx1 e1 x2 yx2 e2 s σ es q  h
    rw [gm_193_23] at h
    rw [fm_193_23]
    obtain ⟨z1, h⟩ := fx_gd h
    by_cases c2 : 8 ≤ x2
    · rw [if_pos c2] at h
      refine gb_t ((gc_le kg_8 e2 (by decide) z1).mpr c2) ?_
      obtain ⟨q4, w3, h⟩ := fx_bd h
      refine gb_bind (gf_177 e1 es w3) ?_
      exact gf_193_55 100000 _ _ kg_0 _ _ kg_0 _ _ (rfl : _ = gx q4) _ h
    · rw [if_neg c2] at h
      refine gb_f (fun q => c2 ((gc_le kg_8 e2 (by decide) z1).mp q)) ?_
      obtain ⟨q6, w5, h⟩ := fx_bd h
      refine gb_bind (gf_183 e2 es w5) ?_
      obtain ⟨z9, h⟩ := fx_gd h
      refine gb_bind (gl_st (rfl : _ = gx q6.2) e2 (gr q6.1) ga_239 z9) ?_
      exact ih _ _ e1 _ _ (ga_add e2 kg_1) _ _ (rfl : _ = gx (gw1 q6.2 239 (x2).toNat q6.1)) _ h
def gm_193 (x1 : Int) (s : gx_S) : Option (Int × gx_S) :=
  (gm_150 s).bind fun q28 =>
  if (gb q28.1) = 0 then (
    some ((-1), q28.2)) else (
    (gm_148 x1 q28.2).bind fun q31 =>
    if ¬ (gb q31.1) = 0 then (
      (gm_191 x1 q31.2).bind fun q34 =>
      gm_193_23 100000 x1 0 q34) else (
      some ((-1), q31.2)))
theorem gf_193 {x1 : Int} {yx1 : Int32} (e1 : yx1 = Int32.ofInt x1) {s : gx_S} {σ : fx_S} (es : σ = gx s) {q : Int × gx_S} (h : gm_193 x1 s = some q) : fm_193 yx1 σ = some (Int32.ofInt q.1, gx q.2) := by
  unfold gm_193 at h
  unfold fm_193
  obtain ⟨q28, w27, h⟩ := fx_bd h
  refine gb_bind (gf_150 es w27) ?_
  by_cases c29 : (gb q28.1) = 0
  · rw [if_pos c29] at h
    refine gb_t ((gc_eq (gb_b q28.1) kg_0 (gb_r _) (by decide)).mpr c29) ?_
    have h := Option.some.inj h
    subst h
    exact gret kg_m1 (rfl : _ = gx q28.2)
  · rw [if_neg c29] at h
    refine gb_f (fun q => c29 ((gc_eq (gb_b q28.1) kg_0 (gb_r _) (by decide)).mp q)) ?_
    obtain ⟨q31, w30, h⟩ := fx_bd h
    refine gb_bind (gf_148 e1 (rfl : _ = gx q28.2) w30) ?_
    by_cases c32 : ¬ (gb q31.1) = 0
    · rw [if_pos c32] at h
      refine gb_t ((gc_ne (gb_b q31.1) kg_0 (gb_r _) (by decide)).mpr c32) ?_
      obtain ⟨q34, w33, h⟩ := fx_bd h
      refine gb_bind (gf_191 e1 (rfl : _ = gx q31.2) w33) ?_
      exact gf_193_23 100000 _ _ e1 _ _ kg_0 _ _ (rfl : _ = gx q34) _ h
    · rw [if_neg c32] at h
      refine gb_f (fun q => c32 ((gc_ne (gb_b q31.1) kg_0 (gb_r _) (by decide)).mp q)) ?_
      have h := Option.some.inj h
      subst h
      exact gret kg_m1 (rfl : _ = gx q31.2)

/-! ZoneSharesModel.fit(I)I -/
def gm_212_102 : Nat → Int → Int → Int → gx_S → Option (Int × gx_S)
  | 0, _, _, _, _ => none
  | n + 1, x1, x2, x3, s =>
    if (-2147483648 ≤ x3 ∧ x3 ≤ 2147483647) then (
    if 4 ≤ x3 then (
      some (x2, s)) else (
      if 0 ≤ x3 ∧ x3 < 4 then (
      if 0 ≤ ((32 + (4 * x1)) + x3) ∧ ((32 + (4 * x1)) + x3) < 340 then (
      gm_212_102 n x1 x2 (x3 + 1) (gw1 s 216 (((32 + (4 * x1)) + x3)).toNat (s.1 244 (x3).toNat))) else none) else none)) else none
theorem gf_212_102 : ∀ (n : Nat) (x1 : Int) (yx1 : Int32) (e1 : yx1 = Int32.ofInt x1) (x2 : Int) (yx2 : Int32) (e2 : yx2 = Int32.ofInt x2) (x3 : Int) (yx3 : Int32) (e3 : yx3 = Int32.ofInt x3) (s : gx_S) (σ : fx_S) (es : σ = gx s) (q : Int × gx_S), gm_212_102 n x1 x2 x3 s = some q → fm_212_102 n yx1 yx2 yx3 σ = some (Int32.ofInt q.1, gx q.2) := by
  intro n
  induction n with
  | zero =>
    intro x1 yx1 e1 x2 yx2 e2 x3 yx3 e3 s σ es q  h
    rw [gm_212_102] at h
    exact fx_no h
  | succ n ih =>
    intro x1 yx1 e1 x2 yx2 e2 x3 yx3 e3 s σ es q  h
    rw [gm_212_102] at h
    rw [fm_212_102]
    obtain ⟨z1, h⟩ := fx_gd h
    by_cases c2 : 4 ≤ x3
    · rw [if_pos c2] at h
      refine gb_t ((gc_le kg_4 e3 (by decide) z1).mpr c2) ?_
      have h := Option.some.inj h
      subst h
      exact gret e2 es
    · rw [if_neg c2] at h
      refine gb_f (fun q => c2 ((gc_le kg_4 e3 (by decide) z1).mp q)) ?_
      obtain ⟨z5, h⟩ := fx_gd h
      refine gb_bind (gl_ld es e3 ga_244 z5) ?_
      obtain ⟨z8, h⟩ := fx_gd h
      refine gb_bind (gl_st es (ga_add (ga_add kg_32 (ga_mul kg_4 e1)) e3) (gr (s.1 244 (x3).toNat)) ga_216 z8) ?_
      exact ih _ _ e1 _ _ e2 _ _ (ga_add e3 kg_1) _ _ (rfl : _ = gx (gw1 s 216 (((32 + (4 * x1)) + x3)).toNat (s.1 244 (x3).toNat))) _ h
def gm_212_78 (k_45 : Int → Int → Int → gx_S → Option (Int × gx_S)) (x1 : Int) (x3 : Int) (s0 : Int) (s1 : Int) (s : gx_S) : Option (Int × gx_S) :=
  (gm_131 s1 s).bind fun q2 =>
  k_45 x1 (s0 + q2.1) (x3 + 1) q2.2
theorem gf_212_78 {kf_45 : Int32 → Int32 → Int32 → fx_S → Option (Int32 × fx_S)} {kg_45 : Int → Int → Int → gx_S → Option (Int × gx_S)} (hk_45 : ∀ (x1 : Int) (yx1 : Int32) (e1 : yx1 = Int32.ofInt x1) (x2 : Int) (yx2 : Int32) (e2 : yx2 = Int32.ofInt x2) (x3 : Int) (yx3 : Int32) (e3 : yx3 = Int32.ofInt x3) (s : gx_S) (σ : fx_S) (es : σ = gx s) (q : Int × gx_S), kg_45 x1 x2 x3 s = some q → kf_45 yx1 yx2 yx3 σ = some (Int32.ofInt q.1, gx q.2)) (x1 : Int) (yx1 : Int32) (e1 : yx1 = Int32.ofInt x1) (x3 : Int) (yx3 : Int32) (e3 : yx3 = Int32.ofInt x3) (s0 : Int) (ys0 : Int32) (es0 : ys0 = Int32.ofInt s0) (s1 : Int) (ys1 : Int32) (es1 : ys1 = Int32.ofInt s1) (s : gx_S) (σ : fx_S) (es : σ = gx s) (q : Int × gx_S) (h : gm_212_78 kg_45 x1 x3 s0 s1 s = some q) : fm_212_78 kf_45 yx1 yx3 ys0 ys1 σ = some (Int32.ofInt q.1, gx q.2) := by
  unfold gm_212_78 at h
  unfold fm_212_78
  obtain ⟨q2, w1, h⟩ := fx_bd h
  refine gb_bind (gf_131 es1 es w1) ?_
  exact hk_45 _ _ e1 _ _ (ga_add es0 (gr q2.1)) _ _ (ga_add e3 kg_1) _ _ (rfl : _ = gx q2.2) _ h
def gm_212_45 : Nat → Int → Int → Int → gx_S → Option (Int × gx_S)
  | 0, _, _, _, _ => none
  | n + 1, x1, x2, x3, s =>
    if (-2147483648 ≤ x3 ∧ x3 ≤ 2147483647) then (
    if 4 ≤ x3 then (
      if (-2147483648 ≤ x2 ∧ x2 ≤ 2147483647) then (
      if ¬ x2 = 0 then (
        (gm_132 s).bind fun q6 =>
        gm_212_102 100000 x1 x2 0 q6) else (
        some ((-2), s))) else none) else (
      if 0 ≤ x3 ∧ x3 < 4 then (
      if 0 ≤ ((32 + (4 * x1)) + x3) ∧ ((32 + (4 * x1)) + x3) < 340 then (
      if (-2147483648 ≤ (s.1 244 (x3).toNat) ∧ (s.1 244 (x3).toNat) ≤ 2147483647) then (
      if (-2147483648 ≤ (s.1 216 (((32 + (4 * x1)) + x3)).toNat) ∧ (s.1 216 (((32 + (4 * x1)) + x3)).toNat) ≤ 2147483647) then (
      if (s.1 244 (x3).toNat) = (s.1 216 (((32 + (4 * x1)) + x3)).toNat) then (
        gm_212_78 (gm_212_45 n) x1 x3 x2 0 s) else (
        gm_212_78 (gm_212_45 n) x1 x3 x2 1 s)) else none) else none) else none) else none)) else none
theorem gf_212_45 : ∀ (n : Nat) (x1 : Int) (yx1 : Int32) (e1 : yx1 = Int32.ofInt x1) (x2 : Int) (yx2 : Int32) (e2 : yx2 = Int32.ofInt x2) (x3 : Int) (yx3 : Int32) (e3 : yx3 = Int32.ofInt x3) (s : gx_S) (σ : fx_S) (es : σ = gx s) (q : Int × gx_S), gm_212_45 n x1 x2 x3 s = some q → fm_212_45 n yx1 yx2 yx3 σ = some (Int32.ofInt q.1, gx q.2) := by
  intro n
  induction n with
  | zero =>
    intro x1 yx1 e1 x2 yx2 e2 x3 yx3 e3 s σ es q  h
    rw [gm_212_45] at h
    exact fx_no h
  | succ n ih =>
    intro x1 yx1 e1 x2 yx2 e2 x3 yx3 e3 s σ es q  h
    rw [gm_212_45] at h
    rw [fm_212_45]
    obtain ⟨z1, h⟩ := fx_gd h
    by_cases c2 : 4 ≤ x3
    · rw [if_pos c2] at h
      refine gb_t ((gc_le kg_4 e3 (by decide) z1).mpr c2) ?_
      obtain ⟨z3, h⟩ := fx_gd h
      by_cases c4 : ¬ x2 = 0
      · rw [if_pos c4] at h
        refine gb_t ((gc_ne e2 kg_0 z3 (by decide)).mpr c4) ?_
        obtain ⟨q6, w5, h⟩ := fx_bd h
        refine gb_bind (gf_132 es w5) ?_
        exact gf_212_102 100000 _ _ e1 _ _ e2 _ _ kg_0 _ _ (rfl : _ = gx q6) _ h
      · rw [if_neg c4] at h
        refine gb_f (fun q => c4 ((gc_ne e2 kg_0 z3 (by decide)).mp q)) ?_
        have h := Option.some.inj h
        subst h
        exact gret kg_m2 es
    · rw [if_neg c2] at h
      refine gb_f (fun q => c2 ((gc_le kg_4 e3 (by decide) z1).mp q)) ?_
      obtain ⟨z9, h⟩ := fx_gd h
      refine gb_bind (gl_ld es e3 ga_244 z9) ?_
      obtain ⟨z12, h⟩ := fx_gd h
      refine gb_bind (gl_ld es (ga_add (ga_add kg_32 (ga_mul kg_4 e1)) e3) ga_216 z12) ?_
      obtain ⟨z13, h⟩ := fx_gd h
      obtain ⟨z14, h⟩ := fx_gd h
      by_cases c15 : (s.1 244 (x3).toNat) = (s.1 216 (((32 + (4 * x1)) + x3)).toNat)
      · rw [if_pos c15] at h
        refine gb_t ((gc_eq (gr (s.1 244 (x3).toNat)) (gr (s.1 216 (((32 + (4 * x1)) + x3)).toNat)) z13 z14).mpr c15) ?_
        exact gf_212_78 ih _ _ e1 _ _ e3 _ _ e2 _ _ kg_0 _ _ es _ h
      · rw [if_neg c15] at h
        refine gb_f (fun q => c15 ((gc_eq (gr (s.1 244 (x3).toNat)) (gr (s.1 216 (((32 + (4 * x1)) + x3)).toNat)) z13 z14).mp q)) ?_
        exact gf_212_78 ih _ _ e1 _ _ e3 _ _ e2 _ _ kg_1 _ _ es _ h
def gm_212 (x1 : Int) (s : gx_S) : Option (Int × gx_S) :=
  (gm_150 s).bind fun q39 =>
  if (gb q39.1) = 0 then (
    some ((-1), q39.2)) else (
    (gm_148 x1 q39.2).bind fun q42 =>
    if ¬ (gb q42.1) = 0 then (
      (gm_205 x1 q42.2).bind fun q45 =>
      if (-2147483648 ≤ (q45.1 215 42) ∧ (q45.1 215 42) ≤ 2147483647) then (
      if ¬ (q45.1 215 42) = 0 then (
        (gm_211 x1 0 (gw1 q45 215 43 0)).bind fun q49 =>
        gm_212_45 100000 x1 0 0 q49) else (
        some ((-1), q45))) else none) else (
      some ((-1), q42.2)))
theorem gf_212 {x1 : Int} {yx1 : Int32} (e1 : yx1 = Int32.ofInt x1) {s : gx_S} {σ : fx_S} (es : σ = gx s) {q : Int × gx_S} (h : gm_212 x1 s = some q) : fm_212 yx1 σ = some (Int32.ofInt q.1, gx q.2) := by
  unfold gm_212 at h
  unfold fm_212
  obtain ⟨q39, w38, h⟩ := fx_bd h
  refine gb_bind (gf_150 es w38) ?_
  by_cases c40 : (gb q39.1) = 0
  · rw [if_pos c40] at h
    refine gb_t ((gc_eq (gb_b q39.1) kg_0 (gb_r _) (by decide)).mpr c40) ?_
    have h := Option.some.inj h
    subst h
    exact gret kg_m1 (rfl : _ = gx q39.2)
  · rw [if_neg c40] at h
    refine gb_f (fun q => c40 ((gc_eq (gb_b q39.1) kg_0 (gb_r _) (by decide)).mp q)) ?_
    obtain ⟨q42, w41, h⟩ := fx_bd h
    refine gb_bind (gf_148 e1 (rfl : _ = gx q39.2) w41) ?_
    by_cases c43 : ¬ (gb q42.1) = 0
    · rw [if_pos c43] at h
      refine gb_t ((gc_ne (gb_b q42.1) kg_0 (gb_r _) (by decide)).mpr c43) ?_
      obtain ⟨q45, w44, h⟩ := fx_bd h
      refine gb_bind (gf_205 e1 (rfl : _ = gx q42.2) w44) ?_
      obtain ⟨z46, h⟩ := fx_gd h
      by_cases c47 : ¬ (q45.1 215 42) = 0
      · rw [if_pos c47] at h
        refine gb_t ((gc_ne (gf1 (rfl : _ = gx q45) 215 42) kg_0 z46 (by decide)).mpr c47) ?_
        obtain ⟨q49, w48, h⟩ := fx_bd h
        refine gb_bind (gf_211 e1 kg_0 (gx_w1 (rfl : _ = gx q45) kg_0) w48) ?_
        exact gf_212_45 100000 _ _ e1 _ _ kg_0 _ _ kg_0 _ _ (rfl : _ = gx q49) _ h
      · rw [if_neg c47] at h
        refine gb_f (fun q => c47 ((gc_ne (gf1 (rfl : _ = gx q45) 215 42) kg_0 z46 (by decide)).mp q)) ?_
        have h := Option.some.inj h
        subst h
        exact gret kg_m1 (rfl : _ = gx q45)
    · rw [if_neg c43] at h
      refine gb_f (fun q => c43 ((gc_ne (gb_b q42.1) kg_0 (gb_r _) (by decide)).mp q)) ?_
      have h := Option.some.inj h
      subst h
      exact gret kg_m1 (rfl : _ = gx q42.2)

/-! ZoneSharesModel.adopt()I -/
def gm_217_135 : Nat → Int → Int → gx_S → Option (Int × gx_S)
  | 0, _, _, _ => none
  | n + 1, x1, x2, s =>
    if (-2147483648 ≤ x2 ∧ x2 ≤ 2147483647) then (
    if 96 ≤ x2 then (
      some (x1, s)) else (
      if 0 ≤ (148 + x2) ∧ (148 + x2) < 340 then (
      if 0 ≤ (52 + x2) ∧ (52 + x2) < 340 then (
      gm_217_135 n x1 (x2 + 1) (gw1 s 216 ((52 + x2)).toNat (s.1 216 ((148 + x2)).toNat))) else none) else none)) else none
theorem gf_217_135 : ∀ (n : Nat) (x1 : Int) (yx1 : Int32) (e1 : yx1 = Int32.ofInt x1) (x2 : Int) (yx2 : Int32) (e2 : yx2 = Int32.ofInt x2) (s : gx_S) (σ : fx_S) (es : σ = gx s) (q : Int × gx_S), gm_217_135 n x1 x2 s = some q → fm_217_135 n yx1 yx2 σ = some (Int32.ofInt q.1, gx q.2) := by
  intro n
  induction n with
  | zero =>
    intro x1 yx1 e1 x2 yx2 e2 s σ es q  h
    rw [gm_217_135] at h
    exact fx_no h
  | succ n ih =>
    intro x1 yx1 e1 x2 yx2 e2 s σ es q  h
    rw [gm_217_135] at h
    rw [fm_217_135]
    obtain ⟨z1, h⟩ := fx_gd h
    by_cases c2 : 96 ≤ x2
    · rw [if_pos c2] at h
      refine gb_t ((gc_le kg_96 e2 (by decide) z1).mpr c2) ?_
      have h := Option.some.inj h
      subst h
      exact gret e1 es
    · rw [if_neg c2] at h
      refine gb_f (fun q => c2 ((gc_le kg_96 e2 (by decide) z1).mp q)) ?_
      obtain ⟨z5, h⟩ := fx_gd h
      refine gb_bind (gl_ld es (ga_add kg_148 e2) ga_216 z5) ?_
      obtain ⟨z8, h⟩ := fx_gd h
      refine gb_bind (gl_st es (ga_add kg_52 e2) (gr (s.1 216 ((148 + x2)).toNat)) ga_216 z8) ?_
      exact ih _ _ e1 _ _ (ga_add e2 kg_1) _ _ (rfl : _ = gx (gw1 s 216 ((52 + x2)).toNat (s.1 216 ((148 + x2)).toNat))) _ h
def gm_217_107 : Nat → Int → Int → gx_S → Option (Int × gx_S)
  | 0, _, _, _ => none
  | n + 1, x1, x2, s =>
    if (-2147483648 ≤ x2 ∧ x2 ≤ 2147483647) then (
    if 27 ≤ x2 then (
      gm_217_135 100000 x1 0 s) else (
      if 0 ≤ x2 ∧ x2 < 27 then (
      if 0 ≤ (5 + x2) ∧ (5 + x2) < 340 then (
      gm_217_107 n x1 (x2 + 1) (gw1 s 216 ((5 + x2)).toNat (s.1 245 (x2).toNat))) else none) else none)) else none
theorem gf_217_107 : ∀ (n : Nat) (x1 : Int) (yx1 : Int32) (e1 : yx1 = Int32.ofInt x1) (x2 : Int) (yx2 : Int32) (e2 : yx2 = Int32.ofInt x2) (s : gx_S) (σ : fx_S) (es : σ = gx s) (q : Int × gx_S), gm_217_107 n x1 x2 s = some q → fm_217_107 n yx1 yx2 σ = some (Int32.ofInt q.1, gx q.2) := by
  intro n
  induction n with
  | zero =>
    intro x1 yx1 e1 x2 yx2 e2 s σ es q  h
    rw [gm_217_107] at h
    exact fx_no h
  | succ n ih =>
    intro x1 yx1 e1 x2 yx2 e2 s σ es q  h
    rw [gm_217_107] at h
    rw [fm_217_107]
    obtain ⟨z1, h⟩ := fx_gd h
    by_cases c2 : 27 ≤ x2
    · rw [if_pos c2] at h
      refine gb_t ((gc_le kg_27 e2 (by decide) z1).mpr c2) ?_
      exact gf_217_135 100000 _ _ e1 _ _ kg_0 _ _ es _ h
    · rw [if_neg c2] at h
      refine gb_f (fun q => c2 ((gc_le kg_27 e2 (by decide) z1).mp q)) ?_
      obtain ⟨z5, h⟩ := fx_gd h
      refine gb_bind (gl_ld es e2 ga_245 z5) ?_
      obtain ⟨z8, h⟩ := fx_gd h
      refine gb_bind (gl_st es (ga_add kg_5 e2) (gr (s.1 245 (x2).toNat)) ga_216 z8) ?_
      exact ih _ _ e1 _ _ (ga_add e2 kg_1) _ _ (rfl : _ = gx (gw1 s 216 ((5 + x2)).toNat (s.1 245 (x2).toNat))) _ h
def gm_217_67 (k_29 : Int → Int → Int → gx_S → Option (Int × gx_S)) (x2 : Int) (x3 : Int) (s0 : Int) (s1 : Int) (s : gx_S) : Option (Int × gx_S) :=
  k_29 (s0 + s1) x2 (x3 + 1) s
theorem gf_217_67 {kf_29 : Int32 → Int32 → Int32 → fx_S → Option (Int32 × fx_S)} {kg_29 : Int → Int → Int → gx_S → Option (Int × gx_S)} (hk_29 : ∀ (x1 : Int) (yx1 : Int32) (e1 : yx1 = Int32.ofInt x1) (x2 : Int) (yx2 : Int32) (e2 : yx2 = Int32.ofInt x2) (x3 : Int) (yx3 : Int32) (e3 : yx3 = Int32.ofInt x3) (s : gx_S) (σ : fx_S) (es : σ = gx s) (q : Int × gx_S), kg_29 x1 x2 x3 s = some q → kf_29 yx1 yx2 yx3 σ = some (Int32.ofInt q.1, gx q.2)) (x2 : Int) (yx2 : Int32) (e2 : yx2 = Int32.ofInt x2) (x3 : Int) (yx3 : Int32) (e3 : yx3 = Int32.ofInt x3) (s0 : Int) (ys0 : Int32) (es0 : ys0 = Int32.ofInt s0) (s1 : Int) (ys1 : Int32) (es1 : ys1 = Int32.ofInt s1) (s : gx_S) (σ : fx_S) (es : σ = gx s) (q : Int × gx_S) (h : gm_217_67 kg_29 x2 x3 s0 s1 s = some q) : fm_217_67 kf_29 yx2 yx3 ys0 ys1 σ = some (Int32.ofInt q.1, gx q.2) := by
  unfold gm_217_67 at h
  unfold fm_217_67
  exact hk_29 _ _ (ga_add es0 es1) _ _ e2 _ _ (ga_add e3 kg_1) _ _ es _ h
def gm_217_29 (k_13 : Int → Int → gx_S → Option (Int × gx_S)) : Nat → Int → Int → Int → gx_S → Option (Int × gx_S)
  | 0, _, _, _, _ => none
  | n + 1, x1, x2, x3, s =>
    if (-2147483648 ≤ x3 ∧ x3 ≤ 2147483647) then (
    if 9 ≤ x3 then (
      if 0 ≤ ((9 * x2) + 8) ∧ ((9 * x2) + 8) < 27 then (
      (gm_176 x2 s).bind fun q7 =>
      k_13 x1 (x2 + 1) (gw1 q7.2 245 (((9 * x2) + 8)).toNat ((s.1 245 (((9 * x2) + 8)).toNat) + q7.1))) else none) else (
      (gm_183 x3 s).bind fun q11 =>
      if 0 ≤ ((9 * x2) + x3) ∧ ((9 * x2) + x3) < 27 then (
      if 8 ≤ x3 then (
        gm_217_67 (gm_217_29 k_13 n) x2 x3 x1 0 (gw1 q11.2 245 (((9 * x2) + x3)).toNat q11.1)) else (
        (gm_183 x3 (gw1 q11.2 245 (((9 * x2) + x3)).toNat q11.1)).bind fun q17 =>
        gm_217_67 (gm_217_29 k_13 n) x2 x3 x1 q17.1 q17.2)) else none)) else none
theorem gf_217_29 {kf_13 : Int32 → Int32 → fx_S → Option (Int32 × fx_S)} {kg_13 : Int → Int → gx_S → Option (Int × gx_S)} (hk_13 : ∀ (x1 : Int) (yx1 : Int32) (e1 : yx1 = Int32.ofInt x1) (x2 : Int) (yx2 : Int32) (e2 : yx2 = Int32.ofInt x2) (s : gx_S) (σ : fx_S) (es : σ = gx s) (q : Int × gx_S), kg_13 x1 x2 s = some q → kf_13 yx1 yx2 σ = some (Int32.ofInt q.1, gx q.2)) : ∀ (n : Nat) (x1 : Int) (yx1 : Int32) (e1 : yx1 = Int32.ofInt x1) (x2 : Int) (yx2 : Int32) (e2 : yx2 = Int32.ofInt x2) (x3 : Int) (yx3 : Int32) (e3 : yx3 = Int32.ofInt x3) (s : gx_S) (σ : fx_S) (es : σ = gx s) (q : Int × gx_S), gm_217_29 kg_13 n x1 x2 x3 s = some q → fm_217_29 kf_13 n yx1 yx2 yx3 σ = some (Int32.ofInt q.1, gx q.2) := by
  intro n
  induction n with
  | zero =>
    intro x1 yx1 e1 x2 yx2 e2 x3 yx3 e3 s σ es q  h
    rw [gm_217_29] at h
    exact fx_no h
  | succ n ih =>
    intro x1 yx1 e1 x2 yx2 e2 x3 yx3 e3 s σ es q  h
    rw [gm_217_29] at h
    rw [fm_217_29]
    obtain ⟨z1, h⟩ := fx_gd h
    by_cases c2 : 9 ≤ x3
    · rw [if_pos c2] at h
      refine gb_t ((gc_le kg_9 e3 (by decide) z1).mpr c2) ?_
      obtain ⟨z5, h⟩ := fx_gd h
      refine gb_bind (gl_ld es (ga_add (ga_mul kg_9 e2) kg_8) ga_245 z5) ?_
      obtain ⟨q7, w6, h⟩ := fx_bd h
      refine gb_bind (gf_176 e2 es w6) ?_
      refine gb_bind (gl_st (rfl : _ = gx q7.2) (ga_add (ga_mul kg_9 e2) kg_8) (ga_add (gr (s.1 245 (((9 * x2) + 8)).toNat)) (gr q7.1)) ga_245 z5) ?_
      exact hk_13 _ _ e1 _ _ (ga_add e2 kg_1) _ _ (rfl : _ = gx (gw1 q7.2 245 (((9 * x2) + 8)).toNat ((s.1 245 (((9 * x2) + 8)).toNat) + q7.1))) _ h
    · rw [if_neg c2] at h
      refine gb_f (fun q => c2 ((gc_le kg_9 e3 (by decide) z1).mp q)) ?_
      obtain ⟨q11, w10, h⟩ := fx_bd h
      refine gb_bind (gf_183 e3 es w10) ?_
      obtain ⟨z14, h⟩ := fx_gd h
      refine gb_bind (gl_st (rfl : _ = gx q11.2) (ga_add (ga_mul kg_9 e2) e3) (gr q11.1) ga_245 z14) ?_
      by_cases c15 : 8 ≤ x3
      · rw [if_pos c15] at h
        refine gb_t ((gc_le kg_8 e3 (by decide) z1).mpr c15) ?_
        exact gf_217_67 ih _ _ e2 _ _ e3 _ _ e1 _ _ kg_0 _ _ (rfl : _ = gx (gw1 q11.2 245 (((9 * x2) + x3)).toNat q11.1)) _ h
      · rw [if_neg c15] at h
        refine gb_f (fun q => c15 ((gc_le kg_8 e3 (by decide) z1).mp q)) ?_
        obtain ⟨q17, w16, h⟩ := fx_bd h
        refine gb_bind (gf_183 e3 (rfl : _ = gx (gw1 q11.2 245 (((9 * x2) + x3)).toNat q11.1)) w16) ?_
        exact gf_217_67 ih _ _ e2 _ _ e3 _ _ e1 _ _ (gr q17.1) _ _ (rfl : _ = gx q17.2) _ h
def gm_217_13 : Nat → Int → Int → gx_S → Option (Int × gx_S)
  | 0, _, _, _ => none
  | n + 1, x1, x2, s =>
    if (-2147483648 ≤ x2 ∧ x2 ≤ 2147483647) then (
    if 3 ≤ x2 then (
      (gm_132 s).bind fun q4 =>
      gm_217_107 100000 x1 0 q4) else (
      (gm_181 x2 s).bind fun q6 =>
      (gm_173 q6).bind fun q8 =>
      gm_217_29 (gm_217_13 n) 100000 x1 x2 0 q8)) else none
theorem gf_217_13 : ∀ (n : Nat) (x1 : Int) (yx1 : Int32) (e1 : yx1 = Int32.ofInt x1) (x2 : Int) (yx2 : Int32) (e2 : yx2 = Int32.ofInt x2) (s : gx_S) (σ : fx_S) (es : σ = gx s) (q : Int × gx_S), gm_217_13 n x1 x2 s = some q → fm_217_13 n yx1 yx2 σ = some (Int32.ofInt q.1, gx q.2) := by
  intro n
  induction n with
  | zero =>
    intro x1 yx1 e1 x2 yx2 e2 s σ es q  h
    rw [gm_217_13] at h
    exact fx_no h
  | succ n ih =>
    intro x1 yx1 e1 x2 yx2 e2 s σ es q  h
    rw [gm_217_13] at h
    rw [fm_217_13]
    obtain ⟨z1, h⟩ := fx_gd h
    by_cases c2 : 3 ≤ x2
    · rw [if_pos c2] at h
      refine gb_t ((gc_le kg_3 e2 (by decide) z1).mpr c2) ?_
      obtain ⟨q4, w3, h⟩ := fx_bd h
      refine gb_bind (gf_132 es w3) ?_
      exact gf_217_107 100000 _ _ e1 _ _ kg_0 _ _ (rfl : _ = gx q4) _ h
    · rw [if_neg c2] at h
      refine gb_f (fun q => c2 ((gc_le kg_3 e2 (by decide) z1).mp q)) ?_
      obtain ⟨q6, w5, h⟩ := fx_bd h
      refine gb_bind (gf_181 e2 es w5) ?_
      obtain ⟨q8, w7, h⟩ := fx_bd h
      refine gb_bind (gf_173 (rfl : _ = gx q6) w7) ?_
      exact gf_217_29 ih 100000 _ _ e1 _ _ e2 _ _ kg_0 _ _ (rfl : _ = gx q8) _ h
def gm_217 (s : gx_S) : Option (Int × gx_S) :=
  (gm_150 s).bind fun q62 =>
  if ¬ (gb q62.1) = 0 then (
    gm_217_13 100000 0 0 q62.2) else (
    some ((-1), q62.2))
theorem gf_217 {s : gx_S} {σ : fx_S} (es : σ = gx s) {q : Int × gx_S} (h : gm_217 s = some q) : fm_217 σ = some (Int32.ofInt q.1, gx q.2) := by
  unfold gm_217 at h
  unfold fm_217
  obtain ⟨q62, w61, h⟩ := fx_bd h
  refine gb_bind (gf_150 es w61) ?_
  by_cases c63 : ¬ (gb q62.1) = 0
  · rw [if_pos c63] at h
    refine gb_t ((gc_ne (gb_b q62.1) kg_0 (gb_r _) (by decide)).mpr c63) ?_
    exact gf_217_13 100000 _ _ kg_0 _ _ kg_0 _ _ (rfl : _ = gx q62.2) _ h
  · rw [if_neg c63] at h
    refine gb_f (fun q => c63 ((gc_ne (gb_b q62.1) kg_0 (gb_r _) (by decide)).mp q)) ?_
    have h := Option.some.inj h
    subst h
    exact gret kg_m1 (rfl : _ = gx q62.2)

/-! ZoneSharesModel.movedAll()I -/
def gm_224_38 (x1 : Int) (s : gx_S) : Option (Int × gx_S) :=
  some (x1, s)
theorem gf_224_38 (x1 : Int) (yx1 : Int32) (e1 : yx1 = Int32.ofInt x1) (s : gx_S) (σ : fx_S) (es : σ = gx s) (q : Int × gx_S) (h : gm_224_38 x1 s = some q) : fm_224_38 yx1 σ = some (Int32.ofInt q.1, gx q.2) := by
  unfold gm_224_38 at h
  unfold fm_224_38
  have h := Option.some.inj h
  subst h
  exact gret e1 es
def gm_224_4 : Nat → Int → Int → gx_S → Option (Int × gx_S)
  | 0, _, _, _ => none
  | n + 1, x1, x2, s =>
    if (-2147483648 ≤ x2 ∧ x2 ≤ 2147483647) then (
    if 3 ≤ x2 then (
      gm_224_38 x1 s) else (
      (gm_150 s).bind fun q4 =>
      if (gb q4.1) = 0 then (
        gm_224_38 x1 q4.2) else (
        (gm_181 x2 q4.2).bind fun q7 =>
        (gm_173 q7).bind fun q9 =>
        (gm_184 q9).bind fun q11 =>
        gm_224_4 n (x1 + q11.1) (x2 + 1) q11.2))) else none
theorem gf_224_4 : ∀ (n : Nat) (x1 : Int) (yx1 : Int32) (e1 : yx1 = Int32.ofInt x1) (x2 : Int) (yx2 : Int32) (e2 : yx2 = Int32.ofInt x2) (s : gx_S) (σ : fx_S) (es : σ = gx s) (q : Int × gx_S), gm_224_4 n x1 x2 s = some q → fm_224_4 n yx1 yx2 σ = some (Int32.ofInt q.1, gx q.2) := by
  intro n
  induction n with
  | zero =>
    intro x1 yx1 e1 x2 yx2 e2 s σ es q  h
    rw [gm_224_4] at h
    exact fx_no h
  | succ n ih =>
    intro x1 yx1 e1 x2 yx2 e2 s σ es q  h
    rw [gm_224_4] at h
    rw [fm_224_4]
    obtain ⟨z1, h⟩ := fx_gd h
    by_cases c2 : 3 ≤ x2
    · rw [if_pos c2] at h
      refine gb_t ((gc_le kg_3 e2 (by decide) z1).mpr c2) ?_
      exact gf_224_38 _ _ e1 _ _ es _ h
    · rw [if_neg c2] at h
      refine gb_f (fun q => c2 ((gc_le kg_3 e2 (by decide) z1).mp q)) ?_
      obtain ⟨q4, w3, h⟩ := fx_bd h
      refine gb_bind (gf_150 es w3) ?_
      by_cases c5 : (gb q4.1) = 0
      · rw [if_pos c5] at h
        refine gb_t ((gc_eq (gb_b q4.1) kg_0 (gb_r _) (by decide)).mpr c5) ?_
        exact gf_224_38 _ _ e1 _ _ (rfl : _ = gx q4.2) _ h
      · rw [if_neg c5] at h
        refine gb_f (fun q => c5 ((gc_eq (gb_b q4.1) kg_0 (gb_r _) (by decide)).mp q)) ?_
        obtain ⟨q7, w6, h⟩ := fx_bd h
        refine gb_bind (gf_181 e2 (rfl : _ = gx q4.2) w6) ?_
        obtain ⟨q9, w8, h⟩ := fx_bd h
        refine gb_bind (gf_173 (rfl : _ = gx q7) w8) ?_
        obtain ⟨q11, w10, h⟩ := fx_bd h
        refine gb_bind (gf_184 (rfl : _ = gx q9) w10) ?_
        exact ih _ _ (ga_add e1 (gr q11.1)) _ _ (ga_add e2 kg_1) _ _ (rfl : _ = gx q11.2) _ h
def gm_224 (s : gx_S) : Option (Int × gx_S) :=
  gm_224_4 100000 0 0 s
theorem gf_224 {s : gx_S} {σ : fx_S} (es : σ = gx s) {q : Int × gx_S} (h : gm_224 s = some q) : fm_224 σ = some (Int32.ofInt q.1, gx q.2) := by
  unfold gm_224 at h
  unfold fm_224
  exact gf_224_4 100000 _ _ kg_0 _ _ kg_0 _ _ es _ h
