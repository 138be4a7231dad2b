/-! ZoneShares.byWay(II)I -/
def gm_103 (x1 : Int) (x2 : Int) (s : gx_S) : Option (Int × gx_S) :=
  (gm_114 x1 s).bind fun q19 =>
  if (gb q19.1) = 0 then (
    some ((-1), q19.2)) else (
    (gm_115 x2 q19.2).bind fun q22 =>
    if (gb q22.1) = 0 then (
      some ((-1), q22.2)) else (
      (gm_57 1 q22.2).bind fun q25 =>
      if ¬ (gb q25.1) = 0 then (
        if 0 ≤ x1 ∧ x1 < 3 then (
        (some (fx_rf 70 (x1).toNat)).bind fun v27 =>
        (gm_19 v27 16 q25.2).bind fun q32 =>
        (gm_76 (v27 + 30) x2 q32).bind fun q34 =>
        some (q34.1, q34.2)) else none) else (
        some ((-1), q25.2))))
/-! ZoneShares.returned(II)I -/
def gm_104 (x1 : Int) (x2 : Int) (s : gx_S) : Option (Int × gx_S) :=
  (gm_118 x1 x2 s).bind fun q13 =>
  if ¬ (gb q13.1) = 0 then (
    if 0 ≤ x1 ∧ x1 < 3 then (
    (some (fx_rf 70 (x1).toNat)).bind fun v15 =>
    (gm_19 v15 4 q13.2).bind fun q20 =>
    (gm_76 (v15 + 12) x2 q20).bind fun q22 =>
    some (q22.1, q22.2)) else none) else (
    some ((-1), q13.2))
/-! ZoneShares.astray(I)I -/
def gm_105_37 : Nat → Nat → Int → Int → gx_S → Option (Int × gx_S)
  | 0, _, _, _, _ => none
  | n + 1, x2, x3, x4, s =>
    if (-2147483648 ≤ x4 ∧ x4 ≤ 2147483647) then (
    if 8 ≤ x4 then (
      some (x3, s)) else (
      if 0 ≤ x4 ∧ x4 < 8 then (
      (gm_76 (x2 + 12) x4 s).bind fun q7 =>
      if (-2147483648 ≤ ((s.1 (x2 + 1) (x4).toNat) - q7.1) ∧ ((s.1 (x2 + 1) (x4).toNat) - q7.1) ≤ 2147483647) then (
      gm_105_37 n x2 (x3 + (if 0 ≤ ((s.1 (x2 + 1) (x4).toNat) - q7.1) then ((s.1 (x2 + 1) (x4).toNat) - q7.1) else 0 - ((s.1 (x2 + 1) (x4).toNat) - q7.1))) (x4 + 1) q7.2) else none) else none)) else none
def gm_105 (x1 : Int) (s : gx_S) : Option (Int × gx_S) :=
  (gm_114 x1 s).bind fun q22 =>
  if (gb q22.1) = 0 then (
    some ((-1), q22.2)) else (
    (gm_57 1 q22.2).bind fun q25 =>
    if ¬ (gb q25.1) = 0 then (
      if 0 ≤ x1 ∧ x1 < 3 then (
      (some (fx_rf 70 (x1).toNat)).bind fun v27 =>
      (gm_19 v27 4 q25.2).bind fun q32 =>
      gm_105_37 100000 v27 0 0 q32) else none) else (
      some ((-1), q25.2)))
/-! ZoneShares.surface(IIII)J -/
def gm_106_40 (s : gx_S) : Option (Int × gx_S) :=
  some ((-1), s)
theorem gf_106_40 (s : gx_S) (σ : fx_S) (es : σ = gx s) (q : Int × gx_S) (h : gm_106_40 s = some q) : fm_106_40 σ = some (Int64.ofInt q.1, gx q.2) := by
  unfold gm_106_40 at h
  unfold fm_106_40
  have h := Option.some.inj h
  subst h
  exact gretl kgl_m1 es
def gm_106 (x1 : Int) (x2 : Int) (x3 : Int) (x4 : Int) (s : gx_S) : Option (Int × gx_S) :=
  (gm_114 x1 s).bind fun q28 =>
  if (gb q28.1) = 0 then (
    gm_106_40 q28.2) else (
    (gm_57 1 q28.2).bind fun q31 =>
    if (gb q31.1) = 0 then (
      gm_106_40 q31.2) else (
      (gm_59 1 x2 x3 q31.2).bind fun q34 =>
      if (gb q34.1) = 0 then (
        gm_106_40 q34.2) else (
        if (-2147483648 ≤ x4 ∧ x4 ≤ 2147483647) then (
        if x4 < 0 then (
          gm_106_40 q34.2) else (
          if x4 ≤ 1 then (
            if 0 ≤ x1 ∧ x1 < 3 then (
            (some (fx_rf 70 (x1).toNat)).bind fun v39 =>
            (gm_19 v39 2 q34.2).bind fun q44 =>
            (gm_27 v39 ((x2 * (q44.1 1 5)) + x3) q44).bind fun q46 =>
            if (-2147483648 ≤ q46.1 ∧ q46.1 ≤ 2147483647) then (
            (gm_28 v39 ((x2 * (q44.1 1 5)) + x3) q46.2).bind fun q49 =>
            if (-2147483648 ≤ q49.1 ∧ q49.1 ≤ 2147483647) then (
            (gm_127 q46.1 q49.1 x4 q49.2).bind fun q52 =>
            some (q52.1, q52.2)) else none) else none) else none) else (
            gm_106_40 q34.2))) else none)))
theorem gf_106 {x1 : Int} {yx1 : Int32} (e1 : yx1 = Int32.ofInt x1) {x2 : Int} {yx2 : Int32} (e2 : yx2 = Int32.ofInt x2) {x3 : Int} {yx3 : Int32} (e3 : yx3 = Int32.ofInt x3) {x4 : Int} {yx4 : Int32} (e4 : yx4 = Int32.ofInt x4) {s : gx_S} {σ : fx_S} (es : σ = gx s) {q : Int × gx_S} (h : gm_106 x1 x2 x3 x4 s = some q) : fm_106 yx1 yx2 yx3 yx4 σ = some (Int64.ofInt q.1, gx q.2) := by
  unfold gm_106 at h
  unfold fm_106
  obtain ⟨q28, w27, h⟩ := fx_bd h
  refine gb_bind (gf_114 e1 es w27) ?_
  by_cases c29 : (gb q28.1) = 0
  · rw [if_pos c29] at h
    refine gb_t ((gc_eq (gb_b q28.1) kg_0 (gb_r _) (by decide)).mpr c29) ?_
    exact gf_106_40 _ _ (rfl : _ = gx q28.2) _ h
  · rw [if_neg c29] at h
    refine gb_f (fun q => c29 ((gc_eq (gb_b q28.1) kg_0 (gb_r _) (by decide)).mp q)) ?_
    obtain ⟨q31, w30, h⟩ := fx_bd h
    refine gb_bind (gf_57 (rfl : _ = gx q28.2) w30) ?_
    by_cases c32 : (gb q31.1) = 0
    · rw [if_pos c32] at h
      refine gb_t ((gc_eq (gb_b q31.1) kg_0 (gb_r _) (by decide)).mpr c32) ?_
      exact gf_106_40 _ _ (rfl : _ = gx q31.2) _ h
    · rw [if_neg c32] at h
      refine gb_f (fun q => c32 ((gc_eq (gb_b q31.1) kg_0 (gb_r _) (by decide)).mp q)) ?_
      obtain ⟨q34, w33, h⟩ := fx_bd h
      refine gb_bind (gf_59 e2 e3 (rfl : _ = gx q31.2) w33) ?_
      by_cases c35 : (gb q34.1) = 0
      · rw [if_pos c35] at h
        refine gb_t ((gc_eq (gb_b q34.1) kg_0 (gb_r _) (by decide)).mpr c35) ?_
        exact gf_106_40 _ _ (rfl : _ = gx q34.2) _ h
      · rw [if_neg c35] at h
        refine gb_f (fun q => c35 ((gc_eq (gb_b q34.1) kg_0 (gb_r _) (by decide)).mp q)) ?_
        obtain ⟨z36, h⟩ := fx_gd h
        by_cases c37 : x4 < 0
        · rw [if_pos c37] at h
          refine gb_t ((gc_lt e4 kg_0 z36 (by decide)).mpr c37) ?_
          exact gf_106_40 _ _ (rfl : _ = gx q34.2) _ h
        · rw [if_neg c37] at h
          refine gb_f (fun q => c37 ((gc_lt e4 kg_0 z36 (by decide)).mp q)) ?_
          by_cases c38 : x4 ≤ 1
          · rw [if_pos c38] at h
            refine gb_t ((gc_le e4 kg_1 z36 (by decide)).mpr c38) ?_
            obtain ⟨z42, h⟩ := fx_gd h
            obtain ⟨v39, w40, h⟩ := fx_bd h
            have g41 := fa_70 ((gl_ldr (t := 4) e1 ga_70 z42).trans w40)
            refine gb_bind ((gl_ldr e1 ga_70 z42).trans w40) ?_
            obtain ⟨q44, w43, h⟩ := fx_bd h
            refine gb_bind (gf_19 kg_2 (rfl : _ = gx q34.2) w43) ?_
            obtain ⟨q46, w45, h⟩ := fx_bd h
            refine gb_bind (gf_27 (ga_add (ga_mul e2 (gf1 (rfl : _ = gx q44) 1 5)) e3) (rfl : _ = gx q44) w45) ?_
            obtain ⟨z47, h⟩ := fx_gd h
            obtain ⟨q49, w48, h⟩ := fx_bd h
            refine gb_bind (gf_28 (ga_add (ga_mul e2 (gf1 (rfl : _ = gx q44) 1 5)) e3) (rfl : _ = gx q46.2) w48) ?_
            obtain ⟨z50, h⟩ := fx_gd h
            obtain ⟨q52, w51, h⟩ := fx_bd h
            refine gb_bind (gf_127 (ga_i2l (gr q46.1) z47) (ga_i2l (gr q49.1) z50) e4 (rfl : _ = gx q49.2) w51) ?_
            have h := Option.some.inj h
            subst h
            exact gretl (gr2 q52.1) (rfl : _ = gx q52.2)
          · rw [if_neg c38] at h
            refine gb_f (fun q => c38 ((gc_le e4 kg_1 z36 (by decide)).mp q)) ?_
            exact gf_106_40 _ _ (rfl : _ = gx q34.2) _ h

/-! ZoneShares.densest(II)I -/
def gm_107 (x1 : Int) (x2 : Int) (s : gx_S) : Option (Int × gx_S) :=
  (gm_114 x1 s).bind fun q27 =>
  if (gb q27.1) = 0 then (
    some ((-1), q27.2)) else (
    (gm_57 1 q27.2).bind fun q30 =>
    if (gb q30.1) = 0 then (
      some ((-1), q30.2)) else (
      if (-2147483648 ≤ x2 ∧ x2 ≤ 2147483647) then (
      if x2 < 0 then (
        some ((-1), q30.2)) else (
        (gm_58 1 q30.2).bind fun q35 =>
        if (-2147483648 ≤ q35.1 ∧ q35.1 ≤ 2147483647) then (
        if x2 < q35.1 then (
          if 0 ≤ x1 ∧ x1 < 3 then (
          (some (fx_rf 70 (x1).toNat)).bind fun v38 =>
          (gm_19 v38 32 q35.2).bind fun q43 =>
          if 0 ≤ x2 ∧ x2 < 96 then (
          if (-2147483648 ≤ (q43.1 1 5) ∧ (q43.1 1 5) ≤ 2147483647) then (
          if 0 ≤ (q43.1 (v38 + 2) (x2).toNat) ∧ (q43.1 (v38 + 2) (x2).toNat) ≤ 2147483647 ∧ 0 < (if 1 < (q43.1 1 5) then (q43.1 1 5) else 1) ∧ (if 1 < (q43.1 1 5) then (q43.1 1 5) else 1) ≤ 2147483647 then (
          some (((12 * ((q43.1 (v38 + 2) (x2).toNat) / (if 1 < (q43.1 1 5) then (q43.1 1 5) else 1))) + ((q43.1 (v38 + 2) (x2).toNat) % (if 1 < (q43.1 1 5) then (q43.1 1 5) else 1))), q43)) else none) else none) else none) else none) else (
          some ((-1), q35.2))) else none)) else none))
theorem gf_107 {x1 : Int} {yx1 : Int32} (e1 : yx1 = Int32.ofInt x1) {x2 : Int} {yx2 : Int32} (e2 : yx2 = Int32.ofInt x2) {s : gx_S} {σ : fx_S} (es : σ = gx s) {q : Int × gx_S} (h : gm_107 x1 x2 s = some q) : fm_107 yx1 yx2 σ = some (Int32.ofInt q.1, gx q.2) := by
  unfold gm_107 at h
  unfold fm_107
  obtain ⟨q27, w26, h⟩ := fx_bd h
  refine gb_bind (gf_114 e1 es w26) ?_
  by_cases c28 : (gb q27.1) = 0
  · rw [if_pos c28] at h
    refine gb_t ((gc_eq (gb_b q27.1) kg_0 (gb_r _) (by decide)).mpr c28) ?_
    have h := Option.some.inj h
    subst h
    exact gret kg_m1 (rfl : _ = gx q27.2)
  · rw [if_neg c28] at h
    refine gb_f (fun q => c28 ((gc_eq (gb_b q27.1) kg_0 (gb_r _) (by decide)).mp q)) ?_
    obtain ⟨q30, w29, h⟩ := fx_bd h
    refine gb_bind (gf_57 (rfl : _ = gx q27.2) w29) ?_
    by_cases c31 : (gb q30.1) = 0
    · rw [if_pos c31] at h
      refine gb_t ((gc_eq (gb_b q30.1) kg_0 (gb_r _) (by decide)).mpr c31) ?_
      have h := Option.some.inj h
      subst h
      exact gret kg_m1 (rfl : _ = gx q30.2)
    · rw [if_neg c31] at h
      refine gb_f (fun q => c31 ((gc_eq (gb_b q30.1) kg_0 (gb_r _) (by decide)).mp q)) ?_
      obtain ⟨z32, h⟩ := fx_gd h
      by_cases c33 : x2 < 0
      · rw [if_pos c33] at h
        refine gb_t ((gc_lt e2 kg_0 z32 (by decide)).mpr c33) ?_
        have h := Option.some.inj h
        subst h
        exact gret kg_m1 (rfl : _ = gx q30.2)
      · rw [if_neg c33] at h
        refine gb_f (fun q => c33 ((gc_lt e2 kg_0 z32 (by decide)).mp q)) ?_
        obtain ⟨q35, w34, h⟩ := fx_bd h
        refine gb_bind (gf_58 (rfl : _ = gx q30.2) w34) ?_
        obtain ⟨z36, h⟩ := fx_gd h
        by_cases c37 : x2 < q35.1
        · rw [if_pos c37] at h
          refine gb_t ((gc_lt e2 (gr q35.1) z32 z36).mpr c37) ?_
          obtain ⟨z41, h⟩ := fx_gd h
          obtain ⟨v38, w39, h⟩ := fx_bd h
          have g40 := fa_70 ((gl_ldr (t := 4) e1 ga_70 z41).trans w39)
          refine gb_bind ((gl_ldr e1 ga_70 z41).trans w39) ?_
          obtain ⟨q43, w42, h⟩ := fx_bd h
          refine gb_bind (gf_19 kg_32 (rfl : _ = gx q35.2) w42) ?_
          obtain ⟨z46, h⟩ := fx_gd h
          refine gb_bind (gl_ld (rfl : _ = gx q43) e2 (ga_2_1 g40) z46) ?_
          obtain ⟨z47, h⟩ := fx_gd h
          obtain ⟨z48, h⟩ := fx_gd h
          refine gb_t (gc_nz (ga_gt_ite kg_1 (gf1 (rfl : _ = gx q43) 1 5) (by decide) z47) z48) ?_
          refine gb_t (gc_nz (ga_gt_ite kg_1 (gf1 (rfl : _ = gx q43) 1 5) (by decide) z47) z48) ?_
          have h := Option.some.inj h
          subst h
          exact gret (ga_add (ga_mul kg_12 (ga_div (gr (q43.1 (v38 + 2) (x2).toNat)) (ga_gt_ite kg_1 (gf1 (rfl : _ = gx q43) 1 5) (by decide) z47) z48)) (ga_rem (gr (q43.1 (v38 + 2) (x2).toNat)) (ga_gt_ite kg_1 (gf1 (rfl : _ = gx q43) 1 5) (by decide) z47) z48)) (rfl : _ = gx q43)
        · rw [if_neg c37] at h
          refine gb_f (fun q => c37 ((gc_lt e2 (gr q35.1) z32 z36).mp q)) ?_
          have h := Option.some.inj h
          subst h
          exact gret kg_m1 (rfl : _ = gx q35.2)

/-! ZoneShares.count(I)I -/
def gm_111 (x1 : Int) (s : gx_S) : Option (Int × gx_S) :=
  if (-2147483648 ≤ x1 ∧ x1 ≤ 2147483647) then (
  if x1 = 0 then (
    (gm_58 1 s).bind fun q50 =>
    some (q50.1, q50.2)) else (
    if x1 = 1 then (
      some ((s.1 1 4), s)) else (
      if x1 = 2 then (
        (gm_63 1 0 8 s).bind fun q48 =>
        some (q48.1, q48.2)) else (
        if x1 = 3 then (
          (gm_63 1 1 8 s).bind fun q46 =>
          some (q46.1, q46.2)) else (
          if x1 = 4 then (
            (gm_63 1 2 4 s).bind fun q44 =>
            some (q44.1, q44.2)) else (
            if x1 = 5 then (
              some ((s.1 1 7), s)) else (
              if x1 = 6 then (
                some ((s.1 1 8), s)) else (
                if x1 = 7 then (
                  some ((s.1 1 6), s)) else (
                  if x1 = 8 then (
                    some ((s.1 16 2), s)) else (
                    if x1 = 9 then (
                      some ((s.1 14 1), s)) else (
                      if x1 = 10 then (
                        (gm_126 1 s).bind fun q42 =>
                        some (q42.1, q42.2)) else (
                        if x1 = 11 then (
                          (gm_126 0 s).bind fun q40 =>
                          some (q40.1, q40.2)) else (
                          some ((-1), s)))))))))))))) else none
theorem gf_111 {x1 : Int} {yx1 : Int32} (e1 : yx1 = Int32.ofInt x1) {s : gx_S} {σ : fx_S} (es : σ = gx s) {q : Int × gx_S} (h : gm_111 x1 s = some q) : fm_111 yx1 σ = some (Int32.ofInt q.1, gx q.2) := by
  unfold gm_111 at h
  unfold fm_111
  obtain ⟨z38, h⟩ := fx_gd h
  by_cases c26 : x1 = 0
  · rw [if_pos c26] at h
    refine gb_t ((gc_eq e1 kg_0 z38 (by decide)).mpr c26) ?_
    obtain ⟨q50, w49, h⟩ := fx_bd h
    refine gb_bind (gf_58 es w49) ?_
    have h := Option.some.inj h
    subst h
    exact gret (gr q50.1) (rfl : _ = gx q50.2)
  · rw [if_neg c26] at h
    refine gb_f (fun q => c26 ((gc_eq e1 kg_0 z38 (by decide)).mp q)) ?_
    by_cases c27 : x1 = 1
    · rw [if_pos c27] at h
      refine gb_t ((gc_eq e1 kg_1 z38 (by decide)).mpr c27) ?_
      have h := Option.some.inj h
      subst h
      exact gret (gf1 es 1 4) es
    · rw [if_neg c27] at h
      refine gb_f (fun q => c27 ((gc_eq e1 kg_1 z38 (by decide)).mp q)) ?_
      by_cases c28 : x1 = 2
      · rw [if_pos c28] at h
        refine gb_t ((gc_eq e1 kg_2 z38 (by decide)).mpr c28) ?_
        obtain ⟨q48, w47, h⟩ := fx_bd h
        refine gb_bind (gf_63 kg_0 kg_8 es w47) ?_
        have h := Option.some.inj h
        subst h
        exact gret (gr q48.1) (rfl : _ = gx q48.2)
      · rw [if_neg c28] at h
        refine gb_f (fun q => c28 ((gc_eq e1 kg_2 z38 (by decide)).mp q)) ?_
        by_cases c29 : x1 = 3
        · rw [if_pos c29] at h
          refine gb_t ((gc_eq e1 kg_3 z38 (by decide)).mpr c29) ?_
          obtain ⟨q46, w45, h⟩ := fx_bd h
          refine gb_bind (gf_63 kg_1 kg_8 es w45) ?_
          have h := Option.some.inj h
          subst h
          exact gret (gr q46.1) (rfl : _ = gx q46.2)
        · rw [if_neg c29] at h
          refine gb_f (fun q => c29 ((gc_eq e1 kg_3 z38 (by decide)).mp q)) ?_
          by_cases c30 : x1 = 4
          · rw [if_pos c30] at h
            refine gb_t ((gc_eq e1 kg_4 z38 (by decide)).mpr c30) ?_
            obtain ⟨q44, w43, h⟩ := fx_bd h
            refine gb_bind (gf_63 kg_2 kg_4 es w43) ?_
            have h := Option.some.inj h
            subst h
            exact gret (gr q44.1) (rfl : _ = gx q44.2)
          · rw [if_neg c30] at h
            refine gb_f (fun q => c30 ((gc_eq e1 kg_4 z38 (by decide)).mp q)) ?_
            by_cases c31 : x1 = 5
            · rw [if_pos c31] at h
              refine gb_t ((gc_eq e1 kg_5 z38 (by decide)).mpr c31) ?_
              have h := Option.some.inj h
              subst h
              exact gret (gf1 es 1 7) es
            · rw [if_neg c31] at h
              refine gb_f (fun q => c31 ((gc_eq e1 kg_5 z38 (by decide)).mp q)) ?_
              by_cases c32 : x1 = 6
              · rw [if_pos c32] at h
                refine gb_t ((gc_eq e1 kg_6 z38 (by decide)).mpr c32) ?_
                have h := Option.some.inj h
                subst h
                exact gret (gf1 es 1 8) es
              · rw [if_neg c32] at h
                refine gb_f (fun q => c32 ((gc_eq e1 kg_6 z38 (by decide)).mp q)) ?_
                by_cases c33 : x1 = 7
                · rw [if_pos c33] at h
                  refine gb_t ((gc_eq e1 kg_7 z38 (by decide)).mpr c33) ?_
                  have h := Option.some.inj h
                  subst h
                  exact gret (gf1 es 1 6) es
                · rw [if_neg c33] at h
                  refine gb_f (fun q => c33 ((gc_eq e1 kg_7 z38 (by decide)).mp q)) ?_
                  by_cases c34 : x1 = 8
                  · rw [if_pos c34] at h
                    refine gb_t ((gc_eq e1 kg_8 z38 (by decide)).mpr c34) ?_
                    have h := Option.some.inj h
                    subst h
                    exact gret (gf1 es 16 2) es
                  · rw [if_neg c34] at h
                    refine gb_f (fun q => c34 ((gc_eq e1 kg_8 z38 (by decide)).mp q)) ?_
                    by_cases c35 : x1 = 9
                    · rw [if_pos c35] at h
                      refine gb_t ((gc_eq e1 kg_9 z38 (by decide)).mpr c35) ?_
                      have h := Option.some.inj h
                      subst h
                      exact gret (gf1 es 14 1) es
                    · rw [if_neg c35] at h
                      refine gb_f (fun q => c35 ((gc_eq e1 kg_9 z38 (by decide)).mp q)) ?_
                      by_cases c36 : x1 = 10
                      · rw [if_pos c36] at h
                        refine gb_t ((gc_eq e1 kg_10 z38 (by decide)).mpr c36) ?_
                        obtain ⟨q42, w41, h⟩ := fx_bd h
                        refine gb_bind (gf_126 kg_1 es w41) ?_
                        have h := Option.some.inj h
                        subst h
                        exact gret (gr q42.1) (rfl : _ = gx q42.2)
                      · rw [if_neg c36] at h
                        refine gb_f (fun q => c36 ((gc_eq e1 kg_10 z38 (by decide)).mp q)) ?_
                        by_cases c37 : x1 = 11
                        · rw [if_pos c37] at h
                          refine gb_t ((gc_eq e1 kg_11 z38 (by decide)).mpr c37) ?_
                          obtain ⟨q40, w39, h⟩ := fx_bd h
                          refine gb_bind (gf_126 kg_0 es w39) ?_
                          have h := Option.some.inj h
                          subst h
                          exact gret (gr q40.1) (rfl : _ = gx q40.2)
                        · rw [if_neg c37] at h
                          refine gb_f (fun q => c37 ((gc_eq e1 kg_11 z38 (by decide)).mp q)) ?_
                          have h := Option.some.inj h
                          subst h
                          exact gret kg_m1 es

/-! ZoneSharesModel.finds(I)Z -/
def gm_168_111 (k168 : Int → gx_S → Option (Bool × gx_S)) (k169 : Int → gx_S → Option (Bool × gx_S)) (k_2 : Int → Int → gx_S → Option (Bool × gx_S)) (x1 : Int) (x2 : Int) (s : gx_S) : Option (Bool × gx_S) :=
  k_2 x1 (x2 + 1) s
def gm_168_88 (k168 : Int → gx_S → Option (Bool × gx_S)) (k169 : Int → gx_S → Option (Bool × gx_S)) (x1 : Int) (x2 : Int) (s : gx_S) : Option (Bool × gx_S) :=
  (gm_160 x1 x2 s).bind fun q2 =>
  if 0 ≤ q2.1 ∧ q2.1 < 72 then (
  if 0 ≤ x2 ∧ x2 < 9 then (
  some (true, (gw2 (gw1 q2.2 232 (q2.1).toNat (gn2 1)) 230 (x2).toNat (((gw1 q2.2 232 (q2.1).toNat (gn2 1)).2 230 (x2).toNat) + 1)))) else none) else none
def gm_168_2 (k168 : Int → gx_S → Option (Bool × gx_S)) (k169 : Int → gx_S → Option (Bool × gx_S)) : Nat → Int → Int → gx_S → Option (Bool × gx_S)
  | 0, _, _, _ => none
  | n + 1, x1, x2, s =>
    if (-2147483648 ≤ x2 ∧ x2 ≤ 2147483647) then (
    if (-2147483648 ≤ (s.1 215 18) ∧ (s.1 215 18) ≤ 2147483647) then (
    if (s.1 215 18) ≤ x2 then (
      some (false, s)) else (
      (gm_167 x1 x2 s).bind fun q5 =>
      if (gb q5.1) = 0 then (
        gm_168_111 k168 k169 (gm_168_2 k168 k169 n) x1 x2 q5.2) else (
        (gm_160 x1 x2 q5.2).bind fun q8 =>
        if 0 ≤ q8.1 ∧ q8.1 < 72 then (
        if (-2147483648 ≤ (q8.2.1 233 (q8.1).toNat) ∧ (q8.2.1 233 (q8.1).toNat) ≤ 2147483647) then (
        if ¬ (q8.2.1 233 (q8.1).toNat) = 0 then (
          gm_168_111 k168 k169 (gm_168_2 k168 k169 n) x1 x2 q8.2) else (
          (gm_160 x1 x2 q8.2).bind fun q15 =>
          if 0 ≤ q15.1 ∧ q15.1 < 72 then (
          if (-2147483648 ≤ (q15.2.1 232 (q15.1).toNat) ∧ (q15.2.1 232 (q15.1).toNat) ≤ 2147483647) then (
          if ¬ (q15.2.1 232 (q15.1).toNat) = 0 then (
            gm_168_111 k168 k169 (gm_168_2 k168 k169 n) x1 x2 q15.2) else (
            if 0 ≤ x2 ∧ x2 < 9 then (
            if (-2147483648 ≤ (q15.2.1 235 (x2).toNat) ∧ (q15.2.1 235 (x2).toNat) ≤ 2147483647) then (
            if (q15.2.1 235 (x2).toNat) = 0 then (
              if (-9223372036854775808 ≤ ((gw1 q15.2 235 (x2).toNat (gn2 1)).2 230 (x2).toNat) ∧ ((gw1 q15.2 235 (x2).toNat (gn2 1)).2 230 (x2).toNat) ≤ 9223372036854775807) then (
              if (-9223372036854775808 ≤ ((gw1 q15.2 235 (x2).toNat (gn2 1)).2 229 (x2).toNat) ∧ ((gw1 q15.2 235 (x2).toNat (gn2 1)).2 229 (x2).toNat) ≤ 9223372036854775807) then (
              if ((gw1 q15.2 235 (x2).toNat (gn2 1)).2 230 (x2).toNat) < ((gw1 q15.2 235 (x2).toNat (gn2 1)).2 229 (x2).toNat) then (
                gm_168_88 k168 k169 x1 x2 (gw1 q15.2 235 (x2).toNat (gn2 1))) else (
                (k169 x2 (gw1 q15.2 235 (x2).toNat (gn2 1))).bind fun q36 =>
                if (gb q36.1) = 0 then (
                  gm_168_111 k168 k169 (gm_168_2 k168 k169 n) x1 x2 q36.2) else (
                  gm_168_88 k168 k169 x1 x2 q36.2))) else none) else none) else (
              gm_168_111 k168 k169 (gm_168_2 k168 k169 n) x1 x2 q15.2)) else none) else none)) else none) else none)) else none) else none))) else none) else none
def gm_168o (k168 : Int → gx_S → Option (Bool × gx_S)) (k169 : Int → gx_S → Option (Bool × gx_S)) (x1 : Int) (s : gx_S) : Option (Bool × gx_S) :=
  gm_168_2 k168 k169 100000 x1 0 s
/-! ZoneSharesModel.makesPlace(I)Z -/
def gm_169_67 (k168 : Int → gx_S → Option (Bool × gx_S)) (k169 : Int → gx_S → Option (Bool × gx_S)) (k_2 : Int → Int → gx_S → Option (Bool × gx_S)) (x1 : Int) (x2 : Int) (s : gx_S) : Option (Bool × gx_S) :=
  k_2 x1 (x2 + 1) s
def gm_169_2 (k168 : Int → gx_S → Option (Bool × gx_S)) (k169 : Int → gx_S → Option (Bool × gx_S)) : Nat → Int → Int → gx_S → Option (Bool × gx_S)
  | 0, _, _, _ => none
  | n + 1, x1, x2, s =>
    if (-2147483648 ≤ x2 ∧ x2 ≤ 2147483647) then (
    if (-2147483648 ≤ (s.1 215 17) ∧ (s.1 215 17) ≤ 2147483647) then (
    if (s.1 215 17) ≤ x2 then (
      some (false, s)) else (
      (gm_160 x2 x1 s).bind fun q5 =>
      if 0 ≤ q5.1 ∧ q5.1 < 72 then (
      if (-2147483648 ≤ (q5.2.1 232 (q5.1).toNat) ∧ (q5.2.1 232 (q5.1).toNat) ≤ 2147483647) then (
      if (q5.2.1 232 (q5.1).toNat) = 0 then (
        gm_169_67 k168 k169 (gm_169_2 k168 k169 n) x1 x2 q5.2) else (
        (gm_160 x2 x1 q5.2).bind fun q12 =>
        if 0 ≤ q12.1 ∧ q12.1 < 72 then (
        if (-2147483648 ≤ (q12.2.1 233 (q12.1).toNat) ∧ (q12.2.1 233 (q12.1).toNat) ≤ 2147483647) then (
        if ¬ (q12.2.1 233 (q12.1).toNat) = 0 then (
          gm_169_67 k168 k169 (gm_169_2 k168 k169 n) x1 x2 q12.2) else (
          (k168 x2 q12.2).bind fun q19 =>
          if (gb q19.1) = 0 then (
            gm_169_67 k168 k169 (gm_169_2 k168 k169 n) x1 x2 q19.2) else (
            (gm_160 x2 x1 q19.2).bind fun q22 =>
            if 0 ≤ q22.1 ∧ q22.1 < 72 then (
            if 0 ≤ x1 ∧ x1 < 9 then (
            some (true, (gw2 (gw1 q22.2 232 (q22.1).toNat (gn2 0)) 230 (x1).toNat (((gw1 q22.2 232 (q22.1).toNat (gn2 0)).2 230 (x1).toNat) - 1)))) else none) else none))) else none) else none)) else none) else none)) else none) else none
def gm_169o (k168 : Int → gx_S → Option (Bool × gx_S)) (k169 : Int → gx_S → Option (Bool × gx_S)) (x1 : Int) (s : gx_S) : Option (Bool × gx_S) :=
  gm_169_2 k168 k169 100000 x1 0 s
def gm_168f : Nat → Int → gx_S → Option (Bool × gx_S)
  | 0, _, _ => none
  | n + 1, r, s => gm_168o (fun _ _ => none) (fun c t => gm_169o (gm_168f n) (fun _ _ => none) c t) r s
def gm_168 (x1 : Int) (s : gx_S) : Option (Bool × gx_S) := gm_168f 12 x1 s
/-! ZoneSharesModel.fitsFrom(II)V -/
def gm_211_113 (k211 : Int → Int → gx_S → Option (gx_S)) : Nat → Int → gx_S → Option (gx_S)
  | 0, _, _ => none
  | n + 1, x3, s =>
    if (-2147483648 ≤ x3 ∧ x3 ≤ 2147483647) then (
    if 4 ≤ x3 then (
      some s) else (
      if 0 ≤ x3 ∧ x3 < 4 then (
      gm_211_113 k211 n (x3 + 1) (gw1 s 244 (x3).toNat (s.1 243 (x3).toNat))) else none)) else none
def gm_211_90 (k211 : Int → Int → gx_S → Option (gx_S)) (s : gx_S) : Option (gx_S) :=
  gm_211_113 k211 100000 0 (gw2 (gw2 (gw1 s 215 43 1) 215 44 ((gw1 s 215 43 1).2 215 40)) 215 45 ((gw2 (gw1 s 215 43 1) 215 44 ((gw1 s 215 43 1).2 215 40)).2 215 41))
def gm_211_24 (k211 : Int → Int → gx_S → Option (gx_S)) : Nat → Int → Int → Int → gx_S → Option (gx_S)
  | 0, _, _, _, _ => none
  | n + 1, x1, x2, x3, s =>
    if (-2147483648 ≤ x3 ∧ x3 ≤ 2147483647) then (
    if 10 ≤ x3 then (
      some s) else (
      if 0 ≤ x2 ∧ x2 < 4 then (
      (k211 x1 (x2 + 1) (gw1 s 243 (x2).toNat x3)).bind fun q7 =>
      gm_211_24 k211 n x1 x2 (x3 + 1) q7) else none)) else none
def gm_211o (k211 : Int → Int → gx_S → Option (gx_S)) (x1 : Int) (x2 : Int) (s : gx_S) : Option (gx_S) :=
  if (-2147483648 ≤ x2 ∧ x2 ≤ 2147483647) then (
  if 4 ≤ x2 then (
    (gm_209 x1 s).bind fun q34 =>
    if (gb q34.1) = 0 then (
      some q34.2) else (
      if (-2147483648 ≤ (q34.2.1 215 43) ∧ (q34.2.1 215 43) ≤ 2147483647) then (
      if (q34.2.1 215 43) = 0 then (
        gm_211_90 k211 q34.2) else (
        if (-9223372036854775808 ≤ ((q34.2.2 215 40) * (q34.2.2 215 45)) ∧ ((q34.2.2 215 40) * (q34.2.2 215 45)) ≤ 9223372036854775807) then (
        if (-9223372036854775808 ≤ ((q34.2.2 215 44) * (q34.2.2 215 41)) ∧ ((q34.2.2 215 44) * (q34.2.2 215 41)) ≤ 9223372036854775807) then (
        if ((q34.2.2 215 40) * (q34.2.2 215 45)) < ((q34.2.2 215 44) * (q34.2.2 215 41)) then (
          gm_211_90 k211 q34.2) else (
          some q34.2)) else none) else none)) else none)) else (
    (gm_207 x2 s).bind fun q42 =>
    if (-2147483648 ≤ q42.1 ∧ q42.1 ≤ 2147483647) then (
    if ¬ q42.1 = 0 then (
      gm_211_24 k211 100000 x1 x2 0 q42.2) else (
      (k211 x1 (x2 + 1) q42.2).bind fun q46 =>
      some q46)) else none)) else none
def gm_211f : Nat → Int → Int → gx_S → Option (gx_S)
  | 0, _, _, _ => none
  | n + 1, g, l, s => gm_211o (gm_211f n) g l s
def gm_211 (x1 x2 : Int) (s : gx_S) : Option (gx_S) := gm_211f 6 x1 x2 s
/-! ZoneSharesModel.fillsUp()V -/
def gm_170_70 (k_10 : Int → Int → gx_S → Option (gx_S)) (x1 : Int) (x2 : Int) (s : gx_S) : Option (gx_S) :=
  k_10 x1 (x2 + 1) s
def gm_170_20 (k_10 : Int → Int → gx_S → Option (gx_S)) : Nat → Int → Int → Int → gx_S → Option (gx_S)
  | 0, _, _, _, _ => none
  | n + 1, x1, x2, x3, s =>
    if (-2147483648 ≤ x3 ∧ x3 ≤ 2147483647) then (
    if 9 ≤ x3 then (
      if 0 ≤ x2 ∧ x2 < 8 then (
      if (-9223372036854775808 ≤ (s.2 231 (x2).toNat) ∧ (s.2 231 (x2).toNat) ≤ 9223372036854775807) then (
      if (s.2 231 (x2).toNat) ≤ 0 then (
        gm_170_70 k_10 x1 x2 s) else (
        (gm_168 x2 s).bind fun q9 =>
        if (gb q9.1) = 0 then (
          gm_170_70 k_10 x1 x2 q9.2) else (
          gm_170_70 k_10 1 x2 (gw2 q9.2 231 (x2).toNat ((q9.2.2 231 (x2).toNat) - 1))))) else none) else none) else (
      if 0 ≤ x3 ∧ x3 < 9 then (
      gm_170_20 k_10 n x1 x2 (x3 + 1) (gw1 s 235 (x3).toNat (gn2 0))) else none)) else none
def gm_170_10 (k_2 : Int → gx_S → Option (gx_S)) : Nat → Int → Int → gx_S → Option (gx_S)
  | 0, _, _, _ => none
  | n + 1, x1, x2, s =>
    if (-2147483648 ≤ x2 ∧ x2 ≤ 2147483647) then (
    if (-2147483648 ≤ (s.1 215 17) ∧ (s.1 215 17) ≤ 2147483647) then (
    if (s.1 215 17) ≤ x2 then (
      k_2 x1 s) else (
      gm_170_20 (gm_170_10 k_2 n) 100000 x1 x2 0 s)) else none) else none
def gm_170_2 : Nat → Int → gx_S → Option (gx_S)
  | 0, _, _ => none
  | n + 1, x1, s =>
    if (-2147483648 ≤ x1 ∧ x1 ≤ 2147483647) then (
    if x1 = 0 then (
      some s) else (
      gm_170_10 (gm_170_2 n) 100000 0 0 s)) else none
def gm_170 (s : gx_S) : Option (gx_S) :=
  gm_170_2 100000 1 s
/-! ZoneSharesModel.canBe()Z -/
def gm_171_254 : Nat → Int → gx_S → Option (Bool × gx_S)
  | 0, _, _ => none
  | n + 1, x1, s =>
    if (-2147483648 ≤ x1 ∧ x1 ≤ 2147483647) then (
    if (-2147483648 ≤ (s.1 215 17) ∧ (s.1 215 17) ≤ 2147483647) then (
    if (s.1 215 17) ≤ x1 then (
      some (true, s)) else (
      if 0 ≤ x1 ∧ x1 < 8 then (
      if (-9223372036854775808 ≤ (s.2 231 (x1).toNat) ∧ (s.2 231 (x1).toNat) ≤ 9223372036854775807) then (
      if (s.2 231 (x1).toNat) = 0 then (
        gm_171_254 n (x1 + 1) s) else (
        some (false, s))) else none) else none)) else none) else none
def gm_171_188 : Nat → Int → gx_S → Option (Bool × gx_S)
  | 0, _, _ => none
  | n + 1, x1, s =>
    if (-2147483648 ≤ x1 ∧ x1 ≤ 2147483647) then (
    if (-2147483648 ≤ (s.1 215 18) ∧ (s.1 215 18) ≤ 2147483647) then (
    if (s.1 215 18) ≤ x1 then (
      (gm_170 s).bind fun q5 =>
      gm_171_254 100000 0 q5) else (
      if 0 ≤ x1 ∧ x1 < 9 then (
      if (-9223372036854775808 ≤ (s.2 230 (x1).toNat) ∧ (s.2 230 (x1).toNat) ≤ 9223372036854775807) then (
      if (-9223372036854775808 ≤ (s.2 227 (x1).toNat) ∧ (s.2 227 (x1).toNat) ≤ 9223372036854775807) then (
      if (s.2 230 (x1).toNat) < (s.2 227 (x1).toNat) then (
        some (false, s)) else (
        if (-9223372036854775808 ≤ (s.2 228 (x1).toNat) ∧ (s.2 228 (x1).toNat) ≤ 9223372036854775807) then (
        if (s.2 230 (x1).toNat) ≤ (s.2 228 (x1).toNat) then (
          gm_171_188 n (x1 + 1) (gw2 s 229 (x1).toNat (s.2 228 (x1).toNat))) else (
          some (false, s))) else none)) else none) else none) else none)) else none) else none
def gm_171_123 (k_75 : Int → Int → gx_S → Option (Bool × gx_S)) (x1 : Int) (x2 : Int) (s1 : Int) (s2 : Int) (s : gx_S) : Option (Bool × gx_S) :=
  if 0 ≤ s1 ∧ s1 < 72 then (
  if 0 ≤ x1 ∧ x1 < 8 then (
  (gm_160 x1 x2 (gw1 s 232 (s1).toNat (gn2 s2))).bind fun q8 =>
  if 0 ≤ q8.1 ∧ q8.1 < 72 then (
  (gm_131 (q8.2.1 232 (q8.1).toNat) q8.2).bind fun q13 =>
  if (-2147483648 ≤ q13.1 ∧ q13.1 ≤ 2147483647) then (
  if 0 ≤ x2 ∧ x2 < 9 then (
  (gm_160 x1 x2 (gw2 q13.2 231 (x1).toNat (((gw1 s 232 (s1).toNat (gn2 s2)).2 231 (x1).toNat) - q13.1))).bind fun q21 =>
  if 0 ≤ q21.1 ∧ q21.1 < 72 then (
  (gm_131 (q21.2.1 232 (q21.1).toNat) q21.2).bind fun q26 =>
  if (-2147483648 ≤ q26.1 ∧ q26.1 ≤ 2147483647) then (
  k_75 x1 (x2 + 1) (gw2 q26.2 230 (x2).toNat (((gw2 q13.2 231 (x1).toNat (((gw1 s 232 (s1).toNat (gn2 s2)).2 231 (x1).toNat) - q13.1)).2 230 (x2).toNat) + q26.1))) else none) else none) else none) else none) else none) else none) else none
def gm_171_75 (k_65 : Int → gx_S → Option (Bool × gx_S)) : Nat → Int → Int → gx_S → Option (Bool × gx_S)
  | 0, _, _, _ => none
  | n + 1, x1, x2, s =>
    if (-2147483648 ≤ x2 ∧ x2 ≤ 2147483647) then (
    if (-2147483648 ≤ (s.1 215 18) ∧ (s.1 215 18) ≤ 2147483647) then (
    if (s.1 215 18) ≤ x2 then (
      k_65 (x1 + 1) s) else (
      (gm_160 x1 x2 s).bind fun q5 =>
      (gm_160 x1 x2 q5.2).bind fun q7 =>
      if 0 ≤ q7.1 ∧ q7.1 < 72 then (
      if (-2147483648 ≤ (q7.2.1 233 (q7.1).toNat) ∧ (q7.2.1 233 (q7.1).toNat) ≤ 2147483647) then (
      if (q7.2.1 233 (q7.1).toNat) = 0 then (
        gm_171_123 (gm_171_75 k_65 n) x1 x2 q5.1 0 q7.2) else (
        (gm_160 x1 x2 q7.2).bind fun q14 =>
        if 0 ≤ q14.1 ∧ q14.1 < 72 then (
        if (-2147483648 ≤ (q14.2.1 234 (q14.1).toNat) ∧ (q14.2.1 234 (q14.1).toNat) ≤ 2147483647) then (
        if (q14.2.1 234 (q14.1).toNat) = 0 then (
          gm_171_123 (gm_171_75 k_65 n) x1 x2 q5.1 0 q14.2) else (
          gm_171_123 (gm_171_75 k_65 n) x1 x2 q5.1 1 q14.2)) else none) else none)) else none) else none)) else none) else none
def gm_171_65 : Nat → Int → gx_S → Option (Bool × gx_S)
  | 0, _, _ => none
  | n + 1, x1, s =>
    if (-2147483648 ≤ x1 ∧ x1 ≤ 2147483647) then (
    if (-2147483648 ≤ (s.1 215 17) ∧ (s.1 215 17) ≤ 2147483647) then (
    if (s.1 215 17) ≤ x1 then (
      (gm_170 s).bind fun q5 =>
      gm_171_188 100000 0 q5) else (
      gm_171_75 (gm_171_65 n) 100000 x1 0 s)) else none) else none
def gm_171_30 : Nat → Int → gx_S → Option (Bool × gx_S)
  | 0, _, _ => none
  | n + 1, x1, s =>
    if (-2147483648 ≤ x1 ∧ x1 ≤ 2147483647) then (
    if (-2147483648 ≤ (s.1 215 18) ∧ (s.1 215 18) ≤ 2147483647) then (
    if (s.1 215 18) ≤ x1 then (
      gm_171_65 100000 0 s) else (
      if 0 ≤ x1 ∧ x1 < 9 then (
      gm_171_30 n (x1 + 1) (gw2 (gw2 s 230 (x1).toNat 0) 229 (x1).toNat ((gw2 s 230 (x1).toNat 0).2 227 (x1).toNat))) else none)) else none) else none
def gm_171_2 : Nat → Int → gx_S → Option (Bool × gx_S)
  | 0, _, _ => none
  | n + 1, x1, s =>
    if (-2147483648 ≤ x1 ∧ x1 ≤ 2147483647) then (
    if (-2147483648 ≤ (s.1 215 17) ∧ (s.1 215 17) ≤ 2147483647) then (
    if (s.1 215 17) ≤ x1 then (
      gm_171_30 100000 0 s) else (
      if 0 ≤ x1 ∧ x1 < 8 then (
      gm_171_2 n (x1 + 1) (gw2 s 231 (x1).toNat (s.2 226 (x1).toNat))) else none)) else none) else none
def gm_171 (s : gx_S) : Option (Bool × gx_S) :=
  gm_171_2 100000 0 s
/-! ZoneSharesModel.balances()V -/
def gm_172_146 (k_81 : Int → Int → gx_S → Option (gx_S)) (x1 : Int) (x2 : Int) (s1 : Int) (s2 : Int) (s : gx_S) : Option (gx_S) :=
  if 0 ≤ s1 ∧ s1 < 72 then (
  (gm_160 x1 x2 (gw1 s 234 (s1).toNat (gn2 s2))).bind fun q5 =>
  if 0 ≤ q5.1 ∧ q5.1 < 72 then (
  (gm_160 x1 x2 q5.2).bind fun q10 =>
  if 0 ≤ q10.1 ∧ q10.1 < 72 then (
  (gm_131 (q10.2.1 234 (q10.1).toNat) q10.2).bind fun q15 =>
  if (-2147483648 ≤ q15.1 ∧ q15.1 ≤ 2147483647) then (
  k_81 x1 (x2 + 1) (gw2 q15.2 224 (q5.1).toNat ((q5.2.2 224 (q5.1).toNat) + q15.1))) else none) else none) else none) else none
def gm_172_81 (k_71 : Int → gx_S → Option (gx_S)) : Nat → Int → Int → gx_S → Option (gx_S)
  | 0, _, _, _ => none
  | n + 1, x1, x2, s =>
    if (-2147483648 ≤ x2 ∧ x2 ≤ 2147483647) then (
    if (-2147483648 ≤ (s.1 215 18) ∧ (s.1 215 18) ≤ 2147483647) then (
    if (s.1 215 18) ≤ x2 then (
      k_71 (x1 + 1) s) else (
      (gm_160 x1 x2 s).bind fun q5 =>
      if 0 ≤ q5.1 ∧ q5.1 < 72 then (
      (gm_160 x1 x2 (gw1 q5.2 233 (q5.1).toNat (gn2 1))).bind fun q10 =>
      (gm_167 x1 x2 q10.2).bind fun q12 =>
      if 0 ≤ q10.1 ∧ q10.1 < 72 then (
      (gm_160 x1 x2 (gw1 q12.2 234 (q10.1).toNat (gn2 (gb q12.1)))).bind fun q17 =>
      (gm_167 x1 x2 q17.2).bind fun q19 =>
      if (gb q19.1) = 0 then (
        gm_172_146 (gm_172_81 k_71 n) x1 x2 q17.1 0 q19.2) else (
        (gm_171 q19.2).bind fun q22 =>
        if (gb q22.1) = 0 then (
          gm_172_146 (gm_172_81 k_71 n) x1 x2 q17.1 0 q22.2) else (
          gm_172_146 (gm_172_81 k_71 n) x1 x2 q17.1 1 q22.2))) else none) else none)) else none) else none
def gm_172_71 : Nat → Int → gx_S → Option (gx_S)
  | 0, _, _ => none
  | n + 1, x1, s =>
    if (-2147483648 ≤ x1 ∧ x1 ≤ 2147483647) then (
    if (-2147483648 ≤ (s.1 215 17) ∧ (s.1 215 17) ≤ 2147483647) then (
    if (s.1 215 17) ≤ x1 then (
      some s) else (
      gm_172_81 (gm_172_71 n) 100000 x1 0 s)) else none) else none
def gm_172_50 : Nat → Int → gx_S → Option (gx_S)
  | 0, _, _ => none
  | n + 1, x1, s =>
    if (-2147483648 ≤ x1 ∧ x1 ≤ 2147483647) then (
    if 72 ≤ x1 then (
      gm_172_71 100000 0 s) else (
      if 0 ≤ x1 ∧ x1 < 72 then (
      gm_172_50 n (x1 + 1) (gw1 s 233 (x1).toNat (gn2 0))) else none)) else none
def gm_172_29 : Nat → Int → gx_S → Option (gx_S)
  | 0, _, _ => none
  | n + 1, x1, s =>
    if (-2147483648 ≤ x1 ∧ x1 ≤ 2147483647) then (
    if (-2147483648 ≤ (s.1 215 18) ∧ (s.1 215 18) ≤ 2147483647) then (
    if (s.1 215 18) ≤ x1 then (
      gm_172_50 100000 0 s) else (
      (gm_166 x1 s).bind fun q5 =>
      gm_172_29 n (x1 + 1) q5)) else none) else none
def gm_172_2 : Nat → Int → gx_S → Option (gx_S)
  | 0, _, _ => none
  | n + 1, x1, s =>
    if (-2147483648 ≤ x1 ∧ x1 ≤ 2147483647) then (
    if (-2147483648 ≤ (s.1 215 17) ∧ (s.1 215 17) ≤ 2147483647) then (
    if (s.1 215 17) ≤ x1 then (
      gm_172_29 100000 0 s) else (
      (gm_162 x1 s).bind fun q5 =>
      if 0 ≤ x1 ∧ x1 < 8 then (
      gm_172_2 n (x1 + 1) (gw2 q5.2 226 (x1).toNat q5.1)) else none)) else none) else none
def gm_172 (s : gx_S) : Option (gx_S) :=
  gm_172_2 100000 0 s
/-! ZoneSharesModel.fills()V -/
def gm_173_39 : Nat → Int → gx_S → Option (gx_S)
  | 0, _, _ => none
  | n + 1, x1, s =>
    if (-2147483648 ≤ x1 ∧ x1 ≤ 2147483647) then (
    if (-2147483648 ≤ (s.1 215 17) ∧ (s.1 215 17) ≤ 2147483647) then (
    if (s.1 215 17) ≤ x1 then (
      some s) else (
      (gm_163 x1 s).bind fun q5 =>
      gm_173_39 n (x1 + 1) q5)) else none) else none
def gm_173_2 : Nat → Int → gx_S → Option (gx_S)
  | 0, _, _ => none
  | n + 1, x1, s =>
    if (-2147483648 ≤ x1 ∧ x1 ≤ 2147483647) then (
    if (-2147483648 ≤ (s.1 215 17) ∧ (s.1 215 17) ≤ 2147483647) then (
    if (s.1 215 17) ≤ x1 then (
      if (-2147483648 ≤ (s.1 216 3) ∧ (s.1 216 3) ≤ 2147483647) then (
      if ¬ (s.1 216 3) = 1 then (
        gm_173_39 100000 0 s) else (
        (gm_172 s).bind fun q9 =>
        some q9)) else none) else (
      (gm_161 x1 s).bind fun q11 =>
      gm_173_2 n (x1 + 1) q11.2)) else none) else none
def gm_173 (s : gx_S) : Option (gx_S) :=
  gm_173_2 100000 0 s
/-! ZoneSharesModel.moved(III)I -/
def gm_185 (x1 : Int) (x2 : Int) (x3 : Int) (s : gx_S) : Option (Int × gx_S) :=
  (gm_150 s).bind fun q34 =>
  if (gb q34.1) = 0 then (
    some ((-1), q34.2)) else (
    (gm_148 x1 q34.2).bind fun q37 =>
    if (gb q37.1) = 0 then (
      some ((-1), q37.2)) else (
      if (-2147483648 ≤ x2 ∧ x2 ≤ 2147483647) then (
      (gm_130 x2 (-1) 7 q37.2).bind fun q41 =>
      if (gb q41.1) = 0 then (
        some ((-1), q41.2)) else (
        if (-2147483648 ≤ x3 ∧ x3 ≤ 2147483647) then (
        (gm_130 x3 (-1) 8 q41.2).bind fun q45 =>
        if ¬ (gb q45.1) = 0 then (
          (gm_181 x1 q45.2).bind fun q48 =>
          (gm_173 q48).bind fun q50 =>
          if ¬ x2 = (-1) then (
            if ¬ x3 = (-1) then (
              (gm_160 x2 x3 q50).bind fun q54 =>
              if 0 ≤ q54.1 ∧ q54.1 < 72 then (
              some ((q54.2.2 224 (q54.1).toNat), q54.2)) else none) else (
              (gm_182 x2 q50).bind fun q59 =>
              some (q59.1, q59.2))) else (
            if ¬ x3 = (-1) then (
              (gm_183 x3 q50).bind fun q62 =>
              some (q62.1, q62.2)) else (
              (gm_184 q50).bind fun q64 =>
              some (q64.1, q64.2)))) else (
          some ((-1), q45.2))) else none)) else none))
/-! ZoneSharesModel.coarse(III)I -/
def gm_188_102 (k_73 : Int → Int → Int → gx_S → Option (Int × gx_S)) (x2 : Int) (x5 : Int) (s0 : Int) (s1 : Int) (s : gx_S) : Option (Int × gx_S) :=
  k_73 x2 (s0 + s1) (x5 + 1) s
def gm_188_73 : Nat → Int → Int → Int → gx_S → Option (Int × gx_S)
  | 0, _, _, _, _ => none
  | n + 1, x2, x4, x5, s =>
    if (-2147483648 ≤ x5 ∧ x5 ≤ 2147483647) then (
    if 8 ≤ x5 then (
      some (x4, s)) else (
      (gm_186 x5 s).bind fun q4 =>
      if (-2147483648 ≤ q4.1 ∧ q4.1 ≤ 2147483647) then (
      if (-2147483648 ≤ x2 ∧ x2 ≤ 2147483647) then (
      if ¬ q4.1 = x2 then (
        gm_188_102 (gm_188_73 n) x2 x5 x4 0 q4.2) else (
        (gm_183 x5 q4.2).bind fun q9 =>
        gm_188_102 (gm_188_73 n) x2 x5 x4 q9.1 q9.2)) else none) else none)) else none
def gm_188 (x1 : Int) (x2 : Int) (x3 : Int) (s : gx_S) : Option (Int × gx_S) :=
  (gm_150 s).bind fun q36 =>
  if (gb q36.1) = 0 then (
    some ((-1), q36.2)) else (
    (gm_148 x1 q36.2).bind fun q39 =>
    if (gb q39.1) = 0 then (
      some ((-1), q39.2)) else (
      if (-2147483648 ≤ x2 ∧ x2 ≤ 2147483647) then (
      (gm_130 x2 0 3 q39.2).bind fun q43 =>
      if (gb q43.1) = 0 then (
        some ((-1), q43.2)) else (
        if (-2147483648 ≤ x3 ∧ x3 ≤ 2147483647) then (
        (gm_130 x3 0 1 q43.2).bind fun q47 =>
        if ¬ (gb q47.1) = 0 then (
          if ¬ x3 = 1 then (
            (gm_181 x1 q47.2).bind fun q51 =>
            (gm_173 q51).bind fun q53 =>
            gm_188_73 100000 x2 0 0 q53) else (
            (gm_187 x1 q47.2).bind fun q55 =>
            (gm_173 q55).bind fun q57 =>
            (gm_183 x2 q57).bind fun q59 =>
            some (q59.1, q59.2))) else (
          some ((-1), q47.2))) else none)) else none))
/-! ZoneSharesModel.byWay(II)I -/
def gm_189_110 (k_70 : Int → Int → Int → gx_S → Option (Int × gx_S)) (x1 : Int) (x2 : Int) (x3 : Int) (s : gx_S) : Option (Int × gx_S) :=
  k_70 x1 x2 (x3 + 1) s
def gm_189_70 : Nat → Int → Int → Int → gx_S → Option (Int × gx_S)
  | 0, _, _, _, _ => none
  | n + 1, x1, x2, x3, s =>
    if (-2147483648 ≤ x3 ∧ x3 ≤ 2147483647) then (
    if 4 ≤ x3 then (
      (gm_173 s).bind fun q4 =>
      (gm_183 x2 q4).bind fun q6 =>
      some (q6.1, q6.2)) else (
      if 0 ≤ x3 ∧ x3 < 4 then (
      if (-2147483648 ≤ (s.1 238 (x3).toNat) ∧ (s.1 238 (x3).toNat) ≤ 2147483647) then (
      if 0 ≤ x3 ∧ x3 < 8 then (
      (gm_190 x1 x3 0 (gw2 s 221 (x3).toNat (s.1 238 (x3).toNat))).bind fun q15 =>
      (gm_161 x3 q15).bind fun q17 =>
      if (-2147483648 ≤ q17.1 ∧ q17.1 ≤ 2147483647) then (
      if ¬ q17.1 = 0 then (
        gm_189_110 (gm_189_70 n) x1 x2 x3 q17.2) else (
        (gm_190 x1 x3 1 q17.2).bind fun q21 =>
        gm_189_110 (gm_189_70 n) x1 x2 x3 q21)) else none) else none) else none) else none)) else none
def gm_189_39 : Nat → Int → Int → Int → gx_S → Option (Int × gx_S)
  | 0, _, _, _, _ => none
  | n + 1, x1, x2, x3, s =>
    if (-2147483648 ≤ x3 ∧ x3 ≤ 2147483647) then (
    if 4 ≤ x3 then (
      (gm_159 4 8 s).bind fun q4 =>
      gm_189_70 100000 x1 x2 0 q4) else (
      (gm_183 x3 s).bind fun q6 =>
      if 0 ≤ x3 ∧ x3 < 4 then (
      gm_189_39 n x1 x2 (x3 + 1) (gw1 q6.2 238 (x3).toNat q6.1)) else none)) else none
def gm_189 (x1 : Int) (x2 : Int) (s : gx_S) : Option (Int × gx_S) :=
  (gm_150 s).bind fun q46 =>
  if (gb q46.1) = 0 then (
    some ((-1), q46.2)) else (
    (gm_148 x1 q46.2).bind fun q49 =>
    if (gb q49.1) = 0 then (
      some ((-1), q49.2)) else (
      if (-2147483648 ≤ x2 ∧ x2 ≤ 2147483647) then (
      (gm_130 x2 0 7 q49.2).bind fun q53 =>
      if ¬ (gb q53.1) = 0 then (
        (gm_187 x1 q53.2).bind fun q56 =>
        (gm_173 q56).bind fun q58 =>
        gm_189_39 100000 x1 x2 0 q58) else (
        some ((-1), q53.2))) else none))
/-! ZoneSharesModel.laysReturned(I)V -/
def gm_191_83 (k_44 : Int → Int → gx_S → Option (gx_S)) : Nat → Int → Int → Int → Int → gx_S → Option (gx_S)
  | 0, _, _, _, _, _ => none
  | n + 1, x1, x2, x3, x4, s =>
    if (-2147483648 ≤ x4 ∧ x4 ≤ 2147483647) then (
    if 9 ≤ x4 then (
      k_44 x1 (x2 + 1) s) else (
      (gm_160 x2 x4 s).bind fun q4 =>
      (gm_157 x1 x4 x2 x3 q4.2).bind fun q6 =>
      if 0 ≤ q4.1 ∧ q4.1 < 72 then (
      gm_191_83 k_44 n x1 x2 x3 (x4 + 1) (gw1 q6.2 222 (q4.1).toNat q6.1)) else none)) else none
def gm_191_79 (k_44 : Int → Int → gx_S → Option (gx_S)) (x1 : Int) (x2 : Int) (s0 : Int) (s : gx_S) : Option (gx_S) :=
  gm_191_83 k_44 100000 x1 x2 s0 0 s
def gm_191_44 : Nat → Int → Int → gx_S → Option (gx_S)
  | 0, _, _, _ => none
  | n + 1, x1, x2, s =>
    if (-2147483648 ≤ x2 ∧ x2 ≤ 2147483647) then (
    if 8 ≤ x2 then (
      (gm_173 s).bind fun q4 =>
      some q4) else (
      if 0 ≤ x2 ∧ x2 < 9 then (
      if (-2147483648 ≤ (s.1 239 (x2).toNat) ∧ (s.1 239 (x2).toNat) ≤ 2147483647) then (
      if 0 ≤ x2 ∧ x2 < 8 then (
      (gm_157 x1 (-1) x2 0 (gw2 s 221 (x2).toNat (s.1 239 (x2).toNat))).bind fun q13 =>
      if (-2147483648 ≤ q13.1 ∧ q13.1 ≤ 2147483647) then (
      if ¬ q13.1 = 0 then (
        gm_191_79 (gm_191_44 n) x1 x2 0 q13.2) else (
        gm_191_79 (gm_191_44 n) x1 x2 1 q13.2)) else none) else none) else none) else none)) else none
def gm_191_11 : Nat → Int → Int → gx_S → Option (gx_S)
  | 0, _, _, _ => none
  | n + 1, x1, x2, s =>
    if (-2147483648 ≤ x2 ∧ x2 ≤ 2147483647) then (
    if 8 ≤ x2 then (
      (gm_159 8 9 s).bind fun q4 =>
      gm_191_44 100000 x1 0 q4) else (
      (gm_183 x2 s).bind fun q6 =>
      if 0 ≤ x2 ∧ x2 < 9 then (
      gm_191_11 n x1 (x2 + 1) (gw1 q6.2 239 (x2).toNat q6.1)) else none)) else none
def gm_191 (x1 : Int) (s : gx_S) : Option (gx_S) :=
  (gm_181 x1 s).bind fun q54 =>
  (gm_173 q54).bind fun q56 =>
  gm_191_11 100000 x1 0 q56
/-! ZoneSharesModel.returned(II)I -/
def gm_192 (x1 : Int) (x2 : Int) (s : gx_S) : Option (Int × gx_S) :=
  (gm_150 s).bind fun q16 =>
  if (gb q16.1) = 0 then (
    some ((-1), q16.2)) else (
    (gm_148 x1 q16.2).bind fun q19 =>
    if (gb q19.1) = 0 then (
      some ((-1), q19.2)) else (
      if (-2147483648 ≤ x2 ∧ x2 ≤ 2147483647) then (
      (gm_130 x2 0 8 q19.2).bind fun q23 =>
      if ¬ (gb q23.1) = 0 then (
        (gm_191 x1 q23.2).bind fun q26 =>
        (gm_183 x2 q26).bind fun q28 =>
        some (q28.1, q28.2)) else (
        some ((-1), q23.2))) else none))
/-! ZoneSharesModel.astray(I)I -/
def gm_193_55 : Nat → Int → Int → gx_S → Option (Int × gx_S)
  | 0, _, _, _ => none
  | n + 1, x2, x3, s =>
    if (-2147483648 ≤ x3 ∧ x3 ≤ 2147483647) then (
    if 8 ≤ x3 then (
      some (x2, s)) else (
      if 0 ≤ x3 ∧ x3 < 8 then (
      if 0 ≤ x3 ∧ x3 < 9 then (
      if (-2147483648 ≤ ((s.1 236 (x3).toNat) - (s.1 239 (x3).toNat)) ∧ ((s.1 236 (x3).toNat) - (s.1 239 (x3).toNat)) ≤ 2147483647) then (
      gm_193_55 n (x2 + (if 0 ≤ ((s.1 236 (x3).toNat) - (s.1 239 (x3).toNat)) then ((s.1 236 (x3).toNat) - (s.1 239 (x3).toNat)) else 0 - ((s.1 236 (x3).toNat) - (s.1 239 (x3).toNat)))) (x3 + 1) s) else none) else none) else none)) else none
def gm_193_23 : Nat → Int → Int → gx_S → Option (Int × gx_S)
  | 0, _, _, _ => none
  | n + 1, x1, x2, s =>
    if (-2147483648 ≤ x2 ∧ x2 ≤ 2147483647) then (
    if 8 ≤ x2 then (
      (gm_177 x1 s).bind fun q4 =>
      gm_193_55 100000 0 0 q4) else (
      (gm_183 x2 s).bind fun q6 =>
      if 0 ≤ x2 ∧ x2 < 9 then (
      gm_193_23 n x1 (x2 + 1) (gw1 q6.2 239 (x2).toNat q6.1)) else none)) else none
def gm_193 (x1 : Int) (s : gx_S) : Option (Int × gx_S) :=
  (gm_150 s).bind fun q28 =>
  if (gb q28.1) = 0 then (
    some ((-1), q28.2)) else (
    (gm_148 x1 q28.2).bind fun q31 =>
    if ¬ (gb q31.1) = 0 then (
      (gm_191 x1 q31.2).bind fun q34 =>
      gm_193_23 100000 x1 0 q34) else (
      some ((-1), q31.2)))
/-! ZoneSharesModel.fit(I)I -/
def gm_212_102 : Nat → Int → Int → Int → gx_S → Option (Int × gx_S)
  | 0, _, _, _, _ => none
  | n + 1, x1, x2, x3, s =>
    if (-2147483648 ≤ x3 ∧ x3 ≤ 2147483647) then (
    if 4 ≤ x3 then (
      some (x2, s)) else (
      if 0 ≤ x3 ∧ x3 < 4 then (
      if 0 ≤ ((32 + (4 * x1)) + x3) ∧ ((32 + (4 * x1)) + x3) < 340 then (
      gm_212_102 n x1 x2 (x3 + 1) (gw1 s 216 (((32 + (4 * x1)) + x3)).toNat (s.1 244 (x3).toNat))) else none) else none)) else none
def gm_212_78 (k_45 : Int → Int → Int → gx_S → Option (Int × gx_S)) (x1 : Int) (x3 : Int) (s0 : Int) (s1 : Int) (s : gx_S) : Option (Int × gx_S) :=
  (gm_131 s1 s).bind fun q2 =>
  k_45 x1 (s0 + q2.1) (x3 + 1) q2.2
def gm_212_45 : Nat → Int → Int → Int → gx_S → Option (Int × gx_S)
  | 0, _, _, _, _ => none
  | n + 1, x1, x2, x3, s =>
    if (-2147483648 ≤ x3 ∧ x3 ≤ 2147483647) then (
    if 4 ≤ x3 then (
      if (-2147483648 ≤ x2 ∧ x2 ≤ 2147483647) then (
      if ¬ x2 = 0 then (
        (gm_132 s).bind fun q6 =>
        gm_212_102 100000 x1 x2 0 q6) else (
        some ((-2), s))) else none) else (
      if 0 ≤ x3 ∧ x3 < 4 then (
      if 0 ≤ ((32 + (4 * x1)) + x3) ∧ ((32 + (4 * x1)) + x3) < 340 then (
      if (-2147483648 ≤ (s.1 244 (x3).toNat) ∧ (s.1 244 (x3).toNat) ≤ 2147483647) then (
      if (-2147483648 ≤ (s.1 216 (((32 + (4 * x1)) + x3)).toNat) ∧ (s.1 216 (((32 + (4 * x1)) + x3)).toNat) ≤ 2147483647) then (
      if (s.1 244 (x3).toNat) = (s.1 216 (((32 + (4 * x1)) + x3)).toNat) then (
        gm_212_78 (gm_212_45 n) x1 x3 x2 0 s) else (
        gm_212_78 (gm_212_45 n) x1 x3 x2 1 s)) else none) else none) else none) else none)) else none
def gm_212 (x1 : Int) (s : gx_S) : Option (Int × gx_S) :=
  (gm_150 s).bind fun q39 =>
  if (gb q39.1) = 0 then (
    some ((-1), q39.2)) else (
    (gm_148 x1 q39.2).bind fun q42 =>
    if ¬ (gb q42.1) = 0 then (
      (gm_205 x1 q42.2).bind fun q45 =>
      if (-2147483648 ≤ (q45.1 215 42) ∧ (q45.1 215 42) ≤ 2147483647) then (
      if ¬ (q45.1 215 42) = 0 then (
        (gm_211 x1 0 (gw1 q45 215 43 0)).bind fun q49 =>
        gm_212_45 100000 x1 0 0 q49) else (
        some ((-1), q45))) else none) else (
      some ((-1), q42.2)))
/-! ZoneSharesModel.adopt()I -/
def gm_217_135 : Nat → Int → Int → gx_S → Option (Int × gx_S)
  | 0, _, _, _ => none
  | n + 1, x1, x2, s =>
    if (-2147483648 ≤ x2 ∧ x2 ≤ 2147483647) then (
    if 96 ≤ x2 then (
      some (x1, s)) else (
      if 0 ≤ (148 + x2) ∧ (148 + x2) < 340 then (
      if 0 ≤ (52 + x2) ∧ (52 + x2) < 340 then (
      gm_217_135 n x1 (x2 + 1) (gw1 s 216 ((52 + x2)).toNat (s.1 216 ((148 + x2)).toNat))) else none) else none)) else none
def gm_217_107 : Nat → Int → Int → gx_S → Option (Int × gx_S)
  | 0, _, _, _ => none
  | n + 1, x1, x2, s =>
    if (-2147483648 ≤ x2 ∧ x2 ≤ 2147483647) then (
    if 27 ≤ x2 then (
      gm_217_135 100000 x1 0 s) else (
      if 0 ≤ x2 ∧ x2 < 27 then (
      if 0 ≤ (5 + x2) ∧ (5 + x2) < 340 then (
      gm_217_107 n x1 (x2 + 1) (gw1 s 216 ((5 + x2)).toNat (s.1 245 (x2).toNat))) else none) else none)) else none
def gm_217_67 (k_29 : Int → Int → Int → gx_S → Option (Int × gx_S)) (x2 : Int) (x3 : Int) (s0 : Int) (s1 : Int) (s : gx_S) : Option (Int × gx_S) :=
  k_29 (s0 + s1) x2 (x3 + 1) s
def gm_217_29 (k_13 : Int → Int → gx_S → Option (Int × gx_S)) : Nat → Int → Int → Int → gx_S → Option (Int × gx_S)
  | 0, _, _, _, _ => none
  | n + 1, x1, x2, x3, s =>
    if (-2147483648 ≤ x3 ∧ x3 ≤ 2147483647) then (
    if 9 ≤ x3 then (
      if 0 ≤ ((9 * x2) + 8) ∧ ((9 * x2) + 8) < 27 then (
      (gm_176 x2 s).bind fun q7 =>
      k_13 x1 (x2 + 1) (gw1 q7.2 245 (((9 * x2) + 8)).toNat ((s.1 245 (((9 * x2) + 8)).toNat) + q7.1))) else none) else (
      (gm_183 x3 s).bind fun q11 =>
      if 0 ≤ ((9 * x2) + x3) ∧ ((9 * x2) + x3) < 27 then (
      if 8 ≤ x3 then (
        gm_217_67 (gm_217_29 k_13 n) x2 x3 x1 0 (gw1 q11.2 245 (((9 * x2) + x3)).toNat q11.1)) else (
        (gm_183 x3 (gw1 q11.2 245 (((9 * x2) + x3)).toNat q11.1)).bind fun q17 =>
        gm_217_67 (gm_217_29 k_13 n) x2 x3 x1 q17.1 q17.2)) else none)) else none
def gm_217_13 : Nat → Int → Int → gx_S → Option (Int × gx_S)
  | 0, _, _, _ => none
  | n + 1, x1, x2, s =>
    if (-2147483648 ≤ x2 ∧ x2 ≤ 2147483647) then (
    if 3 ≤ x2 then (
      (gm_132 s).bind fun q4 =>
      gm_217_107 100000 x1 0 q4) else (
      (gm_181 x2 s).bind fun q6 =>
      (gm_173 q6).bind fun q8 =>
      gm_217_29 (gm_217_13 n) 100000 x1 x2 0 q8)) else none
def gm_217 (s : gx_S) : Option (Int × gx_S) :=
  (gm_150 s).bind fun q62 =>
  if ¬ (gb q62.1) = 0 then (
    gm_217_13 100000 0 0 q62.2) else (
    some ((-1), q62.2))
/-! ZoneSharesModel.movedAll()I -/
def gm_224_38 (x1 : Int) (s : gx_S) : Option (Int × gx_S) :=
  some (x1, s)
def gm_224_4 : Nat → Int → Int → gx_S → Option (Int × gx_S)
  | 0, _, _, _ => none
  | n + 1, x1, x2, s =>
    if (-2147483648 ≤ x2 ∧ x2 ≤ 2147483647) then (
    if 3 ≤ x2 then (
      gm_224_38 x1 s) else (
      (gm_150 s).bind fun q4 =>
      if (gb q4.1) = 0 then (
        gm_224_38 x1 q4.2) else (
        (gm_181 x2 q4.2).bind fun q7 =>
        (gm_173 q7).bind fun q9 =>
        (gm_184 q9).bind fun q11 =>
        gm_224_4 n (x1 + q11.1) (x2 + 1) q11.2))) else none
def gm_224 (s : gx_S) : Option (Int × gx_S) :=
  gm_224_4 100000 0 0 s
