/-! ZoneSharesModel.people(II)I -/
def gm_179 (x1 : Int) (x2 : Int) (s : gx_S) : Option (Int × gx_S) :=
  (gm_148 x1 s).bind fun q23 =>
  if (gb q23.1) = 0 then (
    some ((-1), q23.2)) else (
    if (-2147483648 ≤ x2 ∧ x2 ≤ 2147483647) then (
    (gm_130 x2 0 10 q23.2).bind fun q27 =>
    if ¬ (gb q27.1) = 0 then (
      if x2 = 8 then (
        (gm_174 x1 q27.2).bind fun q42 =>
        some (q42.1, q42.2)) else (
        if x2 = 9 then (
          (gm_176 x1 q27.2).bind fun q40 =>
          some (q40.1, q40.2)) else (
          if x2 = 10 then (
            (gm_178 x1 q27.2).bind fun q38 =>
            some (q38.1, q38.2)) else (
            (gm_177 x1 q27.2).bind fun q33 =>
            if 0 ≤ x2 ∧ x2 < 8 then (
            some ((q33.1 236 (x2).toNat), q33)) else none)))) else (
      some ((-1), q27.2))) else none)
theorem gf_179 {x1 : Int} {yx1 : Int32} (e1 : yx1 = Int32.ofInt x1) {x2 : Int} {yx2 : Int32} (e2 : yx2 = Int32.ofInt x2) {s : gx_S} {σ : fx_S} (es : σ = gx s) {q : Int × gx_S} (h : gm_179 x1 x2 s = some q) : fm_179 yx1 yx2 σ = some (Int32.ofInt q.1, gx q.2) := by
  unfold gm_179 at h
  unfold fm_179
  obtain ⟨q23, w22, h⟩ := fx_bd h
  refine gb_bind (gf_148 e1 es w22) ?_
  by_cases c24 : (gb q23.1) = 0
  · rw [if_pos c24] at h
    refine gb_t ((gc_eq (gb_b q23.1) kg_0 (gb_r _) (by decide)).mpr c24) ?_
    have h := Option.some.inj h
    subst h
    exact gret kg_m1 (rfl : _ = gx q23.2)
  · rw [if_neg c24] at h
    refine gb_f (fun q => c24 ((gc_eq (gb_b q23.1) kg_0 (gb_r _) (by decide)).mp q)) ?_
    obtain ⟨z25, h⟩ := fx_gd h
    obtain ⟨q27, w26, h⟩ := fx_bd h
    refine gb_bind (gf_130 (ga_i2l e2 z25) kgl_0 kgl_10 (rfl : _ = gx q23.2) w26) ?_
    by_cases c28 : ¬ (gb q27.1) = 0
    · rw [if_pos c28] at h
      refine gb_t ((gc_ne (gb_b q27.1) kg_0 (gb_r _) (by decide)).mpr c28) ?_
      by_cases c29 : x2 = 8
      · rw [if_pos c29] at h
        refine gb_t ((gc_eq e2 kg_8 z25 (by decide)).mpr c29) ?_
        obtain ⟨q42, w41, h⟩ := fx_bd h
        refine gb_bind (gf_174 e1 (rfl : _ = gx q27.2) w41) ?_
        have h := Option.some.inj h
        subst h
        exact gret (gr q42.1) (rfl : _ = gx q42.2)
      · rw [if_neg c29] at h
        refine gb_f (fun q => c29 ((gc_eq e2 kg_8 z25 (by decide)).mp q)) ?_
        by_cases c30 : x2 = 9
        · rw [if_pos c30] at h
          refine gb_t ((gc_eq e2 kg_9 z25 (by decide)).mpr c30) ?_
          obtain ⟨q40, w39, h⟩ := fx_bd h
          refine gb_bind (gf_176 e1 (rfl : _ = gx q27.2) w39) ?_
          have h := Option.some.inj h
          subst h
          exact gret (gr q40.1) (rfl : _ = gx q40.2)
        · rw [if_neg c30] at h
          refine gb_f (fun q => c30 ((gc_eq e2 kg_9 z25 (by decide)).mp q)) ?_
          by_cases c31 : x2 = 10
          · rw [if_pos c31] at h
            refine gb_t ((gc_eq e2 kg_10 z25 (by decide)).mpr c31) ?_
            obtain ⟨q38, w37, h⟩ := fx_bd h
            refine gb_bind (gf_178 e1 (rfl : _ = gx q27.2) w37) ?_
            have h := Option.some.inj h
            subst h
            exact gret (gr q38.1) (rfl : _ = gx q38.2)
          · rw [if_neg c31] at h
            refine gb_f (fun q => c31 ((gc_eq e2 kg_10 z25 (by decide)).mp q)) ?_
            obtain ⟨q33, w32, h⟩ := fx_bd h
            refine gb_bind (gf_177 e1 (rfl : _ = gx q27.2) w32) ?_
            obtain ⟨z36, h⟩ := fx_gd h
            refine gb_bind (gl_ld (rfl : _ = gx q33) e2 ga_236 z36) ?_
            have h := Option.some.inj h
            subst h
            exact gret (gr (q33.1 236 (x2).toNat)) (rfl : _ = gx q33)
    · rw [if_neg c28] at h
      refine gb_f (fun q => c28 ((gc_ne (gb_b q27.1) kg_0 (gb_r _) (by decide)).mp q)) ?_
      have h := Option.some.inj h
      subst h
      exact gret kg_m1 (rfl : _ = gx q27.2)

/-! ZoneSharesModel.byCells(II)Z -/
def gm_180 (x1 : Int) (x2 : Int) (s : gx_S) : Option (Bool × gx_S) :=
  (gm_157 x1 x2 (-1) 0 s).bind fun q6 =>
  if (-2147483648 ≤ q6.1 ∧ q6.1 ≤ 2147483647) then (
  if ¬ q6.1 = 0 then (
    some (false, q6.2)) else (
    some (true, q6.2))) else none
theorem gf_180 {x1 : Int} {yx1 : Int32} (e1 : yx1 = Int32.ofInt x1) {x2 : Int} {yx2 : Int32} (e2 : yx2 = Int32.ofInt x2) {s : gx_S} {σ : fx_S} (es : σ = gx s) {q : Bool × gx_S} (h : gm_180 x1 x2 s = some q) : fm_180 yx1 yx2 σ = some (q.1, gx q.2) := by
  unfold gm_180 at h
  unfold fm_180
  obtain ⟨q6, w5, h⟩ := fx_bd h
  refine gb_bind (gf_157 e1 e2 kg_m1 kg_0 es w5) ?_
  obtain ⟨z7, h⟩ := fx_gd h
  by_cases c8 : ¬ q6.1 = 0
  · rw [if_pos c8] at h
    refine gb_t ((gc_ne (gr q6.1) kg_0 z7 (by decide)).mpr c8) ?_
    have h := Option.some.inj h
    subst h
    exact gretb (rfl : _ = gx q6.2)
  · rw [if_neg c8] at h
    refine gb_f (fun q => c8 ((gc_ne (gr q6.1) kg_0 z7 (by decide)).mp q)) ?_
    have h := Option.some.inj h
    subst h
    exact gretb (rfl : _ = gx q6.2)

/-! ZoneSharesModel.laysMoved(I)V -/
def gm_181_44 (k_15 : Int → Int → gx_S → Option (gx_S)) : Nat → Int → Int → Int → Int → gx_S → Option (gx_S)
  | 0, _, _, _, _, _ => none
  | n + 1, x1, x2, x3, x4, s =>
    if (-2147483648 ≤ x4 ∧ x4 ≤ 2147483647) then (
    if 9 ≤ x4 then (
      k_15 x1 (x2 + 1) s) else (
      (gm_160 x2 x4 s).bind fun q4 =>
      (gm_157 x1 x2 x4 x3 q4.2).bind fun q6 =>
      if 0 ≤ q4.1 ∧ q4.1 < 72 then (
      gm_181_44 k_15 n x1 x2 x3 (x4 + 1) (gw1 q6.2 222 (q4.1).toNat q6.1)) else none)) else none
theorem gf_181_44 {kf_15 : Int32 → Int32 → fx_S → Option (fx_S)} {kg_15 : Int → Int → gx_S → Option (gx_S)} (hk_15 : ∀ (x1 : Int) (yx1 : Int32) (e1 : yx1 = Int32.ofInt x1) (x2 : Int) (yx2 : Int32) (e2 : yx2 = Int32.ofInt x2) (s : gx_S) (σ : fx_S) (es : σ = gx s) (q : gx_S), kg_15 x1 x2 s = some q → kf_15 yx1 yx2 σ = some (gx q)) : ∀ (n : Nat) (x1 : Int) (yx1 : Int32) (e1 : yx1 = Int32.ofInt x1) (x2 : Int) (yx2 : Int32) (e2 : yx2 = Int32.ofInt x2) (x3 : Int) (yx3 : Int32) (e3 : yx3 = Int32.ofInt x3) (x4 : Int) (yx4 : Int32) (e4 : yx4 = Int32.ofInt x4) (s : gx_S) (σ : fx_S) (es : σ = gx s) (q : gx_S), gm_181_44 kg_15 n x1 x2 x3 x4 s = some q → fm_181_44 kf_15 n yx1 yx2 yx3 yx4 σ = some (gx q) := by
  intro n
  induction n with
  | zero =>
    intro x1 yx1 e1 x2 yx2 e2 x3 yx3 e3 x4 yx4 e4 s σ es q  h
    rw [gm_181_44] at h
    exact fx_no h
  | succ n ih =>
    intro x1 yx1 e1 x2 yx2 e2 x3 yx3 e3 x4 yx4 e4 s σ es q  h
    rw [gm_181_44] at h
    rw [fm_181_44]
    obtain ⟨z1, h⟩ := fx_gd h
    by_cases c2 : 9 ≤ x4
    · rw [if_pos c2] at h
      refine gb_t ((gc_le kg_9 e4 (by decide) z1).mpr c2) ?_
      exact hk_15 _ _ e1 _ _ (ga_add e2 kg_1) _ _ es _ h
    · rw [if_neg c2] at h
      refine gb_f (fun q => c2 ((gc_le kg_9 e4 (by decide) z1).mp q)) ?_
      obtain ⟨q4, w3, h⟩ := fx_bd h
      refine gb_bind (gf_160 e2 e4 es w3) ?_
      obtain ⟨q6, w5, h⟩ := fx_bd h
      refine gb_bind (gf_157 e1 e2 e4 e3 (rfl : _ = gx q4.2) w5) ?_
      obtain ⟨z9, h⟩ := fx_gd h
      refine gb_bind (gl_st (rfl : _ = gx q6.2) (gr q4.1) (gr q6.1) ga_222 z9) ?_
      exact ih _ _ e1 _ _ e2 _ _ e3 _ _ (ga_add e4 kg_1) _ _ (rfl : _ = gx (gw1 q6.2 222 (q4.1).toNat q6.1)) _ h
def gm_181_15 : Nat → Int → Int → gx_S → Option (gx_S)
  | 0, _, _, _ => none
  | n + 1, x1, x2, s =>
    if (-2147483648 ≤ x2 ∧ x2 ≤ 2147483647) then (
    if 8 ≤ x2 then (
      some s) else (
      if 0 ≤ x2 ∧ x2 < 8 then (
      if (-2147483648 ≤ (s.1 236 (x2).toNat) ∧ (s.1 236 (x2).toNat) ≤ 2147483647) then (
      (gm_180 x1 x2 (gw2 s 221 (x2).toNat (s.1 236 (x2).toNat))).bind fun q10 =>
      gm_181_44 (gm_181_15 n) 100000 x1 x2 (gb q10.1) 0 q10.2) else none) else none)) else none
theorem gf_181_15 : ∀ (n : Nat) (x1 : Int) (yx1 : Int32) (e1 : yx1 = Int32.ofInt x1) (x2 : Int) (yx2 : Int32) (e2 : yx2 = Int32.ofInt x2) (s : gx_S) (σ : fx_S) (es : σ = gx s) (q : gx_S), gm_181_15 n x1 x2 s = some q → fm_181_15 n yx1 yx2 σ = some (gx q) := by
  intro n
  induction n with
  | zero =>
    intro x1 yx1 e1 x2 yx2 e2 s σ es q  h
    rw [gm_181_15] at h
    exact fx_no h
  | succ n ih =>
    intro x1 yx1 e1 x2 yx2 e2 s σ es q  h
    rw [gm_181_15] at h
    rw [fm_181_15]
    obtain ⟨z1, h⟩ := fx_gd h
    by_cases c2 : 8 ≤ x2
    · rw [if_pos c2] at h
      refine gb_t ((gc_le kg_8 e2 (by decide) z1).mpr c2) ?_
      have h := Option.some.inj h
      subst h
      exact gretv es
    · rw [if_neg c2] at h
      refine gb_f (fun q => c2 ((gc_le kg_8 e2 (by decide) z1).mp q)) ?_
      obtain ⟨z5, h⟩ := fx_gd h
      refine gb_bind (gl_ld es e2 ga_236 z5) ?_
      obtain ⟨z6, h⟩ := fx_gd h
      refine gb_bind (gl_stl es e2 (ga_i2l (gr (s.1 236 (x2).toNat)) z6) ga_221 z5) ?_
      obtain ⟨q10, w9, h⟩ := fx_bd h
      refine gb_bind (gf_180 e1 e2 (rfl : _ = gx (gw2 s 221 (x2).toNat (s.1 236 (x2).toNat))) w9) ?_
      exact gf_181_44 ih 100000 _ _ e1 _ _ e2 _ _ (gb_b q10.1) _ _ kg_0 _ _ (rfl : _ = gx q10.2) _ h
def gm_181 (x1 : Int) (s : gx_S) : Option (gx_S) :=
  (gm_177 x1 s).bind fun q35 =>
  (gm_159 8 9 q35).bind fun q37 =>
  gm_181_15 100000 x1 0 q37
theorem gf_181 {x1 : Int} {yx1 : Int32} (e1 : yx1 = Int32.ofInt x1) {s : gx_S} {σ : fx_S} (es : σ = gx s) {q : gx_S} (h : gm_181 x1 s = some q) : fm_181 yx1 σ = some (gx q) := by
  unfold gm_181 at h
  unfold fm_181
  obtain ⟨q35, w34, h⟩ := fx_bd h
  refine gb_bind (gf_177 e1 es w34) ?_
  obtain ⟨q37, w36, h⟩ := fx_bd h
  refine gb_bind (gf_159 kg_8 kg_9 (rfl : _ = gx q35) w36) ?_
  exact gf_181_15 100000 _ _ e1 _ _ kg_0 _ _ (rfl : _ = gx q37) _ h

/-! ZoneSharesModel.rowSum(I)I -/
def gm_182_4 : Nat → Int → Int → Int → gx_S → Option (Int × gx_S)
  | 0, _, _, _, _ => none
  | n + 1, x1, x2, x3, s =>
    if (-2147483648 ≤ x3 ∧ x3 ≤ 2147483647) then (
    if (-2147483648 ≤ (s.1 215 18) ∧ (s.1 215 18) ≤ 2147483647) then (
    if (s.1 215 18) ≤ x3 then (
      some (x2, s)) else (
      (gm_160 x1 x3 s).bind fun q5 =>
      if 0 ≤ q5.1 ∧ q5.1 < 72 then (
      gm_182_4 n x1 (x2 + (q5.2.2 224 (q5.1).toNat)) (x3 + 1) q5.2) else none)) else none) else none
theorem gf_182_4 : ∀ (n : Nat) (x1 : Int) (yx1 : Int32) (e1 : yx1 = Int32.ofInt x1) (x2 : Int) (yx2 : Int32) (e2 : yx2 = Int32.ofInt x2) (x3 : Int) (yx3 : Int32) (e3 : yx3 = Int32.ofInt x3) (s : gx_S) (σ : fx_S) (es : σ = gx s) (q : Int × gx_S), gm_182_4 n x1 x2 x3 s = some q → fm_182_4 n yx1 yx2 yx3 σ = some (Int32.ofInt q.1, gx q.2) := by
  intro n
  induction n with
  | zero =>
    intro x1 yx1 e1 x2 yx2 e2 x3 yx3 e3 s σ es q  h
    rw [gm_182_4] at h
    exact fx_no h
  | succ n ih =>
    intro x1 yx1 e1 x2 yx2 e2 x3 yx3 e3 s σ es q  h
    rw [gm_182_4] at h
    rw [fm_182_4]
    obtain ⟨z1, h⟩ := fx_gd h
    obtain ⟨z2, h⟩ := fx_gd h
    by_cases c3 : (s.1 215 18) ≤ x3
    · rw [if_pos c3] at h
      refine gb_t ((gc_le (gf1 es 215 18) e3 z2 z1).mpr c3) ?_
      have h := Option.some.inj h
      subst h
      exact gret e2 es
    · rw [if_neg c3] at h
      refine gb_f (fun q => c3 ((gc_le (gf1 es 215 18) e3 z2 z1).mp q)) ?_
      obtain ⟨q5, w4, h⟩ := fx_bd h
      refine gb_bind (gf_160 e1 e3 es w4) ?_
      obtain ⟨z8, h⟩ := fx_gd h
      refine gb_bind (gl_ldl (rfl : _ = gx q5.2) (gr q5.1) ga_224 z8) ?_
      exact ih _ _ e1 _ _ (ga_add e2 (ga_l2i (gr2 (q5.2.2 224 (q5.1).toNat)))) _ _ (ga_add e3 kg_1) _ _ (rfl : _ = gx q5.2) _ h
def gm_182 (x1 : Int) (s : gx_S) : Option (Int × gx_S) :=
  gm_182_4 100000 x1 0 0 s
theorem gf_182 {x1 : Int} {yx1 : Int32} (e1 : yx1 = Int32.ofInt x1) {s : gx_S} {σ : fx_S} (es : σ = gx s) {q : Int × gx_S} (h : gm_182 x1 s = some q) : fm_182 yx1 σ = some (Int32.ofInt q.1, gx q.2) := by
  unfold gm_182 at h
  unfold fm_182
  exact gf_182_4 100000 _ _ e1 _ _ kg_0 _ _ kg_0 _ _ es _ h

/-! ZoneSharesModel.columnSum(I)I -/
def gm_183_4 : Nat → Int → Int → Int → gx_S → Option (Int × gx_S)
  | 0, _, _, _, _ => none
  | n + 1, x1, x2, x3, s =>
    if (-2147483648 ≤ x3 ∧ x3 ≤ 2147483647) then (
    if (-2147483648 ≤ (s.1 215 17) ∧ (s.1 215 17) ≤ 2147483647) then (
    if (s.1 215 17) ≤ x3 then (
      some (x2, s)) else (
      (gm_160 x3 x1 s).bind fun q5 =>
      if 0 ≤ q5.1 ∧ q5.1 < 72 then (
      gm_183_4 n x1 (x2 + (q5.2.2 224 (q5.1).toNat)) (x3 + 1) q5.2) else none)) else none) else none
theorem gf_183_4 : ∀ (n : Nat) (x1 : Int) (yx1 : Int32) (e1 : yx1 = Int32.ofInt x1) (x2 : Int) (yx2 : Int32) (e2 : yx2 = Int32.ofInt x2) (x3 : Int) (yx3 : Int32) (e3 : yx3 = Int32.ofInt x3) (s : gx_S) (σ : fx_S) (es : σ = gx s) (q : Int × gx_S), gm_183_4 n x1 x2 x3 s = some q → fm_183_4 n yx1 yx2 yx3 σ = some (Int32.ofInt q.1, gx q.2) := by
  intro n
  induction n with
  | zero =>
    intro x1 yx1 e1 x2 yx2 e2 x3 yx3 e3 s σ es q  h
    rw [gm_183_4] at h
    exact fx_no h
  | succ n ih =>
    intro x1 yx1 e1 x2 yx2 e2 x3 yx3 e3 s σ es q  h
    rw [gm_183_4] at h
    rw [fm_183_4]
    obtain ⟨z1, h⟩ := fx_gd h
    obtain ⟨z2, h⟩ := fx_gd h
    by_cases c3 : (s.1 215 17) ≤ x3
    · rw [if_pos c3] at h
      refine gb_t ((gc_le (gf1 es 215 17) e3 z2 z1).mpr c3) ?_
      have h := Option.some.inj h
      subst h
      exact gret e2 es
    · rw [if_neg c3] at h
      refine gb_f (fun q => c3 ((gc_le (gf1 es 215 17) e3 z2 z1).mp q)) ?_
      obtain ⟨q5, w4, h⟩ := fx_bd h
      refine gb_bind (gf_160 e3 e1 es w4) ?_
      obtain ⟨z8, h⟩ := fx_gd h
      refine gb_bind (gl_ldl (rfl : _ = gx q5.2) (gr q5.1) ga_224 z8) ?_
      exact ih _ _ e1 _ _ (ga_add e2 (ga_l2i (gr2 (q5.2.2 224 (q5.1).toNat)))) _ _ (ga_add e3 kg_1) _ _ (rfl : _ = gx q5.2) _ h
def gm_183 (x1 : Int) (s : gx_S) : Option (Int × gx_S) :=
  gm_183_4 100000 x1 0 0 s
theorem gf_183 {x1 : Int} {yx1 : Int32} (e1 : yx1 = Int32.ofInt x1) {s : gx_S} {σ : fx_S} (es : σ = gx s) {q : Int × gx_S} (h : gm_183 x1 s = some q) : fm_183 yx1 σ = some (Int32.ofInt q.1, gx q.2) := by
  unfold gm_183 at h
  unfold fm_183
  exact gf_183_4 100000 _ _ e1 _ _ kg_0 _ _ kg_0 _ _ es _ h

/-! ZoneSharesModel.tableSum()I -/
def gm_184_4 : Nat → Int → Int → gx_S → Option (Int × gx_S)
  | 0, _, _, _ => none
  | n + 1, x1, x2, s =>
    if (-2147483648 ≤ x2 ∧ x2 ≤ 2147483647) then (
    if (-2147483648 ≤ (s.1 215 17) ∧ (s.1 215 17) ≤ 2147483647) then (
    if (s.1 215 17) ≤ x2 then (
      some (x1, s)) else (
      (gm_182 x2 s).bind fun q5 =>
      gm_184_4 n (x1 + q5.1) (x2 + 1) q5.2)) else none) else none
theorem gf_184_4 : ∀ (n : Nat) (x1 : Int) (yx1 : Int32) (e1 : yx1 = Int32.ofInt x1) (x2 : Int) (yx2 : Int32) (e2 : yx2 = Int32.ofInt x2) (s : gx_S) (σ : fx_S) (es : σ = gx s) (q : Int × gx_S), gm_184_4 n x1 x2 s = some q → fm_184_4 n yx1 yx2 σ = some (Int32.ofInt q.1, gx q.2) := by
  intro n
  induction n with
  | zero =>
    intro x1 yx1 e1 x2 yx2 e2 s σ es q  h
    rw [gm_184_4] at h
    exact fx_no h
  | succ n ih =>
    intro x1 yx1 e1 x2 yx2 e2 s σ es q  h
    rw [gm_184_4] at h
    rw [fm_184_4]
    obtain ⟨z1, h⟩ := fx_gd h
    obtain ⟨z2, h⟩ := fx_gd h
    by_cases c3 : (s.1 215 17) ≤ x2
    · rw [if_pos c3] at h
      refine gb_t ((gc_le (gf1 es 215 17) e2 z2 z1).mpr c3) ?_
      have h := Option.some.inj h
      subst h
      exact gret e1 es
    · rw [if_neg c3] at h
      refine gb_f (fun q => c3 ((gc_le (gf1 es 215 17) e2 z2 z1).mp q)) ?_
      obtain ⟨q5, w4, h⟩ := fx_bd h
      refine gb_bind (gf_182 e2 es w4) ?_
      exact ih _ _ (ga_add e1 (gr q5.1)) _ _ (ga_add e2 kg_1) _ _ (rfl : _ = gx q5.2) _ h
def gm_184 (s : gx_S) : Option (Int × gx_S) :=
  gm_184_4 100000 0 0 s
theorem gf_184 {s : gx_S} {σ : fx_S} (es : σ = gx s) {q : Int × gx_S} (h : gm_184 s = some q) : fm_184 σ = some (Int32.ofInt q.1, gx q.2) := by
  unfold gm_184 at h
  unfold fm_184
  exact gf_184_4 100000 _ _ kg_0 _ _ kg_0 _ _ es _ h

/-! ZoneSharesModel.districtAt(I)I -/
def gm_186 (x1 : Int) (s : gx_S) : Option (Int × gx_S) :=
  if (-2147483648 ≤ x1 ∧ x1 ≤ 2147483647) then (
  if ¬ x1 = 8 then (
    if 0 ≤ (44 + x1) ∧ (44 + x1) < 340 then (
    some ((s.1 216 ((44 + x1)).toNat), s)) else none) else (
    some (4, s))) else none
theorem gf_186 {x1 : Int} {yx1 : Int32} (e1 : yx1 = Int32.ofInt x1) {s : gx_S} {σ : fx_S} (es : σ = gx s) {q : Int × gx_S} (h : gm_186 x1 s = some q) : fm_186 yx1 σ = some (Int32.ofInt q.1, gx q.2) := by
  unfold gm_186 at h
  unfold fm_186
  obtain ⟨z6, h⟩ := fx_gd h
  by_cases c7 : ¬ x1 = 8
  · rw [if_pos c7] at h
    refine gb_t ((gc_ne e1 kg_8 z6 (by decide)).mpr c7) ?_
    obtain ⟨z10, h⟩ := fx_gd h
    refine gb_bind (gl_ld es (ga_add kg_44 e1) ga_216 z10) ?_
    have h := Option.some.inj h
    subst h
    exact gret (gr (s.1 216 ((44 + x1)).toNat)) es
  · rw [if_neg c7] at h
    refine gb_f (fun q => c7 ((gc_ne e1 kg_8 z6 (by decide)).mp q)) ?_
    have h := Option.some.inj h
    subst h
    exact gret kg_4 es

/-! ZoneSharesModel.laysCoarse(I)V -/
def gm_187_91 (k_7 : Int → gx_S → Option (gx_S)) : Nat → Int → Int → gx_S → Option (gx_S)
  | 0, _, _, _ => none
  | n + 1, x2, x4, s =>
    if (-2147483648 ≤ x4 ∧ x4 ≤ 2147483647) then (
    if 4 < x4 then (
      k_7 (x2 + 1) s) else (
      (gm_160 x2 x4 s).bind fun q4 =>
      if 0 ≤ x4 ∧ x4 < 5 then (
      if 0 ≤ q4.1 ∧ q4.1 < 72 then (
      gm_187_91 k_7 n x2 (x4 + 1) (gw1 q4.2 222 (q4.1).toNat (q4.2.1 237 (x4).toNat))) else none) else none)) else none
theorem gf_187_91 {kf_7 : Int32 → fx_S → Option (fx_S)} {kg_7 : Int → gx_S → Option (gx_S)} (hk_7 : ∀ (x2 : Int) (yx2 : Int32) (e2 : yx2 = Int32.ofInt x2) (s : gx_S) (σ : fx_S) (es : σ = gx s) (q : gx_S), kg_7 x2 s = some q → kf_7 yx2 σ = some (gx q)) : ∀ (n : Nat) (x2 : Int) (yx2 : Int32) (e2 : yx2 = Int32.ofInt x2) (x4 : Int) (yx4 : Int32) (e4 : yx4 = Int32.ofInt x4) (s : gx_S) (σ : fx_S) (es : σ = gx s) (q : gx_S), gm_187_91 kg_7 n x2 x4 s = some q → fm_187_91 kf_7 n yx2 yx4 σ = some (gx q) := by
  intro n
  induction n with
  | zero =>
    intro x2 yx2 e2 x4 yx4 e4 s σ es q  h
    rw [gm_187_91] at h
    exact fx_no h
  | succ n ih =>
    intro x2 yx2 e2 x4 yx4 e4 s σ es q  h
    rw [gm_187_91] at h
    rw [fm_187_91]
    obtain ⟨z1, h⟩ := fx_gd h
    by_cases c2 : 4 < x4
    · rw [if_pos c2] at h
      refine gb_t ((gc_lt kg_4 e4 (by decide) z1).mpr c2) ?_
      exact hk_7 _ _ (ga_add e2 kg_1) _ _ es _ h
    · rw [if_neg c2] at h
      refine gb_f (fun q => c2 ((gc_lt kg_4 e4 (by decide) z1).mp q)) ?_
      obtain ⟨q4, w3, h⟩ := fx_bd h
      refine gb_bind (gf_160 e2 e4 es w3) ?_
      obtain ⟨z7, h⟩ := fx_gd h
      refine gb_bind (gl_ld (rfl : _ = gx q4.2) e4 ga_237 z7) ?_
      obtain ⟨z10, h⟩ := fx_gd h
      refine gb_bind (gl_st (rfl : _ = gx q4.2) (gr q4.1) (gr (q4.2.1 237 (x4).toNat)) ga_222 z10) ?_
      exact ih _ _ e2 _ _ (ga_add e4 kg_1) _ _ (rfl : _ = gx (gw1 q4.2 222 (q4.1).toNat (q4.2.1 237 (x4).toNat))) _ h
def gm_187_41 (k_7 : Int → gx_S → Option (gx_S)) : Nat → Int → Int → gx_S → Option (gx_S)
  | 0, _, _, _ => none
  | n + 1, x2, x4, s =>
    if (-2147483648 ≤ x4 ∧ x4 ≤ 2147483647) then (
    if 9 ≤ x4 then (
      gm_187_91 k_7 100000 x2 0 s) else (
      (gm_186 x4 s).bind fun q4 =>
      if 0 ≤ q4.1 ∧ q4.1 < 5 then (
      (gm_160 x2 x4 q4.2).bind fun q9 =>
      if 0 ≤ q9.1 ∧ q9.1 < 72 then (
      (gm_160 x2 x4 (gw1 q9.2 237 (q4.1).toNat ((q4.2.1 237 (q4.1).toNat) + (q9.2.1 222 (q9.1).toNat)))).bind fun q16 =>
      if 0 ≤ q16.1 ∧ q16.1 < 72 then (
      gm_187_41 k_7 n x2 (x4 + 1) (gw1 q16.2 222 (q16.1).toNat 0)) else none) else none) else none)) else none
theorem gf_187_41 {kf_7 : Int32 → fx_S → Option (fx_S)} {kg_7 : Int → gx_S → Option (gx_S)} (hk_7 : ∀ (x2 : Int) (yx2 : Int32) (e2 : yx2 = Int32.ofInt x2) (s : gx_S) (σ : fx_S) (es : σ = gx s) (q : gx_S), kg_7 x2 s = some q → kf_7 yx2 σ = some (gx q)) : ∀ (n : Nat) (x2 : Int) (yx2 : Int32) (e2 : yx2 = Int32.ofInt x2) (x4 : Int) (yx4 : Int32) (e4 : yx4 = Int32.ofInt x4) (s : gx_S) (σ : fx_S) (es : σ = gx s) (q : gx_S), gm_187_41 kg_7 n x2 x4 s = some q → fm_187_41 kf_7 n yx2 yx4 σ = some (gx q) := by
  intro n
  induction n with
  | zero =>
    intro x2 yx2 e2 x4 yx4 e4 s σ es q  h
    rw [gm_187_41] at h
    exact fx_no h
  | succ n ih =>
    intro x2 yx2 e2 x4 yx4 e4 s σ es q  h
    rw [gm_187_41] at h
    rw [fm_187_41]
    obtain ⟨z1, h⟩ := fx_gd h
    by_cases c2 : 9 ≤ x4
    · rw [if_pos c2] at h
      refine gb_t ((gc_le kg_9 e4 (by decide) z1).mpr c2) ?_
      exact gf_187_91 hk_7 100000 _ _ e2 _ _ kg_0 _ _ es _ h
    · rw [if_neg c2] at h
      refine gb_f (fun q => c2 ((gc_le kg_9 e4 (by decide) z1).mp q)) ?_
      obtain ⟨q4, w3, h⟩ := fx_bd h
      refine gb_bind (gf_186 e4 es w3) ?_
      obtain ⟨z7, h⟩ := fx_gd h
      refine gb_bind (gl_ld (rfl : _ = gx q4.2) (gr q4.1) ga_237 z7) ?_
      obtain ⟨q9, w8, h⟩ := fx_bd h
      refine gb_bind (gf_160 e2 e4 (rfl : _ = gx q4.2) w8) ?_
      obtain ⟨z12, h⟩ := fx_gd h
      refine gb_bind (gl_ld (rfl : _ = gx q9.2) (gr q9.1) ga_222 z12) ?_
      refine gb_bind (gl_st (rfl : _ = gx q9.2) (gr q4.1) (ga_add (gr (q4.2.1 237 (q4.1).toNat)) (gr (q9.2.1 222 (q9.1).toNat))) ga_237 z7) ?_
      obtain ⟨q16, w15, h⟩ := fx_bd h
      refine gb_bind (gf_160 e2 e4 (rfl : _ = gx (gw1 q9.2 237 (q4.1).toNat ((q4.2.1 237 (q4.1).toNat) + (q9.2.1 222 (q9.1).toNat)))) w15) ?_
      obtain ⟨z19, h⟩ := fx_gd h
      refine gb_bind (gl_st (rfl : _ = gx q16.2) (gr q16.1) kg_0 ga_222 z19) ?_
      exact ih _ _ e2 _ _ (ga_add e4 kg_1) _ _ (rfl : _ = gx (gw1 q16.2 222 (q16.1).toNat 0)) _ h
def gm_187_21 (k_7 : Int → gx_S → Option (gx_S)) : Nat → Int → Int → gx_S → Option (gx_S)
  | 0, _, _, _ => none
  | n + 1, x2, x4, s =>
    if (-2147483648 ≤ x4 ∧ x4 ≤ 2147483647) then (
    if 4 < x4 then (
      gm_187_41 k_7 100000 x2 0 s) else (
      if 0 ≤ x4 ∧ x4 < 5 then (
      gm_187_21 k_7 n x2 (x4 + 1) (gw1 s 237 (x4).toNat 0)) else none)) else none
theorem gf_187_21 {kf_7 : Int32 → fx_S → Option (fx_S)} {kg_7 : Int → gx_S → Option (gx_S)} (hk_7 : ∀ (x2 : Int) (yx2 : Int32) (e2 : yx2 = Int32.ofInt x2) (s : gx_S) (σ : fx_S) (es : σ = gx s) (q : gx_S), kg_7 x2 s = some q → kf_7 yx2 σ = some (gx q)) : ∀ (n : Nat) (x2 : Int) (yx2 : Int32) (e2 : yx2 = Int32.ofInt x2) (x4 : Int) (yx4 : Int32) (e4 : yx4 = Int32.ofInt x4) (s : gx_S) (σ : fx_S) (es : σ = gx s) (q : gx_S), gm_187_21 kg_7 n x2 x4 s = some q → fm_187_21 kf_7 n yx2 yx4 σ = some (gx q) := by
  intro n
  induction n with
  | zero =>
    intro x2 yx2 e2 x4 yx4 e4 s σ es q  h
    rw [gm_187_21] at h
    exact fx_no h
  | succ n ih =>
    intro x2 yx2 e2 x4 yx4 e4 s σ es q  h
    rw [gm_187_21] at h
    rw [fm_187_21]
    obtain ⟨z1, h⟩ := fx_gd h
    by_cases c2 : 4 < x4
    · rw [if_pos c2] at h
      refine gb_t ((gc_lt kg_4 e4 (by decide) z1).mpr c2) ?_
      exact gf_187_41 hk_7 100000 _ _ e2 _ _ kg_0 _ _ es _ h
    · rw [if_neg c2] at h
      refine gb_f (fun q => c2 ((gc_lt kg_4 e4 (by decide) z1).mp q)) ?_
      obtain ⟨z5, h⟩ := fx_gd h
      refine gb_bind (gl_st es e4 kg_0 ga_237 z5) ?_
      exact ih _ _ e2 _ _ (ga_add e4 kg_1) _ _ (rfl : _ = gx (gw1 s 237 (x4).toNat 0)) _ h
def gm_187_7 : Nat → Int → gx_S → Option (gx_S)
  | 0, _, _ => none
  | n + 1, x2, s =>
    if (-2147483648 ≤ x2 ∧ x2 ≤ 2147483647) then (
    if 8 ≤ x2 then (
      some (gw1 s 215 18 5)) else (
      gm_187_21 (gm_187_7 n) 100000 x2 0 s)) else none
theorem gf_187_7 : ∀ (n : Nat) (x2 : Int) (yx2 : Int32) (e2 : yx2 = Int32.ofInt x2) (s : gx_S) (σ : fx_S) (es : σ = gx s) (q : gx_S), gm_187_7 n x2 s = some q → fm_187_7 n yx2 σ = some (gx q) := by
  intro n
  induction n with
  | zero =>
    intro x2 yx2 e2 s σ es q  h
    rw [gm_187_7] at h
    exact fx_no h
  | succ n ih =>
    intro x2 yx2 e2 s σ es q  h
    rw [gm_187_7] at h
    rw [fm_187_7]
    obtain ⟨z1, h⟩ := fx_gd h
    by_cases c2 : 8 ≤ x2
    · rw [if_pos c2] at h
      refine gb_t ((gc_le kg_8 e2 (by decide) z1).mpr c2) ?_
      have h := Option.some.inj h
      subst h
      exact gretv (gx_w1 es kg_5)
    · rw [if_neg c2] at h
      refine gb_f (fun q => c2 ((gc_le kg_8 e2 (by decide) z1).mp q)) ?_
      exact gf_187_21 ih 100000 _ _ e2 _ _ kg_0 _ _ es _ h
def gm_187 (x1 : Int) (s : gx_S) : Option (gx_S) :=
  (gm_181 x1 s).bind fun q42 =>
  gm_187_7 100000 0 q42
theorem gf_187 {x1 : Int} {yx1 : Int32} (e1 : yx1 = Int32.ofInt x1) {s : gx_S} {σ : fx_S} (es : σ = gx s) {q : gx_S} (h : gm_187 x1 s = some q) : fm_187 yx1 σ = some (gx q) := by
  unfold gm_187 at h
  unfold fm_187
  obtain ⟨q42, w41, h⟩ := fx_bd h
  refine gb_bind (gf_181 e1 es w41) ?_
  exact gf_187_7 100000 _ _ kg_0 _ _ (rfl : _ = gx q42) _ h

/-! ZoneSharesModel.laysWay(IIZ)V -/
def gm_190_43 (k_3 : Int → Int → Int → Int → gx_S → Option (gx_S)) (x1 : Int) (x2 : Int) (x3 : Int) (x4 : Int) (s1 : Int) (s2 : Int) (s : gx_S) : Option (gx_S) :=
  if 0 ≤ s1 ∧ s1 < 72 then (
  k_3 x1 x2 x3 (x4 + 1) (gw1 s 222 (s1).toNat s2)) else none
theorem gf_190_43 {kf_3 : Int32 → Int32 → Int32 → Int32 → fx_S → Option (fx_S)} {kg_3 : Int → Int → Int → Int → gx_S → Option (gx_S)} (hk_3 : ∀ (x1 : Int) (yx1 : Int32) (e1 : yx1 = Int32.ofInt x1) (x2 : Int) (yx2 : Int32) (e2 : yx2 = Int32.ofInt x2) (x3 : Int) (yx3 : Int32) (e3 : yx3 = Int32.ofInt x3) (x4 : Int) (yx4 : Int32) (e4 : yx4 = Int32.ofInt x4) (s : gx_S) (σ : fx_S) (es : σ = gx s) (q : gx_S), kg_3 x1 x2 x3 x4 s = some q → kf_3 yx1 yx2 yx3 yx4 σ = some (gx q)) (x1 : Int) (yx1 : Int32) (e1 : yx1 = Int32.ofInt x1) (x2 : Int) (yx2 : Int32) (e2 : yx2 = Int32.ofInt x2) (x3 : Int) (yx3 : Int32) (e3 : yx3 = Int32.ofInt x3) (x4 : Int) (yx4 : Int32) (e4 : yx4 = Int32.ofInt x4) (s1 : Int) (ys1 : Int32) (es1 : ys1 = Int32.ofInt s1) (s2 : Int) (ys2 : Int32) (es2 : ys2 = Int32.ofInt s2) (s : gx_S) (σ : fx_S) (es : σ = gx s) (q : gx_S) (h : gm_190_43 kg_3 x1 x2 x3 x4 s1 s2 s = some q) : fm_190_43 kf_3 yx1 yx2 yx3 yx4 ys1 ys2 σ = some (gx q) := by
  unfold gm_190_43 at h
  unfold fm_190_43
  obtain ⟨z3, h⟩ := fx_gd h
  refine gb_bind (gl_st es es1 es2 ga_222 z3) ?_
  exact hk_3 _ _ e1 _ _ e2 _ _ e3 _ _ (ga_add e4 kg_1) _ _ (rfl : _ = gx (gw1 s 222 (s1).toNat s2)) _ h
def gm_190_3 : Nat → Int → Int → Int → Int → gx_S → Option (gx_S)
  | 0, _, _, _, _, _ => none
  | n + 1, x1, x2, x3, x4, s =>
    if (-2147483648 ≤ x4 ∧ x4 ≤ 2147483647) then (
    if 8 ≤ x4 then (
      some s) else (
      (gm_160 x2 x4 s).bind fun q4 =>
      (gm_186 x4 q4.2).bind fun q6 =>
      if (-2147483648 ≤ q6.1 ∧ q6.1 ≤ 2147483647) then (
      if (-2147483648 ≤ x2 ∧ x2 ≤ 2147483647) then (
      if ¬ q6.1 = x2 then (
        gm_190_43 (gm_190_3 n) x1 x2 x3 x4 q4.1 0 q6.2) else (
        (gm_157 x1 (-1) x4 x3 q6.2).bind fun q11 =>
        gm_190_43 (gm_190_3 n) x1 x2 x3 x4 q4.1 q11.1 q11.2)) else none) else none)) else none
theorem gf_190_3 : ∀ (n : Nat) (x1 : Int) (yx1 : Int32) (e1 : yx1 = Int32.ofInt x1) (x2 : Int) (yx2 : Int32) (e2 : yx2 = Int32.ofInt x2) (x3 : Int) (yx3 : Int32) (e3 : yx3 = Int32.ofInt x3) (x4 : Int) (yx4 : Int32) (e4 : yx4 = Int32.ofInt x4) (s : gx_S) (σ : fx_S) (es : σ = gx s) (q : gx_S), gm_190_3 n x1 x2 x3 x4 s = some q → fm_190_3 n yx1 yx2 yx3 yx4 σ = some (gx q) := by
  intro n
  induction n with
  | zero =>
    intro x1 yx1 e1 x2 yx2 e2 x3 yx3 e3 x4 yx4 e4 s σ es q  h
    rw [gm_190_3] at h
    exact fx_no h
  | succ n ih =>
    intro x1 yx1 e1 x2 yx2 e2 x3 yx3 e3 x4 yx4 e4 s σ es q  h
    rw [gm_190_3] at h
    rw [fm_190_3]
    obtain ⟨z1, h⟩ := fx_gd h
    by_cases c2 : 8 ≤ x4
    · rw [if_pos c2] at h
      refine gb_t ((gc_le kg_8 e4 (by decide) z1).mpr c2) ?_
      have h := Option.some.inj h
      subst h
      exact gretv es
    · rw [if_neg c2] at h
      refine gb_f (fun q => c2 ((gc_le kg_8 e4 (by decide) z1).mp q)) ?_
      obtain ⟨q4, w3, h⟩ := fx_bd h
      refine gb_bind (gf_160 e2 e4 es w3) ?_
      obtain ⟨q6, w5, h⟩ := fx_bd h
      refine gb_bind (gf_186 e4 (rfl : _ = gx q4.2) w5) ?_
      obtain ⟨z7, h⟩ := fx_gd h
      obtain ⟨z8, h⟩ := fx_gd h
      by_cases c9 : ¬ q6.1 = x2
      · rw [if_pos c9] at h
        refine gb_t ((gc_ne (gr q6.1) e2 z7 z8).mpr c9) ?_
        exact gf_190_43 ih _ _ e1 _ _ e2 _ _ e3 _ _ e4 _ _ (gr q4.1) _ _ kg_0 _ _ (rfl : _ = gx q6.2) _ h
      · rw [if_neg c9] at h
        refine gb_f (fun q => c9 ((gc_ne (gr q6.1) e2 z7 z8).mp q)) ?_
        obtain ⟨q11, w10, h⟩ := fx_bd h
        refine gb_bind (gf_157 e1 kg_m1 e4 e3 (rfl : _ = gx q6.2) w10) ?_
        exact gf_190_43 ih _ _ e1 _ _ e2 _ _ e3 _ _ e4 _ _ (gr q4.1) _ _ (gr q11.1) _ _ (rfl : _ = gx q11.2) _ h
def gm_190 (x1 : Int) (x2 : Int) (x3 : Int) (s : gx_S) : Option (gx_S) :=
  gm_190_3 100000 x1 x2 x3 0 s
theorem gf_190 {x1 : Int} {yx1 : Int32} (e1 : yx1 = Int32.ofInt x1) {x2 : Int} {yx2 : Int32} (e2 : yx2 = Int32.ofInt x2) {x3 : Int} {yx3 : Int32} (e3 : yx3 = Int32.ofInt x3) {s : gx_S} {σ : fx_S} (es : σ = gx s) {q : gx_S} (h : gm_190 x1 x2 x3 s = some q) : fm_190 yx1 yx2 yx3 σ = some (gx q) := by
  unfold gm_190 at h
  unfold fm_190
  exact gf_190_3 100000 _ _ e1 _ _ e2 _ _ e3 _ _ kg_0 _ _ es _ h

/-! ZoneSharesModel.lowest(JJI)J -/
def gm_194 (x0 : Int) (x2 : Int) (x4 : Int) (s : gx_S) : Option (Int × gx_S) :=
  (gm_164 x0 x2 s).bind fun q10 =>
  if (-2147483648 ≤ x4 ∧ x4 ≤ 2147483647) then (
  if ¬ x4 = 0 then (
    if 0 ≤ x2 ∧ x2 ≤ 9223372036854775807 ∧ 0 < q10.1 ∧ q10.1 ≤ 9223372036854775807 then (
    some ((x2 / q10.1), q10.2)) else none) else (
    if 0 ≤ x0 ∧ x0 ≤ 9223372036854775807 ∧ 0 < q10.1 ∧ q10.1 ≤ 9223372036854775807 then (
    some ((x0 / q10.1), q10.2)) else none)) else none
theorem gf_194 {x0 : Int} {yx0 : Int64} (e0 : yx0 = Int64.ofInt x0) {x2 : Int} {yx2 : Int64} (e2 : yx2 = Int64.ofInt x2) {x4 : Int} {yx4 : Int32} (e4 : yx4 = Int32.ofInt x4) {s : gx_S} {σ : fx_S} (es : σ = gx s) {q : Int × gx_S} (h : gm_194 x0 x2 x4 s = some q) : fm_194 yx0 yx2 yx4 σ = some (Int64.ofInt q.1, gx q.2) := by
  unfold gm_194 at h
  unfold fm_194
  obtain ⟨q10, w9, h⟩ := fx_bd h
  refine gb_bind (gf_164 e0 e2 es w9) ?_
  obtain ⟨z11, h⟩ := fx_gd h
  by_cases c12 : ¬ x4 = 0
  · rw [if_pos c12] at h
    refine gb_t ((gc_ne e4 kg_0 z11 (by decide)).mpr c12) ?_
    obtain ⟨z13, h⟩ := fx_gd h
    refine gb_t (gcl_nz (gr2 q10.1) z13) ?_
    have h := Option.some.inj h
    subst h
    exact gretl (gal_div e2 (gr2 q10.1) z13) (rfl : _ = gx q10.2)
  · rw [if_neg c12] at h
    refine gb_f (fun q => c12 ((gc_ne e4 kg_0 z11 (by decide)).mp q)) ?_
    obtain ⟨z15, h⟩ := fx_gd h
    refine gb_t (gcl_nz (gr2 q10.1) z15) ?_
    have h := Option.some.inj h
    subst h
    exact gretl (gal_div e0 (gr2 q10.1) z15) (rfl : _ = gx q10.2)

/-! ZoneSharesModel.share(IIII)I -/
def gm_195 (x1 : Int) (x2 : Int) (x3 : Int) (x4 : Int) (s : gx_S) : Option (Int × gx_S) :=
  (gm_150 s).bind fun q33 =>
  if (gb q33.1) = 0 then (
    some ((-1), q33.2)) else (
    (gm_148 x1 q33.2).bind fun q36 =>
    if (gb q36.1) = 0 then (
      some ((-1), q36.2)) else (
      if (-2147483648 ≤ x2 ∧ x2 ≤ 2147483647) then (
      (gm_130 x2 0 7 q36.2).bind fun q40 =>
      if (gb q40.1) = 0 then (
        some ((-1), q40.2)) else (
        (gm_153 0 x2 q40.2).bind fun q43 =>
        if (gb q43.1) = 0 then (
          some ((-1), q43.2)) else (
          if (-2147483648 ≤ x3 ∧ x3 ≤ 2147483647) then (
          (gm_130 x3 0 8 q43.2).bind fun q47 =>
          if (gb q47.1) = 0 then (
            some ((-1), q47.2)) else (
            if (-2147483648 ≤ x4 ∧ x4 ≤ 2147483647) then (
            (gm_130 x4 0 1 q47.2).bind fun q51 =>
            if ¬ (gb q51.1) = 0 then (
              (gm_180 x1 x2 q51.2).bind fun q54 =>
              (gm_157 x1 x2 x3 (gb q54.1) q54.2).bind fun q56 =>
              if (-2147483648 ≤ q56.1 ∧ q56.1 ≤ 2147483647) then (
              (gm_157 x1 x2 (-1) (gb q54.1) q56.2).bind fun q59 =>
              if (-2147483648 ≤ q59.1 ∧ q59.1 ≤ 2147483647) then (
              (gm_194 q56.1 q59.1 x4 q59.2).bind fun q62 =>
              some (q62.1, q62.2)) else none) else none) else (
              some ((-1), q51.2))) else none)) else none))) else none))
theorem gf_195 {x1 : Int} {yx1 : Int32} (e1 : yx1 = Int32.ofInt x1) {x2 : Int} {yx2 : Int32} (e2 : yx2 = Int32.ofInt x2) {x3 : Int} {yx3 : Int32} (e3 : yx3 = Int32.ofInt x3) {x4 : Int} {yx4 : Int32} (e4 : yx4 = Int32.ofInt x4) {s : gx_S} {σ : fx_S} (es : σ = gx s) {q : Int × gx_S} (h : gm_195 x1 x2 x3 x4 s = some q) : fm_195 yx1 yx2 yx3 yx4 σ = some (Int32.ofInt q.1, gx q.2) := by
  unfold gm_195 at h
  unfold fm_195
  obtain ⟨q33, w32, h⟩ := fx_bd h
  refine gb_bind (gf_150 es w32) ?_
  by_cases c34 : (gb q33.1) = 0
  · rw [if_pos c34] at h
    refine gb_t ((gc_eq (gb_b q33.1) kg_0 (gb_r _) (by decide)).mpr c34) ?_
    have h := Option.some.inj h
    subst h
    exact gret kg_m1 (rfl : _ = gx q33.2)
  · rw [if_neg c34] at h
    refine gb_f (fun q => c34 ((gc_eq (gb_b q33.1) kg_0 (gb_r _) (by decide)).mp q)) ?_
    obtain ⟨q36, w35, h⟩ := fx_bd h
    refine gb_bind (gf_148 e1 (rfl : _ = gx q33.2) w35) ?_
    by_cases c37 : (gb q36.1) = 0
    · rw [if_pos c37] at h
      refine gb_t ((gc_eq (gb_b q36.1) kg_0 (gb_r _) (by decide)).mpr c37) ?_
      have h := Option.some.inj h
      subst h
      exact gret kg_m1 (rfl : _ = gx q36.2)
    · rw [if_neg c37] at h
      refine gb_f (fun q => c37 ((gc_eq (gb_b q36.1) kg_0 (gb_r _) (by decide)).mp q)) ?_
      obtain ⟨z38, h⟩ := fx_gd h
      obtain ⟨q40, w39, h⟩ := fx_bd h
      refine gb_bind (gf_130 (ga_i2l e2 z38) kgl_0 kgl_7 (rfl : _ = gx q36.2) w39) ?_
      by_cases c41 : (gb q40.1) = 0
      · rw [if_pos c41] at h
        refine gb_t ((gc_eq (gb_b q40.1) kg_0 (gb_r _) (by decide)).mpr c41) ?_
        have h := Option.some.inj h
        subst h
        exact gret kg_m1 (rfl : _ = gx q40.2)
      · rw [if_neg c41] at h
        refine gb_f (fun q => c41 ((gc_eq (gb_b q40.1) kg_0 (gb_r _) (by decide)).mp q)) ?_
        obtain ⟨q43, w42, h⟩ := fx_bd h
        refine gb_bind (gf_153 kg_0 e2 (rfl : _ = gx q40.2) w42) ?_
        by_cases c44 : (gb q43.1) = 0
        · rw [if_pos c44] at h
          refine gb_t ((gc_eq (gb_b q43.1) kg_0 (gb_r _) (by decide)).mpr c44) ?_
          have h := Option.some.inj h
          subst h
          exact gret kg_m1 (rfl : _ = gx q43.2)
        · rw [if_neg c44] at h
          refine gb_f (fun q => c44 ((gc_eq (gb_b q43.1) kg_0 (gb_r _) (by decide)).mp q)) ?_
          obtain ⟨z45, h⟩ := fx_gd h
          obtain ⟨q47, w46, h⟩ := fx_bd h
          refine gb_bind (gf_130 (ga_i2l e3 z45) kgl_0 kgl_8 (rfl : _ = gx q43.2) w46) ?_
          by_cases c48 : (gb q47.1) = 0
          · rw [if_pos c48] at h
            refine gb_t ((gc_eq (gb_b q47.1) kg_0 (gb_r _) (by decide)).mpr c48) ?_
            have h := Option.some.inj h
            subst h
            exact gret kg_m1 (rfl : _ = gx q47.2)
          · rw [if_neg c48] at h
            refine gb_f (fun q => c48 ((gc_eq (gb_b q47.1) kg_0 (gb_r _) (by decide)).mp q)) ?_
            obtain ⟨z49, h⟩ := fx_gd h
            obtain ⟨q51, w50, h⟩ := fx_bd h
            refine gb_bind (gf_130 (ga_i2l e4 z49) kgl_0 kgl_1 (rfl : _ = gx q47.2) w50) ?_
            by_cases c52 : ¬ (gb q51.1) = 0
            · rw [if_pos c52] at h
              refine gb_t ((gc_ne (gb_b q51.1) kg_0 (gb_r _) (by decide)).mpr c52) ?_
              obtain ⟨q54, w53, h⟩ := fx_bd h
              refine gb_bind (gf_180 e1 e2 (rfl : _ = gx q51.2) w53) ?_
              obtain ⟨q56, w55, h⟩ := fx_bd h
              refine gb_bind (gf_157 e1 e2 e3 (gb_b q54.1) (rfl : _ = gx q54.2) w55) ?_
              obtain ⟨z57, h⟩ := fx_gd h
              obtain ⟨q59, w58, h⟩ := fx_bd h
              refine gb_bind (gf_157 e1 e2 kg_m1 (gb_b q54.1) (rfl : _ = gx q56.2) w58) ?_
              obtain ⟨z60, h⟩ := fx_gd h
              obtain ⟨q62, w61, h⟩ := fx_bd h
              refine gb_bind (gf_194 (ga_i2l (gr q56.1) z57) (ga_i2l (gr q59.1) z60) e4 (rfl : _ = gx q59.2) w61) ?_
              have h := Option.some.inj h
              subst h
              exact gret (ga_l2i (gr2 q62.1)) (rfl : _ = gx q62.2)
            · rw [if_neg c52] at h
              refine gb_f (fun q => c52 ((gc_ne (gb_b q51.1) kg_0 (gb_r _) (by decide)).mp q)) ?_
              have h := Option.some.inj h
              subst h
              exact gret kg_m1 (rfl : _ = gx q51.2)

/-! ZoneSharesModel.exact(III)J -/
def gm_196_38 (s : gx_S) : Option (Int × gx_S) :=
  some ((-1), s)
theorem gf_196_38 (s : gx_S) (σ : fx_S) (es : σ = gx s) (q : Int × gx_S) (h : gm_196_38 s = some q) : fm_196_38 σ = some (Int64.ofInt q.1, gx q.2) := by
  unfold gm_196_38 at h
  unfold fm_196_38
  have h := Option.some.inj h
  subst h
  exact gretl kgl_m1 es
def gm_196_125 (k_63 : Int → Int → Int → Int → gx_S → Option (Int × gx_S)) (x2 : Int) (x3 : Int) (x4 : Int) (x6 : Int) (s : gx_S) : Option (Int × gx_S) :=
  k_63 x2 x3 x4 (x6 + 1) s
theorem gf_196_125 {kf_63 : Int32 → Int32 → Int64 → Int32 → fx_S → Option (Int64 × fx_S)} {kg_63 : Int → Int → Int → Int → gx_S → Option (Int × gx_S)} (hk_63 : ∀ (x2 : Int) (yx2 : Int32) (e2 : yx2 = Int32.ofInt x2) (x3 : Int) (yx3 : Int32) (e3 : yx3 = Int32.ofInt x3) (x4 : Int) (yx4 : Int64) (e4 : yx4 = Int64.ofInt x4) (x6 : Int) (yx6 : Int32) (e6 : yx6 = Int32.ofInt x6) (s : gx_S) (σ : fx_S) (es : σ = gx s) (q : Int × gx_S), kg_63 x2 x3 x4 x6 s = some q → kf_63 yx2 yx3 yx4 yx6 σ = some (Int64.ofInt q.1, gx q.2)) (x2 : Int) (yx2 : Int32) (e2 : yx2 = Int32.ofInt x2) (x3 : Int) (yx3 : Int32) (e3 : yx3 = Int32.ofInt x3) (x4 : Int) (yx4 : Int64) (e4 : yx4 = Int64.ofInt x4) (x6 : Int) (yx6 : Int32) (e6 : yx6 = Int32.ofInt x6) (s : gx_S) (σ : fx_S) (es : σ = gx s) (q : Int × gx_S) (h : gm_196_125 kg_63 x2 x3 x4 x6 s = some q) : fm_196_125 kf_63 yx2 yx3 yx4 yx6 σ = some (Int64.ofInt q.1, gx q.2) := by
  unfold gm_196_125 at h
  unfold fm_196_125
  exact hk_63 _ _ e2 _ _ e3 _ _ e4 _ _ (ga_add e6 kg_1) _ _ es _ h
def gm_196_63 : Nat → Int → Int → Int → Int → gx_S → Option (Int × gx_S)
  | 0, _, _, _, _, _ => none
  | n + 1, x2, x3, x4, x6, s =>
    if (-2147483648 ≤ x6 ∧ x6 ≤ 2147483647) then (
    if 8 ≤ x6 then (
      if 0 ≤ (s.2 215 29) ∧ (s.2 215 29) ≤ 9223372036854775807 ∧ 0 < (s.2 215 30) ∧ (s.2 215 30) ≤ 9223372036854775807 then (
      if (-2147483648 ≤ x3 ∧ x3 ≤ 2147483647) then (
      if ¬ x3 = 0 then (
        (gm_194 ((s.2 215 29) % (s.2 215 30)) (s.2 215 30) (x3 - 1) s).bind fun q9 =>
        some (q9.1, q9.2)) else (
        some ((x4 + ((s.2 215 29) / (s.2 215 30))), s))) else none) else none) else (
      (gm_161 x6 s).bind fun q11 =>
      if (-2147483648 ≤ q11.1 ∧ q11.1 ≤ 2147483647) then (
      if q11.1 ≤ 0 then (
        gm_196_125 (gm_196_63 n) x2 x3 x4 x6 q11.2) else (
        (gm_162 x6 q11.2).bind fun q15 =>
        (gm_160 x6 x2 q15.2).bind fun q17 =>
        if 0 ≤ q17.1 ∧ q17.1 < 72 then (
        (gm_160 x6 x2 q17.2).bind fun q22 =>
        if 0 ≤ q22.1 ∧ q22.1 < 72 then (
        if 0 ≤ x6 ∧ x6 < 8 then (
        if (-2147483648 ≤ (q22.2.1 223 (x6).toNat) ∧ (q22.2.1 223 (x6).toNat) ≤ 2147483647) then (
        (gm_165 (q22.2.2 225 (q22.1).toNat) (q22.2.1 223 (x6).toNat) q22.2).bind fun q31 =>
        gm_196_125 (gm_196_63 n) x2 x3 (x4 + (q17.2.2 224 (q17.1).toNat)) x6 q31) else none) else none) else none) else none)) else none)) else none
theorem gf_196_63 : ∀ (n : Nat) (x2 : Int) (yx2 : Int32) (e2 : yx2 = Int32.ofInt x2) (x3 : Int) (yx3 : Int32) (e3 : yx3 = Int32.ofInt x3) (x4 : Int) (yx4 : Int64) (e4 : yx4 = Int64.ofInt x4) (x6 : Int) (yx6 : Int32) (e6 : yx6 = Int32.ofInt x6) (s : gx_S) (σ : fx_S) (es : σ = gx s) (q : Int × gx_S), gm_196_63 n x2 x3 x4 x6 s = some q → fm_196_63 n yx2 yx3 yx4 yx6 σ = some (Int64.ofInt q.1, gx q.2) := by
  intro n
  induction n with
  | zero =>
    intro x2 yx2 e2 x3 yx3 e3 x4 yx4 e4 x6 yx6 e6 s σ es q  h
    rw [gm_196_63] at h
    exact fx_no h
  | succ n ih =>
    intro x2 yx2 e2 x3 yx3 e3 x4 yx4 e4 x6 yx6 e6 s σ es q  h
    rw [gm_196_63] at h
    rw [fm_196_63]
    obtain ⟨z1, h⟩ := fx_gd h
    by_cases c2 : 8 ≤ x6
    · rw [if_pos c2] at h
      refine gb_t ((gc_le kg_8 e6 (by decide) z1).mpr c2) ?_
      obtain ⟨z3, h⟩ := fx_gd h
      refine gb_t (gcl_nz (gf2 es 215 30) z3) ?_
      obtain ⟨z5, h⟩ := fx_gd h
      by_cases c6 : ¬ x3 = 0
      · rw [if_pos c6] at h
        refine gb_t ((gc_ne e3 kg_0 z5 (by decide)).mpr c6) ?_
        refine gb_t (gcl_nz (gf2 es 215 30) z3) ?_
        obtain ⟨q9, w8, h⟩ := fx_bd h
        refine gb_bind (gf_194 (gal_rem (gf2 es 215 29) (gf2 es 215 30) z3) (gf2 es 215 30) (ga_sub e3 kg_1) es w8) ?_
        have h := Option.some.inj h
        subst h
        exact gretl (gr2 q9.1) (rfl : _ = gx q9.2)
      · rw [if_neg c6] at h
        refine gb_f (fun q => c6 ((gc_ne e3 kg_0 z5 (by decide)).mp q)) ?_
        have h := Option.some.inj h
        subst h
        exact gretl (gal_add e4 (gal_div (gf2 es 215 29) (gf2 es 215 30) z3)) es
    · rw [if_neg c2] at h
      refine gb_f (fun q => c2 ((gc_le kg_8 e6 (by decide) z1).mp q)) ?_
      obtain ⟨q11, w10, h⟩ := fx_bd h
      refine gb_bind (gf_161 e6 es w10) ?_
      obtain ⟨z12, h⟩ := fx_gd h
      by_cases c13 : q11.1 ≤ 0
      · rw [if_pos c13] at h
        refine gb_t ((gc_le (gr q11.1) kg_0 z12 (by decide)).mpr c13) ?_
        exact gf_196_125 ih _ _ e2 _ _ e3 _ _ e4 _ _ e6 _ _ (rfl : _ = gx q11.2) _ h
      · rw [if_neg c13] at h
        refine gb_f (fun q => c13 ((gc_le (gr q11.1) kg_0 z12 (by decide)).mp q)) ?_
        obtain ⟨q15, w14, h⟩ := fx_bd h
        refine gb_bind (gf_162 e6 (rfl : _ = gx q11.2) w14) ?_
        obtain ⟨q17, w16, h⟩ := fx_bd h
        refine gb_bind (gf_160 e6 e2 (rfl : _ = gx q15.2) w16) ?_
        obtain ⟨z20, h⟩ := fx_gd h
        refine gb_bind (gl_ldl (rfl : _ = gx q17.2) (gr q17.1) ga_224 z20) ?_
        obtain ⟨q22, w21, h⟩ := fx_bd h
        refine gb_bind (gf_160 e6 e2 (rfl : _ = gx q17.2) w21) ?_
        obtain ⟨z25, h⟩ := fx_gd h
        refine gb_bind (gl_ldl (rfl : _ = gx q22.2) (gr q22.1) ga_225 z25) ?_
        obtain ⟨z28, h⟩ := fx_gd h
        refine gb_bind (gl_ld (rfl : _ = gx q22.2) e6 ga_223 z28) ?_
        obtain ⟨z29, h⟩ := fx_gd h
        obtain ⟨q31, w30, h⟩ := fx_bd h
        refine gb_bind (gf_165 (gr2 (q22.2.2 225 (q22.1).toNat)) (ga_i2l (gr (q22.2.1 223 (x6).toNat)) z29) (rfl : _ = gx q22.2) w30) ?_
        exact gf_196_125 ih _ _ e2 _ _ e3 _ _ (gal_add e4 (gr2 (q17.2.2 224 (q17.1).toNat))) _ _ e6 _ _ (rfl : _ = gx q31) _ h
def gm_196 (x1 : Int) (x2 : Int) (x3 : Int) (s : gx_S) : Option (Int × gx_S) :=
  (gm_150 s).bind fun q49 =>
  if (gb q49.1) = 0 then (
    gm_196_38 q49.2) else (
    (gm_148 x1 q49.2).bind fun q52 =>
    if (gb q52.1) = 0 then (
      gm_196_38 q52.2) else (
      if (-2147483648 ≤ x2 ∧ x2 ≤ 2147483647) then (
      (gm_130 x2 0 8 q52.2).bind fun q56 =>
      if (gb q56.1) = 0 then (
        gm_196_38 q56.2) else (
        if (-2147483648 ≤ x3 ∧ x3 ≤ 2147483647) then (
        (gm_130 x3 0 2 q56.2).bind fun q60 =>
        if ¬ (gb q60.1) = 0 then (
          (gm_181 x1 q60.2).bind fun q63 =>
          gm_196_63 100000 x2 x3 0 0 (gw2 (gw2 q63 215 29 0) 215 30 1)) else (
          gm_196_38 q60.2)) else none)) else none))
theorem gf_196 {x1 : Int} {yx1 : Int32} (e1 : yx1 = Int32.ofInt x1) {x2 : Int} {yx2 : Int32} (e2 : yx2 = Int32.ofInt x2) {x3 : Int} {yx3 : Int32} (e3 : yx3 = Int32.ofInt x3) {s : gx_S} {σ : fx_S} (es : σ = gx s) {q : Int × gx_S} (h : gm_196 x1 x2 x3 s = some q) : fm_196 yx1 yx2 yx3 σ = some (Int64.ofInt q.1, gx q.2) := by
  unfold gm_196 at h
  unfold fm_196
  obtain ⟨q49, w48, h⟩ := fx_bd h
  refine gb_bind (gf_150 es w48) ?_
  by_cases c50 : (gb q49.1) = 0
  · rw [if_pos c50] at h
    refine gb_t ((gc_eq (gb_b q49.1) kg_0 (gb_r _) (by decide)).mpr c50) ?_
    exact gf_196_38 _ _ (rfl : _ = gx q49.2) _ h
  · rw [if_neg c50] at h
    refine gb_f (fun q => c50 ((gc_eq (gb_b q49.1) kg_0 (gb_r _) (by decide)).mp q)) ?_
    obtain ⟨q52, w51, h⟩ := fx_bd h
    refine gb_bind (gf_148 e1 (rfl : _ = gx q49.2) w51) ?_
    by_cases c53 : (gb q52.1) = 0
    · rw [if_pos c53] at h
      refine gb_t ((gc_eq (gb_b q52.1) kg_0 (gb_r _) (by decide)).mpr c53) ?_
      exact gf_196_38 _ _ (rfl : _ = gx q52.2) _ h
    · rw [if_neg c53] at h
      refine gb_f (fun q => c53 ((gc_eq (gb_b q52.1) kg_0 (gb_r _) (by decide)).mp q)) ?_
      obtain ⟨z54, h⟩ := fx_gd h
      obtain ⟨q56, w55, h⟩ := fx_bd h
      refine gb_bind (gf_130 (ga_i2l e2 z54) kgl_0 kgl_8 (rfl : _ = gx q52.2) w55) ?_
      by_cases c57 : (gb q56.1) = 0
      · rw [if_pos c57] at h
        refine gb_t ((gc_eq (gb_b q56.1) kg_0 (gb_r _) (by decide)).mpr c57) ?_
        exact gf_196_38 _ _ (rfl : _ = gx q56.2) _ h
      · rw [if_neg c57] at h
        refine gb_f (fun q => c57 ((gc_eq (gb_b q56.1) kg_0 (gb_r _) (by decide)).mp q)) ?_
        obtain ⟨z58, h⟩ := fx_gd h
        obtain ⟨q60, w59, h⟩ := fx_bd h
        refine gb_bind (gf_130 (ga_i2l e3 z58) kgl_0 kgl_2 (rfl : _ = gx q56.2) w59) ?_
        by_cases c61 : ¬ (gb q60.1) = 0
        · rw [if_pos c61] at h
          refine gb_t ((gc_ne (gb_b q60.1) kg_0 (gb_r _) (by decide)).mpr c61) ?_
          obtain ⟨q63, w62, h⟩ := fx_bd h
          refine gb_bind (gf_181 e1 (rfl : _ = gx q60.2) w62) ?_
          exact gf_196_63 100000 _ _ e2 _ _ e3 _ _ kgl_0 _ _ kg_0 _ _ (gx_w2 (gx_w2 (rfl : _ = gx q63) kgl_0) kgl_1) _ h
        · rw [if_neg c61] at h
          refine gb_f (fun q => c61 ((gc_ne (gb_b q60.1) kg_0 (gb_r _) (by decide)).mp q)) ?_
          exact gf_196_38 _ _ (rfl : _ = gx q60.2) _ h

/-! ZoneSharesModel.laysSurface(I)V -/
def gm_197_96 (k_7 : Int → Int → gx_S → Option (gx_S)) (x1 : Int) (x2 : Int) (s : gx_S) : Option (gx_S) :=
  k_7 x1 (x2 + 1) s
theorem gf_197_96 {kf_7 : Int32 → Int32 → fx_S → Option (fx_S)} {kg_7 : Int → Int → gx_S → Option (gx_S)} (hk_7 : ∀ (x1 : Int) (yx1 : Int32) (e1 : yx1 = Int32.ofInt x1) (x2 : Int) (yx2 : Int32) (e2 : yx2 = Int32.ofInt x2) (s : gx_S) (σ : fx_S) (es : σ = gx s) (q : gx_S), kg_7 x1 x2 s = some q → kf_7 yx1 yx2 σ = some (gx q)) (x1 : Int) (yx1 : Int32) (e1 : yx1 = Int32.ofInt x1) (x2 : Int) (yx2 : Int32) (e2 : yx2 = Int32.ofInt x2) (s : gx_S) (σ : fx_S) (es : σ = gx s) (q : gx_S) (h : gm_197_96 kg_7 x1 x2 s = some q) : fm_197_96 kf_7 yx1 yx2 σ = some (gx q) := by
  unfold gm_197_96 at h
  unfold fm_197_96
  exact hk_7 _ _ e1 _ _ (ga_add e2 kg_1) _ _ es _ h
def gm_197_77 (k_7 : Int → Int → gx_S → Option (gx_S)) (x1 : Int) (x2 : Int) (x3 : Int) (x4 : Int) (s1 : Int) (s2 : Int) (s3 : Int) (s : gx_S) : Option (gx_S) :=
  if (-2147483648 ≤ s3 ∧ s3 ≤ 2147483647) then (
  if 0 ≤ s1 ∧ s1 < 96 then (
  (gm_157 x1 x3 (-1) x4 (gw2 s 240 (s1).toNat (s2 * s3))).bind fun q6 =>
  if (-2147483648 ≤ q6.1 ∧ q6.1 ≤ 2147483647) then (
  if 0 ≤ x2 ∧ x2 < 96 then (
  gm_197_96 k_7 x1 x2 (gw2 q6.2 241 (x2).toNat q6.1)) else none) else none) else none) else none
theorem gf_197_77 {kf_7 : Int32 → Int32 → fx_S → Option (fx_S)} {kg_7 : Int → Int → gx_S → Option (gx_S)} (hk_7 : ∀ (x1 : Int) (yx1 : Int32) (e1 : yx1 = Int32.ofInt x1) (x2 : Int) (yx2 : Int32) (e2 : yx2 = Int32.ofInt x2) (s : gx_S) (σ : fx_S) (es : σ = gx s) (q : gx_S), kg_7 x1 x2 s = some q → kf_7 yx1 yx2 σ = some (gx q)) (x1 : Int) (yx1 : Int32) (e1 : yx1 = Int32.ofInt x1) (x2 : Int) (yx2 : Int32) (e2 : yx2 = Int32.ofInt x2) (x3 : Int) (yx3 : Int32) (e3 : yx3 = Int32.ofInt x3) (x4 : Int) (yx4 : Int32) (e4 : yx4 = Int32.ofInt x4) (s1 : Int) (ys1 : Int32) (es1 : ys1 = Int32.ofInt s1) (s2 : Int) (ys2 : Int64) (es2 : ys2 = Int64.ofInt s2) (s3 : Int) (ys3 : Int32) (es3 : ys3 = Int32.ofInt s3) (s : gx_S) (σ : fx_S) (es : σ = gx s) (q : gx_S) (h : gm_197_77 kg_7 x1 x2 x3 x4 s1 s2 s3 s = some q) : fm_197_77 kf_7 yx1 yx2 yx3 yx4 ys1 ys2 ys3 σ = some (gx q) := by
  unfold gm_197_77 at h
  unfold fm_197_77
  obtain ⟨z1, h⟩ := fx_gd h
  obtain ⟨z4, h⟩ := fx_gd h
  refine gb_bind (gl_stl es es1 (gal_mul es2 (ga_i2l es3 z1)) ga_240 z4) ?_
  obtain ⟨q6, w5, h⟩ := fx_bd h
  refine gb_bind (gf_157 e1 e3 kg_m1 e4 (rfl : _ = gx (gw2 s 240 (s1).toNat (s2 * s3))) w5) ?_
  obtain ⟨z7, h⟩ := fx_gd h
  obtain ⟨z10, h⟩ := fx_gd h
  refine gb_bind (gl_stl (rfl : _ = gx q6.2) e2 (ga_i2l (gr q6.1) z7) ga_241 z10) ?_
  exact gf_197_96 hk_7 _ _ e1 _ _ e2 _ _ (rfl : _ = gx (gw2 q6.2 241 (x2).toNat q6.1)) _ h
def gm_197_7 : Nat → Int → Int → gx_S → Option (gx_S)
  | 0, _, _, _ => none
  | n + 1, x1, x2, s =>
    (gm_151 s).bind fun q2 =>
    if (-2147483648 ≤ x2 ∧ x2 ≤ 2147483647) then (
    if (-2147483648 ≤ q2.1 ∧ q2.1 ≤ 2147483647) then (
    if q2.1 ≤ x2 then (
      some q2.2) else (
      (gm_152 0 x2 q2.2).bind fun q7 =>
      if 0 ≤ x2 ∧ x2 < 96 then (
      if (-2147483648 ≤ q7.1 ∧ q7.1 ≤ 2147483647) then (
      if q7.1 = 8 then (
        gm_197_96 (gm_197_7 n) x1 x2 (gw2 (gw2 q7.2 240 (x2).toNat 0) 241 (x2).toNat 1)) else (
        (gm_180 x1 q7.1 (gw2 (gw2 q7.2 240 (x2).toNat 0) 241 (x2).toNat 1)).bind fun q16 =>
        if 0 ≤ q7.1 ∧ q7.1 < 8 then (
        if (-2147483648 ≤ (q16.2.1 236 (q7.1).toNat) ∧ (q16.2.1 236 (q7.1).toNat) ≤ 2147483647) then (
        if (gb q16.1) = 0 then (
          (gm_156 x1 x2 q16.2).bind fun q23 =>
          gm_197_77 (gm_197_7 n) x1 x2 q7.1 (gb q16.1) x2 (q16.2.1 236 (q7.1).toNat) q23.1 q23.2) else (
          gm_197_77 (gm_197_7 n) x1 x2 q7.1 (gb q16.1) x2 (q16.2.1 236 (q7.1).toNat) 1 q16.2)) else none) else none)) else none) else none)) else none) else none
theorem gf_197_7 : ∀ (n : Nat) (x1 : Int) (yx1 : Int32) (e1 : yx1 = Int32.ofInt x1) (x2 : Int) (yx2 : Int32) (e2 : yx2 = Int32.ofInt x2) (s : gx_S) (σ : fx_S) (es : σ = gx s) (q : gx_S), gm_197_7 n x1 x2 s = some q → fm_197_7 n yx1 yx2 σ = some (gx q) := by
  intro n
  induction n with
  | zero =>
    intro x1 yx1 e1 x2 yx2 e2 s σ es q  h
    rw [gm_197_7] at h
    exact fx_no h
  | succ n ih =>
    intro x1 yx1 e1 x2 yx2 e2 s σ es q  h
    rw [gm_197_7] at h
    rw [fm_197_7]
    obtain ⟨q2, w1, h⟩ := fx_bd h
    refine gb_bind (gf_151 es w1) ?_
    obtain ⟨z3, h⟩ := fx_gd h
    obtain ⟨z4, h⟩ := fx_gd h
    by_cases c5 : q2.1 ≤ x2
    · rw [if_pos c5] at h
      refine gb_t ((gc_le (gr q2.1) e2 z4 z3).mpr c5) ?_
      have h := Option.some.inj h
      subst h
      exact gretv (rfl : _ = gx q2.2)
    · rw [if_neg c5] at h
      refine gb_f (fun q => c5 ((gc_le (gr q2.1) e2 z4 z3).mp q)) ?_
      obtain ⟨q7, w6, h⟩ := fx_bd h
      refine gb_bind (gf_152 kg_0 e2 (rfl : _ = gx q2.2) w6) ?_
      obtain ⟨z10, h⟩ := fx_gd h
      refine gb_bind (gl_stl (rfl : _ = gx q7.2) e2 kgl_0 ga_240 z10) ?_
      refine gb_bind (gl_stl (rfl : _ = gx (gw2 q7.2 240 (x2).toNat 0)) e2 kgl_1 ga_241 z10) ?_
      obtain ⟨z13, h⟩ := fx_gd h
      by_cases c14 : q7.1 = 8
      · rw [if_pos c14] at h
        refine gb_t ((gc_eq (gr q7.1) kg_8 z13 (by decide)).mpr c14) ?_
        exact gf_197_96 ih _ _ e1 _ _ e2 _ _ (rfl : _ = gx (gw2 (gw2 q7.2 240 (x2).toNat 0) 241 (x2).toNat 1)) _ h
      · rw [if_neg c14] at h
        refine gb_f (fun q => c14 ((gc_eq (gr q7.1) kg_8 z13 (by decide)).mp q)) ?_
        obtain ⟨q16, w15, h⟩ := fx_bd h
        refine gb_bind (gf_180 e1 (gr q7.1) (rfl : _ = gx (gw2 (gw2 q7.2 240 (x2).toNat 0) 241 (x2).toNat 1)) w15) ?_
        obtain ⟨z19, h⟩ := fx_gd h
        refine gb_bind (gl_ld (rfl : _ = gx q16.2) (gr q7.1) ga_236 z19) ?_
        obtain ⟨z20, h⟩ := fx_gd h
        by_cases c21 : (gb q16.1) = 0
        · rw [if_pos c21] at h
          refine gb_t ((gc_eq (gb_b q16.1) kg_0 (gb_r _) (by decide)).mpr c21) ?_
          obtain ⟨q23, w22, h⟩ := fx_bd h
          refine gb_bind (gf_156 e1 e2 (rfl : _ = gx q16.2) w22) ?_
          exact gf_197_77 ih _ _ e1 _ _ e2 _ _ (gr q7.1) _ _ (gb_b q16.1) _ _ e2 _ _ (ga_i2l (gr (q16.2.1 236 (q7.1).toNat)) z20) _ _ (gr q23.1) _ _ (rfl : _ = gx q23.2) _ h
        · rw [if_neg c21] at h
          refine gb_f (fun q => c21 ((gc_eq (gb_b q16.1) kg_0 (gb_r _) (by decide)).mp q)) ?_
          exact gf_197_77 ih _ _ e1 _ _ e2 _ _ (gr q7.1) _ _ (gb_b q16.1) _ _ e2 _ _ (ga_i2l (gr (q16.2.1 236 (q7.1).toNat)) z20) _ _ kg_1 _ _ (rfl : _ = gx q16.2) _ h
def gm_197 (x1 : Int) (s : gx_S) : Option (gx_S) :=
  (gm_177 x1 s).bind fun q60 =>
  gm_197_7 100000 x1 0 q60
theorem gf_197 {x1 : Int} {yx1 : Int32} (e1 : yx1 = Int32.ofInt x1) {s : gx_S} {σ : fx_S} (es : σ = gx s) {q : gx_S} (h : gm_197 x1 s = some q) : fm_197 yx1 σ = some (gx q) := by
  unfold gm_197 at h
  unfold fm_197
  obtain ⟨q60, w59, h⟩ := fx_bd h
  refine gb_bind (gf_177 e1 es w59) ?_
  exact gf_197_7 100000 _ _ e1 _ _ kg_0 _ _ (rfl : _ = gx q60) _ h

/-! ZoneSharesModel.isCell(II)Z -/
def gm_198 (x1 : Int) (x2 : Int) (s : gx_S) : Option (Bool × gx_S) :=
  if (-2147483648 ≤ x1 ∧ x1 ≤ 2147483647) then (
  if (-2147483648 ≤ ((s.1 216 0) - 1) ∧ ((s.1 216 0) - 1) ≤ 2147483647) then (
  (gm_130 x1 0 ((s.1 216 0) - 1) s).bind fun q20 =>
  if (gb q20.1) = 0 then (
    some (false, q20.2)) else (
    if (-2147483648 ≤ x2 ∧ x2 ≤ 2147483647) then (
    if (-2147483648 ≤ ((q20.2.1 216 1) - 1) ∧ ((q20.2.1 216 1) - 1) ≤ 2147483647) then (
    (gm_130 x2 0 ((q20.2.1 216 1) - 1) q20.2).bind fun q27 =>
    if (gb q27.1) = 0 then (
      some (false, q27.2)) else (
      some (true, q27.2))) else none) else none)) else none) else none
theorem gf_198 {x1 : Int} {yx1 : Int32} (e1 : yx1 = Int32.ofInt x1) {x2 : Int} {yx2 : Int32} (e2 : yx2 = Int32.ofInt x2) {s : gx_S} {σ : fx_S} (es : σ = gx s) {q : Bool × gx_S} (h : gm_198 x1 x2 s = some q) : fm_198 yx1 yx2 σ = some (q.1, gx q.2) := by
  unfold gm_198 at h
  unfold fm_198
  obtain ⟨z15, h⟩ := fx_gd h
  refine gb_bind (gl_ld es kg_0 ga_216 (by decide)) ?_
  obtain ⟨z18, h⟩ := fx_gd h
  obtain ⟨q20, w19, h⟩ := fx_bd h
  refine gb_bind (gf_130 (ga_i2l e1 z15) kgl_0 (ga_i2l (ga_sub (gr (s.1 216 0)) kg_1) z18) es w19) ?_
  by_cases c21 : (gb q20.1) = 0
  · rw [if_pos c21] at h
    refine gb_t ((gc_eq (gb_b q20.1) kg_0 (gb_r _) (by decide)).mpr c21) ?_
    have h := Option.some.inj h
    subst h
    exact gretb (rfl : _ = gx q20.2)
  · rw [if_neg c21] at h
    refine gb_f (fun q => c21 ((gc_eq (gb_b q20.1) kg_0 (gb_r _) (by decide)).mp q)) ?_
    obtain ⟨z22, h⟩ := fx_gd h
    refine gb_bind (gl_ld (rfl : _ = gx q20.2) kg_1 ga_216 (by decide)) ?_
    obtain ⟨z25, h⟩ := fx_gd h
    obtain ⟨q27, w26, h⟩ := fx_bd h
    refine gb_bind (gf_130 (ga_i2l e2 z22) kgl_0 (ga_i2l (ga_sub (gr (q20.2.1 216 1)) kg_1) z25) (rfl : _ = gx q20.2) w26) ?_
    by_cases c28 : (gb q27.1) = 0
    · rw [if_pos c28] at h
      refine gb_t ((gc_eq (gb_b q27.1) kg_0 (gb_r _) (by decide)).mpr c28) ?_
      have h := Option.some.inj h
      subst h
      exact gretb (rfl : _ = gx q27.2)
    · rw [if_neg c28] at h
      refine gb_f (fun q => c28 ((gc_eq (gb_b q27.1) kg_0 (gb_r _) (by decide)).mp q)) ?_
      have h := Option.some.inj h
      subst h
      exact gretb (rfl : _ = gx q27.2)

/-! ZoneSharesModel.surface(IIII)J -/
def gm_199_34 (s : gx_S) : Option (Int × gx_S) :=
  some ((-1), s)
theorem gf_199_34 (s : gx_S) (σ : fx_S) (es : σ = gx s) (q : Int × gx_S) (h : gm_199_34 s = some q) : fm_199_34 σ = some (Int64.ofInt q.1, gx q.2) := by
  unfold gm_199_34 at h
  unfold fm_199_34
  have h := Option.some.inj h
  subst h
  exact gretl kgl_m1 es
def gm_199 (x1 : Int) (x2 : Int) (x3 : Int) (x4 : Int) (s : gx_S) : Option (Int × gx_S) :=
  (gm_150 s).bind fun q26 =>
  if (gb q26.1) = 0 then (
    gm_199_34 q26.2) else (
    (gm_148 x1 q26.2).bind fun q29 =>
    if (gb q29.1) = 0 then (
      gm_199_34 q29.2) else (
      (gm_198 x2 x3 q29.2).bind fun q32 =>
      if (gb q32.1) = 0 then (
        gm_199_34 q32.2) else (
        if (-2147483648 ≤ x4 ∧ x4 ≤ 2147483647) then (
        (gm_130 x4 0 1 q32.2).bind fun q36 =>
        if ¬ (gb q36.1) = 0 then (
          (gm_197 x1 q36.2).bind fun q39 =>
          if 0 ≤ (((q39.1 216 1) * x2) + x3) ∧ (((q39.1 216 1) * x2) + x3) < 96 then (
          (gm_194 (q39.2 240 ((((q39.1 216 1) * x2) + x3)).toNat) (q39.2 241 ((((q39.1 216 1) * x2) + x3)).toNat) x4 q39).bind fun q48 =>
          some (q48.1, q48.2)) else none) else (
          gm_199_34 q36.2)) else none)))
theorem gf_199 {x1 : Int} {yx1 : Int32} (e1 : yx1 = Int32.ofInt x1) {x2 : Int} {yx2 : Int32} (e2 : yx2 = Int32.ofInt x2) {x3 : Int} {yx3 : Int32} (e3 : yx3 = Int32.ofInt x3) {x4 : Int} {yx4 : Int32} (e4 : yx4 = Int32.ofInt x4) {s : gx_S} {σ : fx_S} (es : σ = gx s) {q : Int × gx_S} (h : gm_199 x1 x2 x3 x4 s = some q) : fm_199 yx1 yx2 yx3 yx4 σ = some (Int64.ofInt q.1, gx q.2) := by
  unfold gm_199 at h
  unfold fm_199
  obtain ⟨q26, w25, h⟩ := fx_bd h
  refine gb_bind (gf_150 es w25) ?_
  by_cases c27 : (gb q26.1) = 0
  · rw [if_pos c27] at h
    refine gb_t ((gc_eq (gb_b q26.1) kg_0 (gb_r _) (by decide)).mpr c27) ?_
    exact gf_199_34 _ _ (rfl : _ = gx q26.2) _ h
  · rw [if_neg c27] at h
    refine gb_f (fun q => c27 ((gc_eq (gb_b q26.1) kg_0 (gb_r _) (by decide)).mp q)) ?_
    obtain ⟨q29, w28, h⟩ := fx_bd h
    refine gb_bind (gf_148 e1 (rfl : _ = gx q26.2) w28) ?_
    by_cases c30 : (gb q29.1) = 0
    · rw [if_pos c30] at h
      refine gb_t ((gc_eq (gb_b q29.1) kg_0 (gb_r _) (by decide)).mpr c30) ?_
      exact gf_199_34 _ _ (rfl : _ = gx q29.2) _ h
    · rw [if_neg c30] at h
      refine gb_f (fun q => c30 ((gc_eq (gb_b q29.1) kg_0 (gb_r _) (by decide)).mp q)) ?_
      obtain ⟨q32, w31, h⟩ := fx_bd h
      refine gb_bind (gf_198 e2 e3 (rfl : _ = gx q29.2) w31) ?_
      by_cases c33 : (gb q32.1) = 0
      · rw [if_pos c33] at h
        refine gb_t ((gc_eq (gb_b q32.1) kg_0 (gb_r _) (by decide)).mpr c33) ?_
        exact gf_199_34 _ _ (rfl : _ = gx q32.2) _ h
      · rw [if_neg c33] at h
        refine gb_f (fun q => c33 ((gc_eq (gb_b q32.1) kg_0 (gb_r _) (by decide)).mp q)) ?_
        obtain ⟨z34, h⟩ := fx_gd h
        obtain ⟨q36, w35, h⟩ := fx_bd h
        refine gb_bind (gf_130 (ga_i2l e4 z34) kgl_0 kgl_1 (rfl : _ = gx q32.2) w35) ?_
        by_cases c37 : ¬ (gb q36.1) = 0
        · rw [if_pos c37] at h
          refine gb_t ((gc_ne (gb_b q36.1) kg_0 (gb_r _) (by decide)).mpr c37) ?_
          obtain ⟨q39, w38, h⟩ := fx_bd h
          refine gb_bind (gf_197 e1 (rfl : _ = gx q36.2) w38) ?_
          refine gb_bind (gl_ld (rfl : _ = gx q39) kg_1 ga_216 (by decide)) ?_
          obtain ⟨z44, h⟩ := fx_gd h
          refine gb_bind (gl_ldl (rfl : _ = gx q39) (ga_add (ga_mul (gr (q39.1 216 1)) e2) e3) ga_240 z44) ?_
          refine gb_bind (gl_ldl (rfl : _ = gx q39) (ga_add (ga_mul (gr (q39.1 216 1)) e2) e3) ga_241 z44) ?_
          obtain ⟨q48, w47, h⟩ := fx_bd h
          refine gb_bind (gf_194 (gr2 (q39.2 240 ((((q39.1 216 1) * x2) + x3)).toNat)) (gr2 (q39.2 241 ((((q39.1 216 1) * x2) + x3)).toNat)) e4 (rfl : _ = gx q39) w47) ?_
          have h := Option.some.inj h
          subst h
          exact gretl (gr2 q48.1) (rfl : _ = gx q48.2)
        · rw [if_neg c37] at h
          refine gb_f (fun q => c37 ((gc_ne (gb_b q36.1) kg_0 (gb_r _) (by decide)).mp q)) ?_
          exact gf_199_34 _ _ (rfl : _ = gx q36.2) _ h

/-! ZoneSharesModel.isAhead(II)Z -/
def gm_200 (x1 : Int) (x2 : Int) (s : gx_S) : Option (Bool × gx_S) :=
  if 0 ≤ x1 ∧ x1 < 96 then (
  if 0 ≤ x2 ∧ x2 < 96 then (
  if (-9223372036854775808 ≤ ((s.2 240 (x1).toNat) * (s.2 241 (x2).toNat)) ∧ ((s.2 240 (x1).toNat) * (s.2 241 (x2).toNat)) ≤ 9223372036854775807) then (
  if (-9223372036854775808 ≤ ((s.2 240 (x2).toNat) * (s.2 241 (x1).toNat)) ∧ ((s.2 240 (x2).toNat) * (s.2 241 (x1).toNat)) ≤ 9223372036854775807) then (
  if ((s.2 240 (x1).toNat) * (s.2 241 (x2).toNat)) = ((s.2 240 (x2).toNat) * (s.2 241 (x1).toNat)) then (
    if (-2147483648 ≤ x1 ∧ x1 ≤ 2147483647) then (
    if (-2147483648 ≤ x2 ∧ x2 ≤ 2147483647) then (
    if x2 ≤ x1 then (
      some (false, s)) else (
      some (true, s))) else none) else none) else (
    if ((s.2 240 (x1).toNat) * (s.2 241 (x2).toNat)) ≤ ((s.2 240 (x2).toNat) * (s.2 241 (x1).toNat)) then (
      some (false, s)) else (
      some (true, s)))) else none) else none) else none) else none
theorem gf_200 {x1 : Int} {yx1 : Int32} (e1 : yx1 = Int32.ofInt x1) {x2 : Int} {yx2 : Int32} (e2 : yx2 = Int32.ofInt x2) {s : gx_S} {σ : fx_S} (es : σ = gx s) {q : Bool × gx_S} (h : gm_200 x1 x2 s = some q) : fm_200 yx1 yx2 σ = some (q.1, gx q.2) := by
  unfold gm_200 at h
  unfold fm_200
  obtain ⟨z20, h⟩ := fx_gd h
  refine gb_bind (gl_ldl es e1 ga_240 z20) ?_
  obtain ⟨z23, h⟩ := fx_gd h
  refine gb_bind (gl_ldl es e2 ga_241 z23) ?_
  refine gb_bind (gl_ldl es e2 ga_240 z23) ?_
  refine gb_bind (gl_ldl es e1 ga_241 z20) ?_
  obtain ⟨z28, h⟩ := fx_gd h
  obtain ⟨z29, h⟩ := fx_gd h
  by_cases c30 : ((s.2 240 (x1).toNat) * (s.2 241 (x2).toNat)) = ((s.2 240 (x2).toNat) * (s.2 241 (x1).toNat))
  · rw [if_pos c30] at h
    refine gb_t ((gcl_eq (gal_mul (gr2 (s.2 240 (x1).toNat)) (gr2 (s.2 241 (x2).toNat))) (gal_mul (gr2 (s.2 240 (x2).toNat)) (gr2 (s.2 241 (x1).toNat))) z28 z29).mpr c30) ?_
    obtain ⟨z31, h⟩ := fx_gd h
    obtain ⟨z32, h⟩ := fx_gd h
    by_cases c33 : x2 ≤ x1
    · rw [if_pos c33] at h
      refine gb_t ((gc_le e2 e1 z32 z31).mpr c33) ?_
      have h := Option.some.inj h
      subst h
      exact gretb es
    · rw [if_neg c33] at h
      refine gb_f (fun q => c33 ((gc_le e2 e1 z32 z31).mp q)) ?_
      have h := Option.some.inj h
      subst h
      exact gretb es
  · rw [if_neg c30] at h
    refine gb_f (fun q => c30 ((gcl_eq (gal_mul (gr2 (s.2 240 (x1).toNat)) (gr2 (s.2 241 (x2).toNat))) (gal_mul (gr2 (s.2 240 (x2).toNat)) (gr2 (s.2 241 (x1).toNat))) z28 z29).mp q)) ?_
    by_cases c34 : ((s.2 240 (x1).toNat) * (s.2 241 (x2).toNat)) ≤ ((s.2 240 (x2).toNat) * (s.2 241 (x1).toNat))
    · rw [if_pos c34] at h
      refine gb_t ((gcl_le (gal_mul (gr2 (s.2 240 (x1).toNat)) (gr2 (s.2 241 (x2).toNat))) (gal_mul (gr2 (s.2 240 (x2).toNat)) (gr2 (s.2 241 (x1).toNat))) z28 z29).mpr c34) ?_
      have h := Option.some.inj h
      subst h
      exact gretb es
    · rw [if_neg c34] at h
      refine gb_f (fun q => c34 ((gcl_le (gal_mul (gr2 (s.2 240 (x1).toNat)) (gr2 (s.2 241 (x2).toNat))) (gal_mul (gr2 (s.2 240 (x2).toNat)) (gr2 (s.2 241 (x1).toNat))) z28 z29).mp q)) ?_
      have h := Option.some.inj h
      subst h
      exact gretb es

/-! ZoneSharesModel.densest(II)I -/
def gm_201_53 (k_39 : Int → Int → gx_S → Option (Int × gx_S)) : Nat → Int → Int → Int → Int → gx_S → Option (Int × gx_S)
  | 0, _, _, _, _, _ => none
  | n + 1, x2, x3, x4, x5, s =>
    (gm_151 s).bind fun q2 =>
    if (-2147483648 ≤ x5 ∧ x5 ≤ 2147483647) then (
    if (-2147483648 ≤ q2.1 ∧ q2.1 ≤ 2147483647) then (
    if q2.1 ≤ x5 then (
      if (-2147483648 ≤ x4 ∧ x4 ≤ 2147483647) then (
      if (-2147483648 ≤ x2 ∧ x2 ≤ 2147483647) then (
      if ¬ x4 = x2 then (
        k_39 x2 (x3 + 1) q2.2) else (
        if 0 ≤ x3 ∧ x3 ≤ 2147483647 ∧ 0 < (q2.2.1 216 1) ∧ (q2.2.1 216 1) ≤ 2147483647 then (
        some (((12 * (x3 / (q2.2.1 216 1))) + (x3 % (q2.2.1 216 1))), q2.2)) else none)) else none) else none) else (
      (gm_200 x5 x3 q2.2).bind fun q17 =>
      (gm_131 (gb q17.1) q17.2).bind fun q19 =>
      gm_201_53 k_39 n x2 x3 (x4 + q19.1) (x5 + 1) q19.2)) else none) else none
theorem gf_201_53 {kf_39 : Int32 → Int32 → fx_S → Option (Int32 × fx_S)} {kg_39 : Int → Int → gx_S → Option (Int × gx_S)} (hk_39 : ∀ (x2 : Int) (yx2 : Int32) (e2 : yx2 = Int32.ofInt x2) (x3 : Int) (yx3 : Int32) (e3 : yx3 = Int32.ofInt x3) (s : gx_S) (σ : fx_S) (es : σ = gx s) (q : Int × gx_S), kg_39 x2 x3 s = some q → kf_39 yx2 yx3 σ = some (Int32.ofInt q.1, gx q.2)) : ∀ (n : Nat) (x2 : Int) (yx2 : Int32) (e2 : yx2 = Int32.ofInt x2) (x3 : Int) (yx3 : Int32) (e3 : yx3 = Int32.ofInt x3) (x4 : Int) (yx4 : Int32) (e4 : yx4 = Int32.ofInt x4) (x5 : Int) (yx5 : Int32) (e5 : yx5 = Int32.ofInt x5) (s : gx_S) (σ : fx_S) (es : σ = gx s) (q : Int × gx_S), gm_201_53 kg_39 n x2 x3 x4 x5 s = some q → fm_201_53 kf_39 n yx2 yx3 yx4 yx5 σ = some (Int32.ofInt q.1, gx q.2) := by
  intro n
  induction n with
  | zero =>
    intro x2 yx2 e2 x3 yx3 e3 x4 yx4 e4 x5 yx5 e5 s σ es q  h
    rw [gm_201_53] at h
    exact fx_no h
  | succ n ih =>
    intro x2 yx2 e2 x3 yx3 e3 x4 yx4 e4 x5 yx5 e5 s σ es q  h
    rw [gm_201_53] at h
    rw [fm_201_53]
    obtain ⟨q2, w1, h⟩ := fx_bd h
    refine gb_bind (gf_151 es w1) ?_
    obtain ⟨z3, h⟩ := fx_gd h
    obtain ⟨z4, h⟩ := fx_gd h
    by_cases c5 : q2.1 ≤ x5
    · rw [if_pos c5] at h
      refine gb_t ((gc_le (gr q2.1) e5 z4 z3).mpr c5) ?_
      obtain ⟨z6, h⟩ := fx_gd h
      obtain ⟨z7, h⟩ := fx_gd h
      by_cases c8 : ¬ x4 = x2
      · rw [if_pos c8] at h
        refine gb_t ((gc_ne e4 e2 z6 z7).mpr c8) ?_
        exact hk_39 _ _ e2 _ _ (ga_add e3 kg_1) _ _ (rfl : _ = gx q2.2) _ h
      · rw [if_neg c8] at h
        refine gb_f (fun q => c8 ((gc_ne e4 e2 z6 z7).mp q)) ?_
        refine gb_bind (gl_ld (rfl : _ = gx q2.2) kg_1 ga_216 (by decide)) ?_
        obtain ⟨z11, h⟩ := fx_gd h
        refine gb_t (gc_nz (gr (q2.2.1 216 1)) z11) ?_
        refine gb_bind (gl_ld (rfl : _ = gx q2.2) kg_1 ga_216 (by decide)) ?_
        refine gb_t (gc_nz (gr (q2.2.1 216 1)) z11) ?_
        have h := Option.some.inj h
        subst h
        exact gret (ga_add (ga_mul kg_12 (ga_div e3 (gr (q2.2.1 216 1)) z11)) (ga_rem e3 (gr (q2.2.1 216 1)) z11)) (rfl : _ = gx q2.2)
    · rw [if_neg c5] at h
      refine gb_f (fun q => c5 ((gc_le (gr q2.1) e5 z4 z3).mp q)) ?_
      obtain ⟨q17, w16, h⟩ := fx_bd h
      refine gb_bind (gf_200 e5 e3 (rfl : _ = gx q2.2) w16) ?_
      obtain ⟨q19, w18, h⟩ := fx_bd h
      refine gb_bind (gf_131 (gb_b q17.1) (rfl : _ = gx q17.2) w18) ?_
      exact ih _ _ e2 _ _ e3 _ _ (ga_add e4 (gr q19.1)) _ _ (ga_add e5 kg_1) _ _ (rfl : _ = gx q19.2) _ h
def gm_201_39 : Nat → Int → Int → gx_S → Option (Int × gx_S)
  | 0, _, _, _ => none
  | n + 1, x2, x3, s =>
    (gm_151 s).bind fun q2 =>
    if (-2147483648 ≤ x3 ∧ x3 ≤ 2147483647) then (
    if (-2147483648 ≤ q2.1 ∧ q2.1 ≤ 2147483647) then (
    if q2.1 ≤ x3 then (
      some ((-1), q2.2)) else (
      gm_201_53 (gm_201_39 n) 100000 x2 x3 0 0 q2.2)) else none) else none
theorem gf_201_39 : ∀ (n : Nat) (x2 : Int) (yx2 : Int32) (e2 : yx2 = Int32.ofInt x2) (x3 : Int) (yx3 : Int32) (e3 : yx3 = Int32.ofInt x3) (s : gx_S) (σ : fx_S) (es : σ = gx s) (q : Int × gx_S), gm_201_39 n x2 x3 s = some q → fm_201_39 n yx2 yx3 σ = some (Int32.ofInt q.1, gx q.2) := by
  intro n
  induction n with
  | zero =>
    intro x2 yx2 e2 x3 yx3 e3 s σ es q  h
    rw [gm_201_39] at h
    exact fx_no h
  | succ n ih =>
    intro x2 yx2 e2 x3 yx3 e3 s σ es q  h
    rw [gm_201_39] at h
    rw [fm_201_39]
    obtain ⟨q2, w1, h⟩ := fx_bd h
    refine gb_bind (gf_151 es w1) ?_
    obtain ⟨z3, h⟩ := fx_gd h
    obtain ⟨z4, h⟩ := fx_gd h
    by_cases c5 : q2.1 ≤ x3
    · rw [if_pos c5] at h
      refine gb_t ((gc_le (gr q2.1) e3 z4 z3).mpr c5) ?_
      have h := Option.some.inj h
      subst h
      exact gret kg_m1 (rfl : _ = gx q2.2)
    · rw [if_neg c5] at h
      refine gb_f (fun q => c5 ((gc_le (gr q2.1) e3 z4 z3).mp q)) ?_
      exact gf_201_53 ih 100000 _ _ e2 _ _ e3 _ _ kg_0 _ _ kg_0 _ _ (rfl : _ = gx q2.2) _ h
def gm_201 (x1 : Int) (x2 : Int) (s : gx_S) : Option (Int × gx_S) :=
  (gm_150 s).bind fun q46 =>
  if (gb q46.1) = 0 then (
    some ((-1), q46.2)) else (
    (gm_148 x1 q46.2).bind fun q49 =>
    if (gb q49.1) = 0 then (
      some ((-1), q49.2)) else (
      if (-2147483648 ≤ x2 ∧ x2 ≤ 2147483647) then (
      (gm_151 q49.2).bind fun q53 =>
      if (-2147483648 ≤ (q53.1 - 1) ∧ (q53.1 - 1) ≤ 2147483647) then (
      (gm_130 x2 0 (q53.1 - 1) q53.2).bind fun q56 =>
      if ¬ (gb q56.1) = 0 then (
        (gm_197 x1 q56.2).bind fun q59 =>
        gm_201_39 100000 x2 0 q59) else (
        some ((-1), q56.2))) else none) else none))
theorem gf_201 {x1 : Int} {yx1 : Int32} (e1 : yx1 = Int32.ofInt x1) {x2 : Int} {yx2 : Int32} (e2 : yx2 = Int32.ofInt x2) {s : gx_S} {σ : fx_S} (es : σ = gx s) {q : Int × gx_S} (h : gm_201 x1 x2 s = some q) : fm_201 yx1 yx2 σ = some (Int32.ofInt q.1, gx q.2) := by
  unfold gm_201 at h
  unfold fm_201
  obtain ⟨q46, w45, h⟩ := fx_bd h
  refine gb_bind (gf_150 es w45) ?_
  by_cases c47 : (gb q46.1) = 0
  · rw [if_pos c47] at h
    refine gb_t ((gc_eq (gb_b q46.1) kg_0 (gb_r _) (by decide)).mpr c47) ?_
    have h := Option.some.inj h
    subst h
    exact gret kg_m1 (rfl : _ = gx q46.2)
  · rw [if_neg c47] at h
    refine gb_f (fun q => c47 ((gc_eq (gb_b q46.1) kg_0 (gb_r _) (by decide)).mp q)) ?_
    obtain ⟨q49, w48, h⟩ := fx_bd h
    refine gb_bind (gf_148 e1 (rfl : _ = gx q46.2) w48) ?_
    by_cases c50 : (gb q49.1) = 0
    · rw [if_pos c50] at h
      refine gb_t ((gc_eq (gb_b q49.1) kg_0 (gb_r _) (by decide)).mpr c50) ?_
      have h := Option.some.inj h
      subst h
      exact gret kg_m1 (rfl : _ = gx q49.2)
    · rw [if_neg c50] at h
      refine gb_f (fun q => c50 ((gc_eq (gb_b q49.1) kg_0 (gb_r _) (by decide)).mp q)) ?_
      obtain ⟨z51, h⟩ := fx_gd h
      obtain ⟨q53, w52, h⟩ := fx_bd h
      refine gb_bind (gf_151 (rfl : _ = gx q49.2) w52) ?_
      obtain ⟨z54, h⟩ := fx_gd h
      obtain ⟨q56, w55, h⟩ := fx_bd h
      refine gb_bind (gf_130 (ga_i2l e2 z51) kgl_0 (ga_i2l (ga_sub (gr q53.1) kg_1) z54) (rfl : _ = gx q53.2) w55) ?_
      by_cases c57 : ¬ (gb q56.1) = 0
      · rw [if_pos c57] at h
        refine gb_t ((gc_ne (gb_b q56.1) kg_0 (gb_r _) (by decide)).mpr c57) ?_
        obtain ⟨q59, w58, h⟩ := fx_bd h
        refine gb_bind (gf_197 e1 (rfl : _ = gx q56.2) w58) ?_
        exact gf_201_39 100000 _ _ e2 _ _ kg_0 _ _ (rfl : _ = gx q59) _ h
      · rw [if_neg c57] at h
        refine gb_f (fun q => c57 ((gc_ne (gb_b q56.1) kg_0 (gb_r _) (by decide)).mp q)) ?_
        have h := Option.some.inj h
        subst h
        exact gret kg_m1 (rfl : _ = gx q56.2)

/-! ZoneSharesModel.newCells(I)I -/
def gm_202_28 (k_4 : Int → Int → Int → gx_S → Option (Int × gx_S)) (x1 : Int) (x3 : Int) (s0 : Int) (s1 : Int) (s : gx_S) : Option (Int × gx_S) :=
  (gm_131 s1 s).bind fun q2 =>
  k_4 x1 (s0 + q2.1) (x3 + 1) q2.2
theorem gf_202_28 {kf_4 : Int32 → Int32 → Int32 → fx_S → Option (Int32 × fx_S)} {kg_4 : Int → Int → Int → gx_S → Option (Int × gx_S)} (hk_4 : ∀ (x1 : Int) (yx1 : Int32) (e1 : yx1 = Int32.ofInt x1) (x2 : Int) (yx2 : Int32) (e2 : yx2 = Int32.ofInt x2) (x3 : Int) (yx3 : Int32) (e3 : yx3 = Int32.ofInt x3) (s : gx_S) (σ : fx_S) (es : σ = gx s) (q : Int × gx_S), kg_4 x1 x2 x3 s = some q → kf_4 yx1 yx2 yx3 σ = some (Int32.ofInt q.1, gx q.2)) (x1 : Int) (yx1 : Int32) (e1 : yx1 = Int32.ofInt x1) (x3 : Int) (yx3 : Int32) (e3 : yx3 = Int32.ofInt x3) (s0 : Int) (ys0 : Int32) (es0 : ys0 = Int32.ofInt s0) (s1 : Int) (ys1 : Int32) (es1 : ys1 = Int32.ofInt s1) (s : gx_S) (σ : fx_S) (es : σ = gx s) (q : Int × gx_S) (h : gm_202_28 kg_4 x1 x3 s0 s1 s = some q) : fm_202_28 kf_4 yx1 yx3 ys0 ys1 σ = some (Int32.ofInt q.1, gx q.2) := by
  unfold gm_202_28 at h
  unfold fm_202_28
  obtain ⟨q2, w1, h⟩ := fx_bd h
  refine gb_bind (gf_131 es1 es w1) ?_
  exact hk_4 _ _ e1 _ _ (ga_add es0 (gr q2.1)) _ _ (ga_add e3 kg_1) _ _ (rfl : _ = gx q2.2) _ h
def gm_202_4 : Nat → Int → Int → Int → gx_S → Option (Int × gx_S)
  | 0, _, _, _, _ => none
  | n + 1, x1, x2, x3, s =>
    (gm_151 s).bind fun q2 =>
    if (-2147483648 ≤ x3 ∧ x3 ≤ 2147483647) then (
    if (-2147483648 ≤ q2.1 ∧ q2.1 ≤ 2147483647) then (
    if q2.1 ≤ x3 then (
      some (x2, q2.2)) else (
      (gm_152 1 x3 q2.2).bind fun q7 =>
      if (-2147483648 ≤ q7.1 ∧ q7.1 ≤ 2147483647) then (
      if (-2147483648 ≤ x1 ∧ x1 ≤ 2147483647) then (
      if ¬ q7.1 = x1 then (
        gm_202_28 (gm_202_4 n) x1 x3 x2 0 q7.2) else (
        gm_202_28 (gm_202_4 n) x1 x3 x2 1 q7.2)) else none) else none)) else none) else none
theorem gf_202_4 : ∀ (n : Nat) (x1 : Int) (yx1 : Int32) (e1 : yx1 = Int32.ofInt x1) (x2 : Int) (yx2 : Int32) (e2 : yx2 = Int32.ofInt x2) (x3 : Int) (yx3 : Int32) (e3 : yx3 = Int32.ofInt x3) (s : gx_S) (σ : fx_S) (es : σ = gx s) (q : Int × gx_S), gm_202_4 n x1 x2 x3 s = some q → fm_202_4 n yx1 yx2 yx3 σ = some (Int32.ofInt q.1, gx q.2) := by
  intro n
  induction n with
  | zero =>
    intro x1 yx1 e1 x2 yx2 e2 x3 yx3 e3 s σ es q  h
    rw [gm_202_4] at h
    exact fx_no h
  | succ n ih =>
    intro x1 yx1 e1 x2 yx2 e2 x3 yx3 e3 s σ es q  h
    rw [gm_202_4] at h
    rw [fm_202_4]
    obtain ⟨q2, w1, h⟩ := fx_bd h
    refine gb_bind (gf_151 es w1) ?_
    obtain ⟨z3, h⟩ := fx_gd h
    obtain ⟨z4, h⟩ := fx_gd h
    by_cases c5 : q2.1 ≤ x3
    · rw [if_pos c5] at h
      refine gb_t ((gc_le (gr q2.1) e3 z4 z3).mpr c5) ?_
      have h := Option.some.inj h
      subst h
      exact gret e2 (rfl : _ = gx q2.2)
    · rw [if_neg c5] at h
      refine gb_f (fun q => c5 ((gc_le (gr q2.1) e3 z4 z3).mp q)) ?_
      obtain ⟨q7, w6, h⟩ := fx_bd h
      refine gb_bind (gf_152 kg_1 e3 (rfl : _ = gx q2.2) w6) ?_
      obtain ⟨z8, h⟩ := fx_gd h
      obtain ⟨z9, h⟩ := fx_gd h
      by_cases c10 : ¬ q7.1 = x1
      · rw [if_pos c10] at h
        refine gb_t ((gc_ne (gr q7.1) e1 z8 z9).mpr c10) ?_
        exact gf_202_28 ih _ _ e1 _ _ e3 _ _ e2 _ _ kg_0 _ _ (rfl : _ = gx q7.2) _ h
      · rw [if_neg c10] at h
        refine gb_f (fun q => c10 ((gc_ne (gr q7.1) e1 z8 z9).mp q)) ?_
        exact gf_202_28 ih _ _ e1 _ _ e3 _ _ e2 _ _ kg_1 _ _ (rfl : _ = gx q7.2) _ h
def gm_202 (x1 : Int) (s : gx_S) : Option (Int × gx_S) :=
  gm_202_4 100000 x1 0 0 s
theorem gf_202 {x1 : Int} {yx1 : Int32} (e1 : yx1 = Int32.ofInt x1) {s : gx_S} {σ : fx_S} (es : σ = gx s) {q : Int × gx_S} (h : gm_202 x1 s = some q) : fm_202 yx1 σ = some (Int32.ofInt q.1, gx q.2) := by
  unfold gm_202 at h
  unfold fm_202
  exact gf_202_4 100000 _ _ e1 _ _ kg_0 _ _ kg_0 _ _ es _ h

/-! ZoneSharesModel.laysCellsOf(I)V -/
def gm_205_121 : Nat → Int → Int → gx_S → Option (gx_S)
  | 0, _, _, _ => none
  | n + 1, x1, x2, s =>
    if (-2147483648 ≤ x2 ∧ x2 ≤ 2147483647) then (
    if 4 ≤ x2 then (
      some s) else (
      if 0 ≤ ((32 + (4 * x1)) + x2) ∧ ((32 + (4 * x1)) + x2) < 340 then (
      if 0 ≤ x2 ∧ x2 < 4 then (
      gm_205_121 n x1 (x2 + 1) (gw1 s 243 (x2).toNat (s.1 216 (((32 + (4 * x1)) + x2)).toNat))) else none) else none)) else none
theorem gf_205_121 : ∀ (n : Nat) (x1 : Int) (yx1 : Int32) (e1 : yx1 = Int32.ofInt x1) (x2 : Int) (yx2 : Int32) (e2 : yx2 = Int32.ofInt x2) (s : gx_S) (σ : fx_S) (es : σ = gx s) (q : gx_S), gm_205_121 n x1 x2 s = some q → fm_205_121 n yx1 yx2 σ = some (gx q) := by
  intro n
  induction n with
  | zero =>
    intro x1 yx1 e1 x2 yx2 e2 s σ es q  h
    rw [gm_205_121] at h
    exact fx_no h
  | succ n ih =>
    intro x1 yx1 e1 x2 yx2 e2 s σ es q  h
    rw [gm_205_121] at h
    rw [fm_205_121]
    obtain ⟨z1, h⟩ := fx_gd h
    by_cases c2 : 4 ≤ x2
    · rw [if_pos c2] at h
      refine gb_t ((gc_le kg_4 e2 (by decide) z1).mpr c2) ?_
      have h := Option.some.inj h
      subst h
      exact gretv es
    · rw [if_neg c2] at h
      refine gb_f (fun q => c2 ((gc_le kg_4 e2 (by decide) z1).mp q)) ?_
      obtain ⟨z5, h⟩ := fx_gd h
      refine gb_bind (gl_ld es (ga_add (ga_add kg_32 (ga_mul kg_4 e1)) e2) ga_216 z5) ?_
      obtain ⟨z8, h⟩ := fx_gd h
      refine gb_bind (gl_st es e2 (gr (s.1 216 (((32 + (4 * x1)) + x2)).toNat)) ga_243 z8) ?_
      exact ih _ _ e1 _ _ (ga_add e2 kg_1) _ _ (rfl : _ = gx (gw1 s 243 (x2).toNat (s.1 216 (((32 + (4 * x1)) + x2)).toNat))) _ h
def gm_205_109 (k_79 : Int → Int → gx_S → Option (gx_S)) (x1 : Int) (x2 : Int) (s1 : Int) (s2 : Int) (s : gx_S) : Option (gx_S) :=
  k_79 x1 (x2 + 1) (gw1 s 215 42 (s1 + s2))
theorem gf_205_109 {kf_79 : Int32 → Int32 → fx_S → Option (fx_S)} {kg_79 : Int → Int → gx_S → Option (gx_S)} (hk_79 : ∀ (x1 : Int) (yx1 : Int32) (e1 : yx1 = Int32.ofInt x1) (x2 : Int) (yx2 : Int32) (e2 : yx2 = Int32.ofInt x2) (s : gx_S) (σ : fx_S) (es : σ = gx s) (q : gx_S), kg_79 x1 x2 s = some q → kf_79 yx1 yx2 σ = some (gx q)) (x1 : Int) (yx1 : Int32) (e1 : yx1 = Int32.ofInt x1) (x2 : Int) (yx2 : Int32) (e2 : yx2 = Int32.ofInt x2) (s1 : Int) (ys1 : Int32) (es1 : ys1 = Int32.ofInt s1) (s2 : Int) (ys2 : Int32) (es2 : ys2 = Int32.ofInt s2) (s : gx_S) (σ : fx_S) (es : σ = gx s) (q : gx_S) (h : gm_205_109 kg_79 x1 x2 s1 s2 s = some q) : fm_205_109 kf_79 yx1 yx2 ys1 ys2 σ = some (gx q) := by
  unfold gm_205_109 at h
  unfold fm_205_109
  exact hk_79 _ _ e1 _ _ (ga_add e2 kg_1) _ _ (gx_w1 es (ga_add es1 es2)) _ h
def gm_205_79 : Nat → Int → Int → gx_S → Option (gx_S)
  | 0, _, _, _ => none
  | n + 1, x1, x2, s =>
    if (-2147483648 ≤ x2 ∧ x2 ≤ 2147483647) then (
    if 8 ≤ x2 then (
      gm_205_121 100000 x1 0 s) else (
      (gm_153 0 x2 s).bind fun q4 =>
      if (gb q4.1) = 0 then (
        gm_205_109 (gm_205_79 n) x1 x2 (s.1 215 42) 0 q4.2) else (
        (gm_155 x1 x2 q4.2).bind fun q7 =>
        gm_205_109 (gm_205_79 n) x1 x2 (s.1 215 42) q7.1 q7.2))) else none
theorem gf_205_79 : ∀ (n : Nat) (x1 : Int) (yx1 : Int32) (e1 : yx1 = Int32.ofInt x1) (x2 : Int) (yx2 : Int32) (e2 : yx2 = Int32.ofInt x2) (s : gx_S) (σ : fx_S) (es : σ = gx s) (q : gx_S), gm_205_79 n x1 x2 s = some q → fm_205_79 n yx1 yx2 σ = some (gx q) := by
  intro n
  induction n with
  | zero =>
    intro x1 yx1 e1 x2 yx2 e2 s σ es q  h
    rw [gm_205_79] at h
    exact fx_no h
  | succ n ih =>
    intro x1 yx1 e1 x2 yx2 e2 s σ es q  h
    rw [gm_205_79] at h
    rw [fm_205_79]
    obtain ⟨z1, h⟩ := fx_gd h
    by_cases c2 : 8 ≤ x2
    · rw [if_pos c2] at h
      refine gb_t ((gc_le kg_8 e2 (by decide) z1).mpr c2) ?_
      exact gf_205_121 100000 _ _ e1 _ _ kg_0 _ _ es _ h
    · rw [if_neg c2] at h
      refine gb_f (fun q => c2 ((gc_le kg_8 e2 (by decide) z1).mp q)) ?_
      obtain ⟨q4, w3, h⟩ := fx_bd h
      refine gb_bind (gf_153 kg_0 e2 es w3) ?_
      by_cases c5 : (gb q4.1) = 0
      · rw [if_pos c5] at h
        refine gb_t ((gc_eq (gb_b q4.1) kg_0 (gb_r _) (by decide)).mpr c5) ?_
        exact gf_205_109 ih _ _ e1 _ _ e2 _ _ (gf1 es 215 42) _ _ kg_0 _ _ (rfl : _ = gx q4.2) _ h
      · rw [if_neg c5] at h
        refine gb_f (fun q => c5 ((gc_eq (gb_b q4.1) kg_0 (gb_r _) (by decide)).mp q)) ?_
        obtain ⟨q7, w6, h⟩ := fx_bd h
        refine gb_bind (gf_155 e1 e2 (rfl : _ = gx q4.2) w6) ?_
        exact gf_205_109 ih _ _ e1 _ _ e2 _ _ (gf1 es 215 42) _ _ (gr q7.1) _ _ (rfl : _ = gx q7.2) _ h
def gm_205_66 (k_23 : Int → Int → gx_S → Option (gx_S)) (x1 : Int) (x2 : Int) (s : gx_S) : Option (gx_S) :=
  k_23 x1 (x2 + 1) s
theorem gf_205_66 {kf_23 : Int32 → Int32 → fx_S → Option (fx_S)} {kg_23 : Int → Int → gx_S → Option (gx_S)} (hk_23 : ∀ (x1 : Int) (yx1 : Int32) (e1 : yx1 = Int32.ofInt x1) (x2 : Int) (yx2 : Int32) (e2 : yx2 = Int32.ofInt x2) (s : gx_S) (σ : fx_S) (es : σ = gx s) (q : gx_S), kg_23 x1 x2 s = some q → kf_23 yx1 yx2 σ = some (gx q)) (x1 : Int) (yx1 : Int32) (e1 : yx1 = Int32.ofInt x1) (x2 : Int) (yx2 : Int32) (e2 : yx2 = Int32.ofInt x2) (s : gx_S) (σ : fx_S) (es : σ = gx s) (q : gx_S) (h : gm_205_66 kg_23 x1 x2 s = some q) : fm_205_66 kf_23 yx1 yx2 σ = some (gx q) := by
  unfold gm_205_66 at h
  unfold fm_205_66
  exact hk_23 _ _ e1 _ _ (ga_add e2 kg_1) _ _ es _ h
def gm_205_23 : Nat → Int → Int → gx_S → Option (gx_S)
  | 0, _, _, _ => none
  | n + 1, x1, x2, s =>
    (gm_151 s).bind fun q2 =>
    if (-2147483648 ≤ x2 ∧ x2 ≤ 2147483647) then (
    if (-2147483648 ≤ q2.1 ∧ q2.1 ≤ 2147483647) then (
    if q2.1 ≤ x2 then (
      gm_205_79 100000 x1 0 (gw1 q2.2 215 42 0)) else (
      (gm_152 0 x2 q2.2).bind fun q7 =>
      if (-2147483648 ≤ q7.1 ∧ q7.1 ≤ 2147483647) then (
      if q7.1 = 8 then (
        gm_205_66 (gm_205_23 n) x1 x2 q7.2) else (
        (gm_152 0 x2 q7.2).bind fun q11 =>
        (gm_152 2 x2 q11.2).bind fun q13 =>
        if 0 ≤ ((4 * q11.1) + q13.1) ∧ ((4 * q11.1) + q13.1) < 32 then (
        gm_205_66 (gm_205_23 n) x1 x2 (gw1 q13.2 242 (((4 * q11.1) + q13.1)).toNat ((q13.2.1 242 (((4 * q11.1) + q13.1)).toNat) + 1))) else none)) else none)) else none) else none
theorem gf_205_23 : ∀ (n : Nat) (x1 : Int) (yx1 : Int32) (e1 : yx1 = Int32.ofInt x1) (x2 : Int) (yx2 : Int32) (e2 : yx2 = Int32.ofInt x2) (s : gx_S) (σ : fx_S) (es : σ = gx s) (q : gx_S), gm_205_23 n x1 x2 s = some q → fm_205_23 n yx1 yx2 σ = some (gx q) := by
  intro n
  induction n with
  | zero =>
    intro x1 yx1 e1 x2 yx2 e2 s σ es q  h
    rw [gm_205_23] at h
    exact fx_no h
  | succ n ih =>
    intro x1 yx1 e1 x2 yx2 e2 s σ es q  h
    rw [gm_205_23] at h
    rw [fm_205_23]
    obtain ⟨q2, w1, h⟩ := fx_bd h
    refine gb_bind (gf_151 es w1) ?_
    obtain ⟨z3, h⟩ := fx_gd h
    obtain ⟨z4, h⟩ := fx_gd h
    by_cases c5 : q2.1 ≤ x2
    · rw [if_pos c5] at h
      refine gb_t ((gc_le (gr q2.1) e2 z4 z3).mpr c5) ?_
      exact gf_205_79 100000 _ _ e1 _ _ kg_0 _ _ (gx_w1 (rfl : _ = gx q2.2) kg_0) _ h
    · rw [if_neg c5] at h
      refine gb_f (fun q => c5 ((gc_le (gr q2.1) e2 z4 z3).mp q)) ?_
      obtain ⟨q7, w6, h⟩ := fx_bd h
      refine gb_bind (gf_152 kg_0 e2 (rfl : _ = gx q2.2) w6) ?_
      obtain ⟨z8, h⟩ := fx_gd h
      by_cases c9 : q7.1 = 8
      · rw [if_pos c9] at h
        refine gb_t ((gc_eq (gr q7.1) kg_8 z8 (by decide)).mpr c9) ?_
        exact gf_205_66 ih _ _ e1 _ _ e2 _ _ (rfl : _ = gx q7.2) _ h
      · rw [if_neg c9] at h
        refine gb_f (fun q => c9 ((gc_eq (gr q7.1) kg_8 z8 (by decide)).mp q)) ?_
        obtain ⟨q11, w10, h⟩ := fx_bd h
        refine gb_bind (gf_152 kg_0 e2 (rfl : _ = gx q7.2) w10) ?_
        obtain ⟨q13, w12, h⟩ := fx_bd h
        refine gb_bind (gf_152 kg_2 e2 (rfl : _ = gx q11.2) w12) ?_
        obtain ⟨z16, h⟩ := fx_gd h
        refine gb_bind (gl_ld (rfl : _ = gx q13.2) (ga_add (ga_mul kg_4 (gr q11.1)) (gr q13.1)) ga_242 z16) ?_
        refine gb_bind (gl_st (rfl : _ = gx q13.2) (ga_add (ga_mul kg_4 (gr q11.1)) (gr q13.1)) (ga_add (gr (q13.2.1 242 (((4 * q11.1) + q13.1)).toNat)) kg_1) ga_242 z16) ?_
        exact gf_205_66 ih _ _ e1 _ _ e2 _ _ (rfl : _ = gx (gw1 q13.2 242 (((4 * q11.1) + q13.1)).toNat ((q13.2.1 242 (((4 * q11.1) + q13.1)).toNat) + 1))) _ h
def gm_205_2 : Nat → Int → Int → gx_S → Option (gx_S)
  | 0, _, _, _ => none
  | n + 1, x1, x2, s =>
    if (-2147483648 ≤ x2 ∧ x2 ≤ 2147483647) then (
    if 32 ≤ x2 then (
      gm_205_23 100000 x1 0 s) else (
      if 0 ≤ x2 ∧ x2 < 32 then (
      gm_205_2 n x1 (x2 + 1) (gw1 s 242 (x2).toNat 0)) else none)) else none
theorem gf_205_2 : ∀ (n : Nat) (x1 : Int) (yx1 : Int32) (e1 : yx1 = Int32.ofInt x1) (x2 : Int) (yx2 : Int32) (e2 : yx2 = Int32.ofInt x2) (s : gx_S) (σ : fx_S) (es : σ = gx s) (q : gx_S), gm_205_2 n x1 x2 s = some q → fm_205_2 n yx1 yx2 σ = some (gx q) := by
  intro n
  induction n with
  | zero =>
    intro x1 yx1 e1 x2 yx2 e2 s σ es q  h
    rw [gm_205_2] at h
    exact fx_no h
  | succ n ih =>
    intro x1 yx1 e1 x2 yx2 e2 s σ es q  h
    rw [gm_205_2] at h
    rw [fm_205_2]
    obtain ⟨z1, h⟩ := fx_gd h
    by_cases c2 : 32 ≤ x2
    · rw [if_pos c2] at h
      refine gb_t ((gc_le kg_32 e2 (by decide) z1).mpr c2) ?_
      exact gf_205_23 100000 _ _ e1 _ _ kg_0 _ _ es _ h
    · rw [if_neg c2] at h
      refine gb_f (fun q => c2 ((gc_le kg_32 e2 (by decide) z1).mp q)) ?_
      obtain ⟨z5, h⟩ := fx_gd h
      refine gb_bind (gl_st es e2 kg_0 ga_242 z5) ?_
      exact ih _ _ e1 _ _ (ga_add e2 kg_1) _ _ (rfl : _ = gx (gw1 s 242 (x2).toNat 0)) _ h
def gm_205 (x1 : Int) (s : gx_S) : Option (gx_S) :=
  gm_205_2 100000 x1 0 s
theorem gf_205 {x1 : Int} {yx1 : Int32} (e1 : yx1 = Int32.ofInt x1) {s : gx_S} {σ : fx_S} (es : σ = gx s) {q : gx_S} (h : gm_205 x1 s = some q) : fm_205 yx1 σ = some (gx q) := by
  unfold gm_205 at h
  unfold fm_205
  exact gf_205_2 100000 _ _ e1 _ _ kg_0 _ _ es _ h

/-! ZoneSharesModel.weighs(I)I -/
def gm_206_4 : Nat → Int → Int → Int → gx_S → Option (Int × gx_S)
  | 0, _, _, _, _ => none
  | n + 1, x1, x2, x3, s =>
    if (-2147483648 ≤ x3 ∧ x3 ≤ 2147483647) then (
    if 4 ≤ x3 then (
      some (x2, s)) else (
      if 0 ≤ x3 ∧ x3 < 4 then (
      if 0 ≤ ((4 * x1) + x3) ∧ ((4 * x1) + x3) < 32 then (
      gm_206_4 n x1 (x2 + ((s.1 243 (x3).toNat) * (s.1 242 (((4 * x1) + x3)).toNat))) (x3 + 1) s) else none) else none)) else none
theorem gf_206_4 : ∀ (n : Nat) (x1 : Int) (yx1 : Int32) (e1 : yx1 = Int32.ofInt x1) (x2 : Int) (yx2 : Int32) (e2 : yx2 = Int32.ofInt x2) (x3 : Int) (yx3 : Int32) (e3 : yx3 = Int32.ofInt x3) (s : gx_S) (σ : fx_S) (es : σ = gx s) (q : Int × gx_S), gm_206_4 n x1 x2 x3 s = some q → fm_206_4 n yx1 yx2 yx3 σ = some (Int32.ofInt q.1, gx q.2) := by
  intro n
  induction n with
  | zero =>
    intro x1 yx1 e1 x2 yx2 e2 x3 yx3 e3 s σ es q  h
    rw [gm_206_4] at h
    exact fx_no h
  | succ n ih =>
    intro x1 yx1 e1 x2 yx2 e2 x3 yx3 e3 s σ es q  h
    rw [gm_206_4] at h
    rw [fm_206_4]
    obtain ⟨z1, h⟩ := fx_gd h
    by_cases c2 : 4 ≤ x3
    · rw [if_pos c2] at h
      refine gb_t ((gc_le kg_4 e3 (by decide) z1).mpr c2) ?_
      have h := Option.some.inj h
      subst h
      exact gret e2 es
    · rw [if_neg c2] at h
      refine gb_f (fun q => c2 ((gc_le kg_4 e3 (by decide) z1).mp q)) ?_
      obtain ⟨z5, h⟩ := fx_gd h
      refine gb_bind (gl_ld es e3 ga_243 z5) ?_
      obtain ⟨z8, h⟩ := fx_gd h
      refine gb_bind (gl_ld es (ga_add (ga_mul kg_4 e1) e3) ga_242 z8) ?_
      exact ih _ _ e1 _ _ (ga_add e2 (ga_mul (gr (s.1 243 (x3).toNat)) (gr (s.1 242 (((4 * x1) + x3)).toNat)))) _ _ (ga_add e3 kg_1) _ _ es _ h
def gm_206 (x1 : Int) (s : gx_S) : Option (Int × gx_S) :=
  gm_206_4 100000 x1 0 0 s
theorem gf_206 {x1 : Int} {yx1 : Int32} (e1 : yx1 = Int32.ofInt x1) {s : gx_S} {σ : fx_S} (es : σ = gx s) {q : Int × gx_S} (h : gm_206 x1 s = some q) : fm_206 yx1 σ = some (Int32.ofInt q.1, gx q.2) := by
  unfold gm_206 at h
  unfold fm_206
  exact gf_206_4 100000 _ _ e1 _ _ kg_0 _ _ kg_0 _ _ es _ h

/-! ZoneSharesModel.landCells(I)I -/
def gm_207_4 : Nat → Int → Int → Int → gx_S → Option (Int × gx_S)
  | 0, _, _, _, _ => none
  | n + 1, x1, x2, x3, s =>
    if (-2147483648 ≤ x3 ∧ x3 ≤ 2147483647) then (
    if 8 ≤ x3 then (
      some (x2, s)) else (
      if 0 ≤ ((4 * x3) + x1) ∧ ((4 * x3) + x1) < 32 then (
      gm_207_4 n x1 (x2 + (s.1 242 (((4 * x3) + x1)).toNat)) (x3 + 1) s) else none)) else none
theorem gf_207_4 : ∀ (n : Nat) (x1 : Int) (yx1 : Int32) (e1 : yx1 = Int32.ofInt x1) (x2 : Int) (yx2 : Int32) (e2 : yx2 = Int32.ofInt x2) (x3 : Int) (yx3 : Int32) (e3 : yx3 = Int32.ofInt x3) (s : gx_S) (σ : fx_S) (es : σ = gx s) (q : Int × gx_S), gm_207_4 n x1 x2 x3 s = some q → fm_207_4 n yx1 yx2 yx3 σ = some (Int32.ofInt q.1, gx q.2) := by
  intro n
  induction n with
  | zero =>
    intro x1 yx1 e1 x2 yx2 e2 x3 yx3 e3 s σ es q  h
    rw [gm_207_4] at h
    exact fx_no h
  | succ n ih =>
    intro x1 yx1 e1 x2 yx2 e2 x3 yx3 e3 s σ es q  h
    rw [gm_207_4] at h
    rw [fm_207_4]
    obtain ⟨z1, h⟩ := fx_gd h
    by_cases c2 : 8 ≤ x3
    · rw [if_pos c2] at h
      refine gb_t ((gc_le kg_8 e3 (by decide) z1).mpr c2) ?_
      have h := Option.some.inj h
      subst h
      exact gret e2 es
    · rw [if_neg c2] at h
      refine gb_f (fun q => c2 ((gc_le kg_8 e3 (by decide) z1).mp q)) ?_
      obtain ⟨z5, h⟩ := fx_gd h
      refine gb_bind (gl_ld es (ga_add (ga_mul kg_4 e3) e1) ga_242 z5) ?_
      exact ih _ _ e1 _ _ (ga_add e2 (gr (s.1 242 (((4 * x3) + x1)).toNat))) _ _ (ga_add e3 kg_1) _ _ es _ h
def gm_207 (x1 : Int) (s : gx_S) : Option (Int × gx_S) :=
  gm_207_4 100000 x1 0 0 s
theorem gf_207 {x1 : Int} {yx1 : Int32} (e1 : yx1 = Int32.ofInt x1) {s : gx_S} {σ : fx_S} (es : σ = gx s) {q : Int × gx_S} (h : gm_207 x1 s = some q) : fm_207 yx1 σ = some (Int32.ofInt q.1, gx q.2) := by
  unfold gm_207 at h
  unfold fm_207
  exact gf_207_4 100000 _ _ e1 _ _ kg_0 _ _ kg_0 _ _ es _ h

/-! ZoneSharesModel.isOldCounted(I)Z -/
def gm_208_4 : Nat → Int → Int → Int → gx_S → Option (Bool × gx_S)
  | 0, _, _, _, _ => none
  | n + 1, x1, x2, x3, s =>
    if (-2147483648 ≤ x3 ∧ x3 ≤ 2147483647) then (
    if 4 ≤ x3 then (
      if (-2147483648 ≤ x2 ∧ x2 ≤ 2147483647) then (
      if x2 ≤ 0 then (
        some (false, s)) else (
        some (true, s))) else none) else (
      if 0 ≤ ((4 * x1) + x3) ∧ ((4 * x1) + x3) < 32 then (
      gm_208_4 n x1 (x2 + (s.1 242 (((4 * x1) + x3)).toNat)) (x3 + 1) s) else none)) else none
theorem gf_208_4 : ∀ (n : Nat) (x1 : Int) (yx1 : Int32) (e1 : yx1 = Int32.ofInt x1) (x2 : Int) (yx2 : Int32) (e2 : yx2 = Int32.ofInt x2) (x3 : Int) (yx3 : Int32) (e3 : yx3 = Int32.ofInt x3) (s : gx_S) (σ : fx_S) (es : σ = gx s) (q : Bool × gx_S), gm_208_4 n x1 x2 x3 s = some q → fm_208_4 n yx1 yx2 yx3 σ = some (q.1, gx q.2) := by
  intro n
  induction n with
  | zero =>
    intro x1 yx1 e1 x2 yx2 e2 x3 yx3 e3 s σ es q  h
    rw [gm_208_4] at h
    exact fx_no h
  | succ n ih =>
    intro x1 yx1 e1 x2 yx2 e2 x3 yx3 e3 s σ es q  h
    rw [gm_208_4] at h
    rw [fm_208_4]
    obtain ⟨z1, h⟩ := fx_gd h
    by_cases c2 : 4 ≤ x3
    · rw [if_pos c2] at h
      refine gb_t ((gc_le kg_4 e3 (by decide) z1).mpr c2) ?_
      obtain ⟨z3, h⟩ := fx_gd h
      by_cases c4 : x2 ≤ 0
      · rw [if_pos c4] at h
        refine gb_t ((gc_le e2 kg_0 z3 (by decide)).mpr c4) ?_
        have h := Option.some.inj h
        subst h
        exact gretb es
      · rw [if_neg c4] at h
        refine gb_f (fun q => c4 ((gc_le e2 kg_0 z3 (by decide)).mp q)) ?_
        have h := Option.some.inj h
        subst h
        exact gretb es
    · rw [if_neg c2] at h
      refine gb_f (fun q => c2 ((gc_le kg_4 e3 (by decide) z1).mp q)) ?_
      obtain ⟨z7, h⟩ := fx_gd h
      refine gb_bind (gl_ld es (ga_add (ga_mul kg_4 e1) e3) ga_242 z7) ?_
      exact ih _ _ e1 _ _ (ga_add e2 (gr (s.1 242 (((4 * x1) + x3)).toNat))) _ _ (ga_add e3 kg_1) _ _ es _ h
def gm_208 (x1 : Int) (s : gx_S) : Option (Bool × gx_S) :=
  gm_208_4 100000 x1 0 0 s
theorem gf_208 {x1 : Int} {yx1 : Int32} (e1 : yx1 = Int32.ofInt x1) {s : gx_S} {σ : fx_S} (es : σ = gx s) {q : Bool × gx_S} (h : gm_208 x1 s = some q) : fm_208 yx1 σ = some (q.1, gx q.2) := by
  unfold gm_208 at h
  unfold fm_208
  exact gf_208_4 100000 _ _ e1 _ _ kg_0 _ _ kg_0 _ _ es _ h

/-! ZoneSharesModel.laysMisfit(I)Z -/
def gm_209_93 (k_41 : Int → Int → Int → gx_S → Option (Bool × gx_S)) (x1 : Int) (x2 : Int) (x4 : Int) (s : gx_S) : Option (Bool × gx_S) :=
  k_41 x1 x2 (x4 + 1) s
theorem gf_209_93 {kf_41 : Int32 → Int64 → Int32 → fx_S → Option (Bool × fx_S)} {kg_41 : Int → Int → Int → gx_S → Option (Bool × gx_S)} (hk_41 : ∀ (x1 : Int) (yx1 : Int32) (e1 : yx1 = Int32.ofInt x1) (x2 : Int) (yx2 : Int64) (e2 : yx2 = Int64.ofInt x2) (x4 : Int) (yx4 : Int32) (e4 : yx4 = Int32.ofInt x4) (s : gx_S) (σ : fx_S) (es : σ = gx s) (q : Bool × gx_S), kg_41 x1 x2 x4 s = some q → kf_41 yx1 yx2 yx4 σ = some (q.1, gx q.2)) (x1 : Int) (yx1 : Int32) (e1 : yx1 = Int32.ofInt x1) (x2 : Int) (yx2 : Int64) (e2 : yx2 = Int64.ofInt x2) (x4 : Int) (yx4 : Int32) (e4 : yx4 = Int32.ofInt x4) (s : gx_S) (σ : fx_S) (es : σ = gx s) (q : Bool × gx_S) (h : gm_209_93 kg_41 x1 x2 x4 s = some q) : fm_209_93 kf_41 yx1 yx2 yx4 σ = some (q.1, gx q.2) := by
  unfold gm_209_93 at h
  unfold fm_209_93
  exact hk_41 _ _ e1 _ _ e2 _ _ (ga_add e4 kg_1) _ _ es _ h
def gm_209_41 : Nat → Int → Int → Int → gx_S → Option (Bool × gx_S)
  | 0, _, _, _, _ => none
  | n + 1, x1, x2, x4, s =>
    if (-2147483648 ≤ x4 ∧ x4 ≤ 2147483647) then (
    if 8 ≤ x4 then (
      if (-9223372036854775808 ≤ x2 ∧ x2 ≤ 9223372036854775807) then (
      if x2 ≤ 0 then (
        some (false, s)) else (
        some (true, s))) else none) else (
      (gm_208 x4 s).bind fun q6 =>
      if (gb q6.1) = 0 then (
        gm_209_93 (gm_209_41 n) x1 x2 x4 q6.2) else (
        (gm_155 x1 x4 q6.2).bind fun q9 =>
        if (-2147483648 ≤ q9.1 ∧ q9.1 ≤ 2147483647) then (
        if (-2147483648 ≤ (q9.2.1 215 42) ∧ (q9.2.1 215 42) ≤ 2147483647) then (
        (gm_206 x4 q9.2).bind fun q13 =>
        if (-2147483648 ≤ q13.1 ∧ q13.1 ≤ 2147483647) then (
        if (-9223372036854775808 ≤ ((q9.1 * x2) - ((q9.2.1 215 42) * q13.1)) ∧ ((q9.1 * x2) - ((q9.2.1 215 42) * q13.1)) ≤ 9223372036854775807) then (
        gm_209_93 (gm_209_41 n) x1 x2 x4 (gw2 q13.2 215 40 ((q6.2.2 215 40) + (if 0 < ((q9.1 * x2) - ((q9.2.1 215 42) * q13.1)) then ((q9.1 * x2) - ((q9.2.1 215 42) * q13.1)) else -((q9.1 * x2) - ((q9.2.1 215 42) * q13.1)))))) else none) else none) else none) else none))) else none
theorem gf_209_41 : ∀ (n : Nat) (x1 : Int) (yx1 : Int32) (e1 : yx1 = Int32.ofInt x1) (x2 : Int) (yx2 : Int64) (e2 : yx2 = Int64.ofInt x2) (x4 : Int) (yx4 : Int32) (e4 : yx4 = Int32.ofInt x4) (s : gx_S) (σ : fx_S) (es : σ = gx s) (q : Bool × gx_S), gm_209_41 n x1 x2 x4 s = some q → fm_209_41 n yx1 yx2 yx4 σ = some (q.1, gx q.2) := by
  intro n
  induction n with
  | zero =>
    intro x1 yx1 e1 x2 yx2 e2 x4 yx4 e4 s σ es q  h
    rw [gm_209_41] at h
    exact fx_no h
  | succ n ih =>
    intro x1 yx1 e1 x2 yx2 e2 x4 yx4 e4 s σ es q  h
    rw [gm_209_41] at h
    rw [fm_209_41]
    obtain ⟨z1, h⟩ := fx_gd h
    by_cases c2 : 8 ≤ x4
    · rw [if_pos c2] at h
      refine gb_t ((gc_le kg_8 e4 (by decide) z1).mpr c2) ?_
      obtain ⟨z3, h⟩ := fx_gd h
      by_cases c4 : x2 ≤ 0
      · rw [if_pos c4] at h
        refine gb_t ((gcl_le e2 kgl_0 z3 (by decide)).mpr c4) ?_
        have h := Option.some.inj h
        subst h
        exact gretb es
      · rw [if_neg c4] at h
        refine gb_f (fun q => c4 ((gcl_le e2 kgl_0 z3 (by decide)).mp q)) ?_
        have h := Option.some.inj h
        subst h
        exact gretb es
    · rw [if_neg c2] at h
      refine gb_f (fun q => c2 ((gc_le kg_8 e4 (by decide) z1).mp q)) ?_
      obtain ⟨q6, w5, h⟩ := fx_bd h
      refine gb_bind (gf_208 e4 es w5) ?_
      by_cases c7 : (gb q6.1) = 0
      · rw [if_pos c7] at h
        refine gb_t ((gc_eq (gb_b q6.1) kg_0 (gb_r _) (by decide)).mpr c7) ?_
        exact gf_209_93 ih _ _ e1 _ _ e2 _ _ e4 _ _ (rfl : _ = gx q6.2) _ h
      · rw [if_neg c7] at h
        refine gb_f (fun q => c7 ((gc_eq (gb_b q6.1) kg_0 (gb_r _) (by decide)).mp q)) ?_
        obtain ⟨q9, w8, h⟩ := fx_bd h
        refine gb_bind (gf_155 e1 e4 (rfl : _ = gx q6.2) w8) ?_
        obtain ⟨z10, h⟩ := fx_gd h
        obtain ⟨z11, h⟩ := fx_gd h
        obtain ⟨q13, w12, h⟩ := fx_bd h
        refine gb_bind (gf_206 e4 (rfl : _ = gx q9.2) w12) ?_
        obtain ⟨z14, h⟩ := fx_gd h
        obtain ⟨z15, h⟩ := fx_gd h
        exact gf_209_93 ih _ _ e1 _ _ e2 _ _ e4 _ _ (gx_w2 (rfl : _ = gx q13.2) (gal_add (gf2 (rfl : _ = gx q6.2) 215 40) (gal_ite (gcl_lt kgl_0 (gal_sub (gal_mul (ga_i2l (gr q9.1) z10) e2) (gal_mul (ga_i2l (gf1 (rfl : _ = gx q9.2) 215 42) z11) (ga_i2l (gr q13.1) z14))) (by decide) z15) (gal_sub (gal_mul (ga_i2l (gr q9.1) z10) e2) (gal_mul (ga_i2l (gf1 (rfl : _ = gx q9.2) 215 42) z11) (ga_i2l (gr q13.1) z14))) (gal_neg (gal_sub (gal_mul (ga_i2l (gr q9.1) z10) e2) (gal_mul (ga_i2l (gf1 (rfl : _ = gx q9.2) 215 42) z11) (ga_i2l (gr q13.1) z14))))))) _ h
def gm_209_5 : Nat → Int → Int → Int → gx_S → Option (Bool × gx_S)
  | 0, _, _, _, _ => none
  | n + 1, x1, x2, x4, s =>
    if (-2147483648 ≤ x4 ∧ x4 ≤ 2147483647) then (
    if 8 ≤ x4 then (
      gm_209_41 100000 x1 x2 0 (gw2 (gw2 s 215 40 0) 215 41 x2)) else (
      (gm_206 x4 s).bind fun q4 =>
      if (-2147483648 ≤ q4.1 ∧ q4.1 ≤ 2147483647) then (
      gm_209_5 n x1 (x2 + q4.1) (x4 + 1) q4.2) else none)) else none
theorem gf_209_5 : ∀ (n : Nat) (x1 : Int) (yx1 : Int32) (e1 : yx1 = Int32.ofInt x1) (x2 : Int) (yx2 : Int64) (e2 : yx2 = Int64.ofInt x2) (x4 : Int) (yx4 : Int32) (e4 : yx4 = Int32.ofInt x4) (s : gx_S) (σ : fx_S) (es : σ = gx s) (q : Bool × gx_S), gm_209_5 n x1 x2 x4 s = some q → fm_209_5 n yx1 yx2 yx4 σ = some (q.1, gx q.2) := by
  intro n
  induction n with
  | zero =>
    intro x1 yx1 e1 x2 yx2 e2 x4 yx4 e4 s σ es q  h
    rw [gm_209_5] at h
    exact fx_no h
  | succ n ih =>
    intro x1 yx1 e1 x2 yx2 e2 x4 yx4 e4 s σ es q  h
    rw [gm_209_5] at h
    rw [fm_209_5]
    obtain ⟨z1, h⟩ := fx_gd h
    by_cases c2 : 8 ≤ x4
    · rw [if_pos c2] at h
      refine gb_t ((gc_le kg_8 e4 (by decide) z1).mpr c2) ?_
      exact gf_209_41 100000 _ _ e1 _ _ e2 _ _ kg_0 _ _ (gx_w2 (gx_w2 es kgl_0) e2) _ h
    · rw [if_neg c2] at h
      refine gb_f (fun q => c2 ((gc_le kg_8 e4 (by decide) z1).mp q)) ?_
      obtain ⟨q4, w3, h⟩ := fx_bd h
      refine gb_bind (gf_206 e4 es w3) ?_
      obtain ⟨z5, h⟩ := fx_gd h
      exact ih _ _ e1 _ _ (gal_add e2 (ga_i2l (gr q4.1) z5)) _ _ (ga_add e4 kg_1) _ _ (rfl : _ = gx q4.2) _ h
def gm_209 (x1 : Int) (s : gx_S) : Option (Bool × gx_S) :=
  gm_209_5 100000 x1 0 0 s
theorem gf_209 {x1 : Int} {yx1 : Int32} (e1 : yx1 = Int32.ofInt x1) {s : gx_S} {σ : fx_S} (es : σ = gx s) {q : Bool × gx_S} (h : gm_209 x1 s = some q) : fm_209 yx1 σ = some (q.1, gx q.2) := by
  unfold gm_209 at h
  unfold fm_209
  exact gf_209_5 100000 _ _ e1 _ _ kgl_0 _ _ kg_0 _ _ es _ h

/-! ZoneSharesModel.misfit(II)J -/
def gm_210_24 (s : gx_S) : Option (Int × gx_S) :=
  some ((-1), s)
theorem gf_210_24 (s : gx_S) (σ : fx_S) (es : σ = gx s) (q : Int × gx_S) (h : gm_210_24 s = some q) : fm_210_24 σ = some (Int64.ofInt q.1, gx q.2) := by
  unfold gm_210_24 at h
  unfold fm_210_24
  have h := Option.some.inj h
  subst h
  exact gretl kgl_m1 es
def gm_210_48 (s : gx_S) : Option (Int × gx_S) :=
  some ((-1), s)
theorem gf_210_48 (s : gx_S) (σ : fx_S) (es : σ = gx s) (q : Int × gx_S) (h : gm_210_48 s = some q) : fm_210_48 σ = some (Int64.ofInt q.1, gx q.2) := by
  unfold gm_210_48 at h
  unfold fm_210_48
  have h := Option.some.inj h
  subst h
  exact gretl kgl_m1 es
def gm_210 (x1 : Int) (x2 : Int) (s : gx_S) : Option (Int × gx_S) :=
  (gm_150 s).bind fun q21 =>
  if (gb q21.1) = 0 then (
    gm_210_24 q21.2) else (
    (gm_148 x1 q21.2).bind fun q24 =>
    if (gb q24.1) = 0 then (
      gm_210_24 q24.2) else (
      if (-2147483648 ≤ x2 ∧ x2 ≤ 2147483647) then (
      (gm_130 x2 0 1 q24.2).bind fun q28 =>
      if ¬ (gb q28.1) = 0 then (
        (gm_205 x1 q28.2).bind fun q31 =>
        if (-2147483648 ≤ (q31.1 215 42) ∧ (q31.1 215 42) ≤ 2147483647) then (
        if (q31.1 215 42) = 0 then (
          gm_210_48 q31) else (
          (gm_209 x1 q31).bind fun q35 =>
          if ¬ (gb q35.1) = 0 then (
            (gm_194 (q35.2.2 215 40) (q35.2.2 215 41) x2 q35.2).bind fun q38 =>
            some (q38.1, q38.2)) else (
            gm_210_48 q35.2))) else none) else (
        gm_210_24 q28.2)) else none))
theorem gf_210 {x1 : Int} {yx1 : Int32} (e1 : yx1 = Int32.ofInt x1) {x2 : Int} {yx2 : Int32} (e2 : yx2 = Int32.ofInt x2) {s : gx_S} {σ : fx_S} (es : σ = gx s) {q : Int × gx_S} (h : gm_210 x1 x2 s = some q) : fm_210 yx1 yx2 σ = some (Int64.ofInt q.1, gx q.2) := by
  unfold gm_210 at h
  unfold fm_210
  obtain ⟨q21, w20, h⟩ := fx_bd h
  refine gb_bind (gf_150 es w20) ?_
  by_cases c22 : (gb q21.1) = 0
  · rw [if_pos c22] at h
    refine gb_t ((gc_eq (gb_b q21.1) kg_0 (gb_r _) (by decide)).mpr c22) ?_
    exact gf_210_24 _ _ (rfl : _ = gx q21.2) _ h
  · rw [if_neg c22] at h
    refine gb_f (fun q => c22 ((gc_eq (gb_b q21.1) kg_0 (gb_r _) (by decide)).mp q)) ?_
    obtain ⟨q24, w23, h⟩ := fx_bd h
    refine gb_bind (gf_148 e1 (rfl : _ = gx q21.2) w23) ?_
    by_cases c25 : (gb q24.1) = 0
    · rw [if_pos c25] at h
      refine gb_t ((gc_eq (gb_b q24.1) kg_0 (gb_r _) (by decide)).mpr c25) ?_
      exact gf_210_24 _ _ (rfl : _ = gx q24.2) _ h
    · rw [if_neg c25] at h
      refine gb_f (fun q => c25 ((gc_eq (gb_b q24.1) kg_0 (gb_r _) (by decide)).mp q)) ?_
      obtain ⟨z26, h⟩ := fx_gd h
      obtain ⟨q28, w27, h⟩ := fx_bd h
      refine gb_bind (gf_130 (ga_i2l e2 z26) kgl_0 kgl_1 (rfl : _ = gx q24.2) w27) ?_
      by_cases c29 : ¬ (gb q28.1) = 0
      · rw [if_pos c29] at h
        refine gb_t ((gc_ne (gb_b q28.1) kg_0 (gb_r _) (by decide)).mpr c29) ?_
        obtain ⟨q31, w30, h⟩ := fx_bd h
        refine gb_bind (gf_205 e1 (rfl : _ = gx q28.2) w30) ?_
        obtain ⟨z32, h⟩ := fx_gd h
        by_cases c33 : (q31.1 215 42) = 0
        · rw [if_pos c33] at h
          refine gb_t ((gc_eq (gf1 (rfl : _ = gx q31) 215 42) kg_0 z32 (by decide)).mpr c33) ?_
          exact gf_210_48 _ _ (rfl : _ = gx q31) _ h
        · rw [if_neg c33] at h
          refine gb_f (fun q => c33 ((gc_eq (gf1 (rfl : _ = gx q31) 215 42) kg_0 z32 (by decide)).mp q)) ?_
          obtain ⟨q35, w34, h⟩ := fx_bd h
          refine gb_bind (gf_209 e1 (rfl : _ = gx q31) w34) ?_
          by_cases c36 : ¬ (gb q35.1) = 0
          · rw [if_pos c36] at h
            refine gb_t ((gc_ne (gb_b q35.1) kg_0 (gb_r _) (by decide)).mpr c36) ?_
            obtain ⟨q38, w37, h⟩ := fx_bd h
            refine gb_bind (gf_194 (gf2 (rfl : _ = gx q35.2) 215 40) (gf2 (rfl : _ = gx q35.2) 215 41) e2 (rfl : _ = gx q35.2) w37) ?_
            have h := Option.some.inj h
            subst h
            exact gretl (gr2 q38.1) (rfl : _ = gx q38.2)
          · rw [if_neg c36] at h
            refine gb_f (fun q => c36 ((gc_ne (gb_b q35.1) kg_0 (gb_r _) (by decide)).mp q)) ?_
            exact gf_210_48 _ _ (rfl : _ = gx q35.2) _ h
      · rw [if_neg c29] at h
        refine gb_f (fun q => c29 ((gc_ne (gb_b q28.1) kg_0 (gb_r _) (by decide)).mp q)) ?_
        exact gf_210_24 _ _ (rfl : _ = gx q28.2) _ h

/-! ZoneSharesModel.isWeight(III)Z -/
def gm_213_40 (k_3 : Int → Int → Int → Int → gx_S → Option (Bool × gx_S)) (x1 : Int) (x2 : Int) (x3 : Int) (x4 : Int) (s : gx_S) : Option (Bool × gx_S) :=
  k_3 x1 x2 x3 (x4 + 1) s
theorem gf_213_40 {kf_3 : Int32 → Int32 → Int32 → Int32 → fx_S → Option (Bool × fx_S)} {kg_3 : Int → Int → Int → Int → gx_S → Option (Bool × gx_S)} (hk_3 : ∀ (x1 : Int) (yx1 : Int32) (e1 : yx1 = Int32.ofInt x1) (x2 : Int) (yx2 : Int32) (e2 : yx2 = Int32.ofInt x2) (x3 : Int) (yx3 : Int32) (e3 : yx3 = Int32.ofInt x3) (x4 : Int) (yx4 : Int32) (e4 : yx4 = Int32.ofInt x4) (s : gx_S) (σ : fx_S) (es : σ = gx s) (q : Bool × gx_S), kg_3 x1 x2 x3 x4 s = some q → kf_3 yx1 yx2 yx3 yx4 σ = some (q.1, gx q.2)) (x1 : Int) (yx1 : Int32) (e1 : yx1 = Int32.ofInt x1) (x2 : Int) (yx2 : Int32) (e2 : yx2 = Int32.ofInt x2) (x3 : Int) (yx3 : Int32) (e3 : yx3 = Int32.ofInt x3) (x4 : Int) (yx4 : Int32) (e4 : yx4 = Int32.ofInt x4) (s : gx_S) (σ : fx_S) (es : σ = gx s) (q : Bool × gx_S) (h : gm_213_40 kg_3 x1 x2 x3 x4 s = some q) : fm_213_40 kf_3 yx1 yx2 yx3 yx4 σ = some (q.1, gx q.2) := by
  unfold gm_213_40 at h
  unfold fm_213_40
  exact hk_3 _ _ e1 _ _ e2 _ _ e3 _ _ (ga_add e4 kg_1) _ _ es _ h
def gm_213_20 (k_3 : Int → Int → Int → Int → gx_S → Option (Bool × gx_S)) (x1 : Int) (x2 : Int) (x3 : Int) (x4 : Int) (s : gx_S) : Option (Bool × gx_S) :=
  if 0 ≤ ((32 + (4 * x4)) + x2) ∧ ((32 + (4 * x4)) + x2) < 340 then (
  if (-2147483648 ≤ (s.1 216 (((32 + (4 * x4)) + x2)).toNat) ∧ (s.1 216 (((32 + (4 * x4)) + x2)).toNat) ≤ 2147483647) then (
  if (-2147483648 ≤ x3 ∧ x3 ≤ 2147483647) then (
  if (s.1 216 (((32 + (4 * x4)) + x2)).toNat) = x3 then (
    gm_213_40 k_3 x1 x2 x3 x4 s) else (
    some (false, s))) else none) else none) else none
theorem gf_213_20 {kf_3 : Int32 → Int32 → Int32 → Int32 → fx_S → Option (Bool × fx_S)} {kg_3 : Int → Int → Int → Int → gx_S → Option (Bool × gx_S)} (hk_3 : ∀ (x1 : Int) (yx1 : Int32) (e1 : yx1 = Int32.ofInt x1) (x2 : Int) (yx2 : Int32) (e2 : yx2 = Int32.ofInt x2) (x3 : Int) (yx3 : Int32) (e3 : yx3 = Int32.ofInt x3) (x4 : Int) (yx4 : Int32) (e4 : yx4 = Int32.ofInt x4) (s : gx_S) (σ : fx_S) (es : σ = gx s) (q : Bool × gx_S), kg_3 x1 x2 x3 x4 s = some q → kf_3 yx1 yx2 yx3 yx4 σ = some (q.1, gx q.2)) (x1 : Int) (yx1 : Int32) (e1 : yx1 = Int32.ofInt x1) (x2 : Int) (yx2 : Int32) (e2 : yx2 = Int32.ofInt x2) (x3 : Int) (yx3 : Int32) (e3 : yx3 = Int32.ofInt x3) (x4 : Int) (yx4 : Int32) (e4 : yx4 = Int32.ofInt x4) (s : gx_S) (σ : fx_S) (es : σ = gx s) (q : Bool × gx_S) (h : gm_213_20 kg_3 x1 x2 x3 x4 s = some q) : fm_213_20 kf_3 yx1 yx2 yx3 yx4 σ = some (q.1, gx q.2) := by
  unfold gm_213_20 at h
  unfold fm_213_20
  obtain ⟨z3, h⟩ := fx_gd h
  refine gb_bind (gl_ld es (ga_add (ga_add kg_32 (ga_mul kg_4 e4)) e2) ga_216 z3) ?_
  obtain ⟨z4, h⟩ := fx_gd h
  obtain ⟨z5, h⟩ := fx_gd h
  by_cases c6 : (s.1 216 (((32 + (4 * x4)) + x2)).toNat) = x3
  · rw [if_pos c6] at h
    refine gb_t ((gc_eq (gr (s.1 216 (((32 + (4 * x4)) + x2)).toNat)) e3 z4 z5).mpr c6) ?_
    exact gf_213_40 hk_3 _ _ e1 _ _ e2 _ _ e3 _ _ e4 _ _ es _ h
  · rw [if_neg c6] at h
    refine gb_f (fun q => c6 ((gc_eq (gr (s.1 216 (((32 + (4 * x4)) + x2)).toNat)) e3 z4 z5).mp q)) ?_
    have h := Option.some.inj h
    subst h
    exact gretb es
def gm_213_3 : Nat → Int → Int → Int → Int → gx_S → Option (Bool × gx_S)
  | 0, _, _, _, _, _ => none
  | n + 1, x1, x2, x3, x4, s =>
    if (-2147483648 ≤ x4 ∧ x4 ≤ 2147483647) then (
    if 3 ≤ x4 then (
      some (true, s)) else (
      if (-2147483648 ≤ x1 ∧ x1 ≤ 2147483647) then (
      if x1 = (-1) then (
        gm_213_20 (gm_213_3 n) x1 x2 x3 x4 s) else (
        if ¬ x1 = x4 then (
          gm_213_40 (gm_213_3 n) x1 x2 x3 x4 s) else (
          gm_213_20 (gm_213_3 n) x1 x2 x3 x4 s))) else none)) else none
theorem gf_213_3 : ∀ (n : Nat) (x1 : Int) (yx1 : Int32) (e1 : yx1 = Int32.ofInt x1) (x2 : Int) (yx2 : Int32) (e2 : yx2 = Int32.ofInt x2) (x3 : Int) (yx3 : Int32) (e3 : yx3 = Int32.ofInt x3) (x4 : Int) (yx4 : Int32) (e4 : yx4 = Int32.ofInt x4) (s : gx_S) (σ : fx_S) (es : σ = gx s) (q : Bool × gx_S), gm_213_3 n x1 x2 x3 x4 s = some q → fm_213_3 n yx1 yx2 yx3 yx4 σ = some (q.1, gx q.2) := by
  intro n
  induction n with
  | zero =>
    intro x1 yx1 e1 x2 yx2 e2 x3 yx3 e3 x4 yx4 e4 s σ es q  h
    rw [gm_213_3] at h
    exact fx_no h
  | succ n ih =>
    intro x1 yx1 e1 x2 yx2 e2 x3 yx3 e3 x4 yx4 e4 s σ es q  h
    rw [gm_213_3] at h
    rw [fm_213_3]
    obtain ⟨z1, h⟩ := fx_gd h
    by_cases c2 : 3 ≤ x4
    · rw [if_pos c2] at h
      refine gb_t ((gc_le kg_3 e4 (by decide) z1).mpr c2) ?_
      have h := Option.some.inj h
      subst h
      exact gretb es
    · rw [if_neg c2] at h
      refine gb_f (fun q => c2 ((gc_le kg_3 e4 (by decide) z1).mp q)) ?_
      obtain ⟨z3, h⟩ := fx_gd h
      by_cases c4 : x1 = (-1)
      · rw [if_pos c4] at h
        refine gb_t ((gc_eq e1 kg_m1 z3 (by decide)).mpr c4) ?_
        exact gf_213_20 ih _ _ e1 _ _ e2 _ _ e3 _ _ e4 _ _ es _ h
      · rw [if_neg c4] at h
        refine gb_f (fun q => c4 ((gc_eq e1 kg_m1 z3 (by decide)).mp q)) ?_
        by_cases c5 : ¬ x1 = x4
        · rw [if_pos c5] at h
          refine gb_t ((gc_ne e1 e4 z3 z1).mpr c5) ?_
          exact gf_213_40 ih _ _ e1 _ _ e2 _ _ e3 _ _ e4 _ _ es _ h
        · rw [if_neg c5] at h
          refine gb_f (fun q => c5 ((gc_ne e1 e4 z3 z1).mp q)) ?_
          exact gf_213_20 ih _ _ e1 _ _ e2 _ _ e3 _ _ e4 _ _ es _ h
def gm_213 (x1 : Int) (x2 : Int) (x3 : Int) (s : gx_S) : Option (Bool × gx_S) :=
  gm_213_3 100000 x1 x2 x3 0 s
theorem gf_213 {x1 : Int} {yx1 : Int32} (e1 : yx1 = Int32.ofInt x1) {x2 : Int} {yx2 : Int32} (e2 : yx2 = Int32.ofInt x2) {x3 : Int} {yx3 : Int32} (e3 : yx3 = Int32.ofInt x3) {s : gx_S} {σ : fx_S} (es : σ = gx s) {q : Bool × gx_S} (h : gm_213 x1 x2 x3 s = some q) : fm_213 yx1 yx2 yx3 σ = some (q.1, gx q.2) := by
  unfold gm_213 at h
  unfold fm_213
  exact gf_213_3 100000 _ _ e1 _ _ e2 _ _ e3 _ _ kg_0 _ _ es _ h

/-! ZoneSharesModel.weigh(III)I -/
def gm_214_111 (k_79 : Int → Int → Int → Int → Int → gx_S → Option (Int × gx_S)) (x1 : Int) (x2 : Int) (x3 : Int) (x4 : Int) (x5 : Int) (s : gx_S) : Option (Int × gx_S) :=
  k_79 x1 x2 x3 x4 (x5 + 1) s
theorem gf_214_111 {kf_79 : Int32 → Int32 → Int32 → Int32 → Int32 → fx_S → Option (Int32 × fx_S)} {kg_79 : Int → Int → Int → Int → Int → gx_S → Option (Int × gx_S)} (hk_79 : ∀ (x1 : Int) (yx1 : Int32) (e1 : yx1 = Int32.ofInt x1) (x2 : Int) (yx2 : Int32) (e2 : yx2 = Int32.ofInt x2) (x3 : Int) (yx3 : Int32) (e3 : yx3 = Int32.ofInt x3) (x4 : Int) (yx4 : Int32) (e4 : yx4 = Int32.ofInt x4) (x5 : Int) (yx5 : Int32) (e5 : yx5 = Int32.ofInt x5) (s : gx_S) (σ : fx_S) (es : σ = gx s) (q : Int × gx_S), kg_79 x1 x2 x3 x4 x5 s = some q → kf_79 yx1 yx2 yx3 yx4 yx5 σ = some (Int32.ofInt q.1, gx q.2)) (x1 : Int) (yx1 : Int32) (e1 : yx1 = Int32.ofInt x1) (x2 : Int) (yx2 : Int32) (e2 : yx2 = Int32.ofInt x2) (x3 : Int) (yx3 : Int32) (e3 : yx3 = Int32.ofInt x3) (x4 : Int) (yx4 : Int32) (e4 : yx4 = Int32.ofInt x4) (x5 : Int) (yx5 : Int32) (e5 : yx5 = Int32.ofInt x5) (s : gx_S) (σ : fx_S) (es : σ = gx s) (q : Int × gx_S) (h : gm_214_111 kg_79 x1 x2 x3 x4 x5 s = some q) : fm_214_111 kf_79 yx1 yx2 yx3 yx4 yx5 σ = some (Int32.ofInt q.1, gx q.2) := by
  unfold gm_214_111 at h
  unfold fm_214_111
  exact hk_79 _ _ e1 _ _ e2 _ _ e3 _ _ e4 _ _ (ga_add e5 kg_1) _ _ es _ h
def gm_214_96 (k_79 : Int → Int → Int → Int → Int → gx_S → Option (Int × gx_S)) (x1 : Int) (x2 : Int) (x3 : Int) (x4 : Int) (x5 : Int) (s : gx_S) : Option (Int × gx_S) :=
  if 0 ≤ ((32 + (4 * x5)) + x2) ∧ ((32 + (4 * x5)) + x2) < 340 then (
  gm_214_111 k_79 x1 x2 x3 x4 x5 (gw1 s 216 (((32 + (4 * x5)) + x2)).toNat x3)) else none
theorem gf_214_96 {kf_79 : Int32 → Int32 → Int32 → Int32 → Int32 → fx_S → Option (Int32 × fx_S)} {kg_79 : Int → Int → Int → Int → Int → gx_S → Option (Int × gx_S)} (hk_79 : ∀ (x1 : Int) (yx1 : Int32) (e1 : yx1 = Int32.ofInt x1) (x2 : Int) (yx2 : Int32) (e2 : yx2 = Int32.ofInt x2) (x3 : Int) (yx3 : Int32) (e3 : yx3 = Int32.ofInt x3) (x4 : Int) (yx4 : Int32) (e4 : yx4 = Int32.ofInt x4) (x5 : Int) (yx5 : Int32) (e5 : yx5 = Int32.ofInt x5) (s : gx_S) (σ : fx_S) (es : σ = gx s) (q : Int × gx_S), kg_79 x1 x2 x3 x4 x5 s = some q → kf_79 yx1 yx2 yx3 yx4 yx5 σ = some (Int32.ofInt q.1, gx q.2)) (x1 : Int) (yx1 : Int32) (e1 : yx1 = Int32.ofInt x1) (x2 : Int) (yx2 : Int32) (e2 : yx2 = Int32.ofInt x2) (x3 : Int) (yx3 : Int32) (e3 : yx3 = Int32.ofInt x3) (x4 : Int) (yx4 : Int32) (e4 : yx4 = Int32.ofInt x4) (x5 : Int) (yx5 : Int32) (e5 : yx5 = Int32.ofInt x5) (s : gx_S) (σ : fx_S) (es : σ = gx s) (q : Int × gx_S) (h : gm_214_96 kg_79 x1 x2 x3 x4 x5 s = some q) : fm_214_96 kf_79 yx1 yx2 yx3 yx4 yx5 σ = some (Int32.ofInt q.1, gx q.2) := by
  unfold gm_214_96 at h
  unfold fm_214_96
  obtain ⟨z3, h⟩ := fx_gd h
  refine gb_bind (gl_st es (ga_add (ga_add kg_32 (ga_mul kg_4 e5)) e2) e3 ga_216 z3) ?_
  exact gf_214_111 hk_79 _ _ e1 _ _ e2 _ _ e3 _ _ e4 _ _ e5 _ _ (rfl : _ = gx (gw1 s 216 (((32 + (4 * x5)) + x2)).toNat x3)) _ h
def gm_214_79 : Nat → Int → Int → Int → Int → Int → gx_S → Option (Int × gx_S)
  | 0, _, _, _, _, _, _ => none
  | n + 1, x1, x2, x3, x4, x5, s =>
    if (-2147483648 ≤ x5 ∧ x5 ≤ 2147483647) then (
    if 3 ≤ x5 then (
      some (x4, s)) else (
      if (-2147483648 ≤ x1 ∧ x1 ≤ 2147483647) then (
      if x1 = (-1) then (
        gm_214_96 (gm_214_79 n) x1 x2 x3 x4 x5 s) else (
        if ¬ x1 = x5 then (
          gm_214_111 (gm_214_79 n) x1 x2 x3 x4 x5 s) else (
          gm_214_96 (gm_214_79 n) x1 x2 x3 x4 x5 s))) else none)) else none
theorem gf_214_79 : ∀ (n : Nat) (x1 : Int) (yx1 : Int32) (e1 : yx1 = Int32.ofInt x1) (x2 : Int) (yx2 : Int32) (e2 : yx2 = Int32.ofInt x2) (x3 : Int) (yx3 : Int32) (e3 : yx3 = Int32.ofInt x3) (x4 : Int) (yx4 : Int32) (e4 : yx4 = Int32.ofInt x4) (x5 : Int) (yx5 : Int32) (e5 : yx5 = Int32.ofInt x5) (s : gx_S) (σ : fx_S) (es : σ = gx s) (q : Int × gx_S), gm_214_79 n x1 x2 x3 x4 x5 s = some q → fm_214_79 n yx1 yx2 yx3 yx4 yx5 σ = some (Int32.ofInt q.1, gx q.2) := by
  intro n
  induction n with
  | zero =>
    intro x1 yx1 e1 x2 yx2 e2 x3 yx3 e3 x4 yx4 e4 x5 yx5 e5 s σ es q  h
    rw [gm_214_79] at h
    exact fx_no h
  | succ n ih =>
    intro x1 yx1 e1 x2 yx2 e2 x3 yx3 e3 x4 yx4 e4 x5 yx5 e5 s σ es q  h
    rw [gm_214_79] at h
    rw [fm_214_79]
    obtain ⟨z1, h⟩ := fx_gd h
    by_cases c2 : 3 ≤ x5
    · rw [if_pos c2] at h
      refine gb_t ((gc_le kg_3 e5 (by decide) z1).mpr c2) ?_
      have h := Option.some.inj h
      subst h
      exact gret e4 es
    · rw [if_neg c2] at h
      refine gb_f (fun q => c2 ((gc_le kg_3 e5 (by decide) z1).mp q)) ?_
      obtain ⟨z3, h⟩ := fx_gd h
      by_cases c4 : x1 = (-1)
      · rw [if_pos c4] at h
        refine gb_t ((gc_eq e1 kg_m1 z3 (by decide)).mpr c4) ?_
        exact gf_214_96 ih _ _ e1 _ _ e2 _ _ e3 _ _ e4 _ _ e5 _ _ es _ h
      · rw [if_neg c4] at h
        refine gb_f (fun q => c4 ((gc_eq e1 kg_m1 z3 (by decide)).mp q)) ?_
        by_cases c5 : ¬ x1 = x5
        · rw [if_pos c5] at h
          refine gb_t ((gc_ne e1 e5 z3 z1).mpr c5) ?_
          exact gf_214_111 ih _ _ e1 _ _ e2 _ _ e3 _ _ e4 _ _ e5 _ _ es _ h
        · rw [if_neg c5] at h
          refine gb_f (fun q => c5 ((gc_ne e1 e5 z3 z1).mp q)) ?_
          exact gf_214_96 ih _ _ e1 _ _ e2 _ _ e3 _ _ e4 _ _ e5 _ _ es _ h
def gm_214 (x1 : Int) (x2 : Int) (x3 : Int) (s : gx_S) : Option (Int × gx_S) :=
  if (-2147483648 ≤ x1 ∧ x1 ≤ 2147483647) then (
  (gm_130 x1 (-1) 2 s).bind fun q31 =>
  if (gb q31.1) = 0 then (
    some ((-1), q31.2)) else (
    if (-2147483648 ≤ x2 ∧ x2 ≤ 2147483647) then (
    (gm_130 x2 0 3 q31.2).bind fun q35 =>
    if (gb q35.1) = 0 then (
      some ((-1), q35.2)) else (
      if (-2147483648 ≤ x3 ∧ x3 ≤ 2147483647) then (
      (gm_130 x3 0 9 q35.2).bind fun q39 =>
      if ¬ (gb q39.1) = 0 then (
        (gm_213 x1 x2 x3 q39.2).bind fun q42 =>
        if (gb q42.1) = 0 then (
          (gm_132 q42.2).bind fun q45 =>
          if 0 ≤ ((32 + (4 * (if 0 < x1 then x1 else 0))) + x2) ∧ ((32 + (4 * (if 0 < x1 then x1 else 0))) + x2) < 340 then (
          gm_214_79 100000 x1 x2 x3 (q45.1 216 (((32 + (4 * (if 0 < x1 then x1 else 0))) + x2)).toNat) 0 q45) else none) else (
          some ((-2), q42.2))) else (
        some ((-1), q39.2))) else none)) else none)) else none
theorem gf_214 {x1 : Int} {yx1 : Int32} (e1 : yx1 = Int32.ofInt x1) {x2 : Int} {yx2 : Int32} (e2 : yx2 = Int32.ofInt x2) {x3 : Int} {yx3 : Int32} (e3 : yx3 = Int32.ofInt x3) {s : gx_S} {σ : fx_S} (es : σ = gx s) {q : Int × gx_S} (h : gm_214 x1 x2 x3 s = some q) : fm_214 yx1 yx2 yx3 σ = some (Int32.ofInt q.1, gx q.2) := by
  unfold gm_214 at h
  unfold fm_214
  obtain ⟨z29, h⟩ := fx_gd h
  obtain ⟨q31, w30, h⟩ := fx_bd h
  refine gb_bind (gf_130 (ga_i2l e1 z29) kgl_m1 kgl_2 es w30) ?_
  by_cases c32 : (gb q31.1) = 0
  · rw [if_pos c32] at h
    refine gb_t ((gc_eq (gb_b q31.1) kg_0 (gb_r _) (by decide)).mpr c32) ?_
    have h := Option.some.inj h
    subst h
    exact gret kg_m1 (rfl : _ = gx q31.2)
  · rw [if_neg c32] at h
    refine gb_f (fun q => c32 ((gc_eq (gb_b q31.1) kg_0 (gb_r _) (by decide)).mp q)) ?_
    obtain ⟨z33, h⟩ := fx_gd h
    obtain ⟨q35, w34, h⟩ := fx_bd h
    refine gb_bind (gf_130 (ga_i2l e2 z33) kgl_0 kgl_3 (rfl : _ = gx q31.2) w34) ?_
    by_cases c36 : (gb q35.1) = 0
    · rw [if_pos c36] at h
      refine gb_t ((gc_eq (gb_b q35.1) kg_0 (gb_r _) (by decide)).mpr c36) ?_
      have h := Option.some.inj h
      subst h
      exact gret kg_m1 (rfl : _ = gx q35.2)
    · rw [if_neg c36] at h
      refine gb_f (fun q => c36 ((gc_eq (gb_b q35.1) kg_0 (gb_r _) (by decide)).mp q)) ?_
      obtain ⟨z37, h⟩ := fx_gd h
      obtain ⟨q39, w38, h⟩ := fx_bd h
      refine gb_bind (gf_130 (ga_i2l e3 z37) kgl_0 kgl_9 (rfl : _ = gx q35.2) w38) ?_
      by_cases c40 : ¬ (gb q39.1) = 0
      · rw [if_pos c40] at h
        refine gb_t ((gc_ne (gb_b q39.1) kg_0 (gb_r _) (by decide)).mpr c40) ?_
        obtain ⟨q42, w41, h⟩ := fx_bd h
        refine gb_bind (gf_213 e1 e2 e3 (rfl : _ = gx q39.2) w41) ?_
        by_cases c43 : (gb q42.1) = 0
        · rw [if_pos c43] at h
          refine gb_t ((gc_eq (gb_b q42.1) kg_0 (gb_r _) (by decide)).mpr c43) ?_
          obtain ⟨q45, w44, h⟩ := fx_bd h
          refine gb_bind (gf_132 (rfl : _ = gx q42.2) w44) ?_
          obtain ⟨z48, h⟩ := fx_gd h
          refine gb_bind (gl_ld (rfl : _ = gx q45) (ga_add (ga_add kg_32 (ga_mul kg_4 (ga_gt_ite kg_0 e1 (by decide) z29))) e2) ga_216 z48) ?_
          exact gf_214_79 100000 _ _ e1 _ _ e2 _ _ e3 _ _ (gr (q45.1 216 (((32 + (4 * (if 0 < x1 then x1 else 0))) + x2)).toNat)) _ _ kg_0 _ _ (rfl : _ = gx q45) _ h
        · rw [if_neg c43] at h
          refine gb_f (fun q => c43 ((gc_eq (gb_b q42.1) kg_0 (gb_r _) (by decide)).mp q)) ?_
          have h := Option.some.inj h
          subst h
          exact gret kg_m2 (rfl : _ = gx q42.2)
      · rw [if_neg c40] at h
        refine gb_f (fun q => c40 ((gc_ne (gb_b q39.1) kg_0 (gb_r _) (by decide)).mp q)) ?_
        have h := Option.some.inj h
        subst h
        exact gret kg_m1 (rfl : _ = gx q39.2)

/-! ZoneSharesModel.settle(II)I -/
def gm_215 (x1 : Int) (x2 : Int) (s : gx_S) : Option (Int × gx_S) :=
  if (-2147483648 ≤ x1 ∧ x1 ≤ 2147483647) then (
  (gm_130 x1 0 1 s).bind fun q20 =>
  if (gb q20.1) = 0 then (
    some ((-1), q20.2)) else (
    if (-2147483648 ≤ x2 ∧ x2 ≤ 2147483647) then (
    (gm_130 x2 0 1 q20.2).bind fun q24 =>
    if ¬ (gb q24.1) = 0 then (
      if 0 ≤ (3 + x1) ∧ (3 + x1) < 340 then (
      if (-2147483648 ≤ (q24.2.1 216 ((3 + x1)).toNat) ∧ (q24.2.1 216 ((3 + x1)).toNat) ≤ 2147483647) then (
      if ¬ (q24.2.1 216 ((3 + x1)).toNat) = x2 then (
        (gm_132 q24.2).bind fun q32 =>
        some ((q24.2.1 216 ((3 + x1)).toNat), (gw1 q32 216 ((3 + x1)).toNat x2))) else (
        some ((-2), q24.2))) else none) else none) else (
      some ((-1), q24.2))) else none)) else none
theorem gf_215 {x1 : Int} {yx1 : Int32} (e1 : yx1 = Int32.ofInt x1) {x2 : Int} {yx2 : Int32} (e2 : yx2 = Int32.ofInt x2) {s : gx_S} {σ : fx_S} (es : σ = gx s) {q : Int × gx_S} (h : gm_215 x1 x2 s = some q) : fm_215 yx1 yx2 σ = some (Int32.ofInt q.1, gx q.2) := by
  unfold gm_215 at h
  unfold fm_215
  obtain ⟨z18, h⟩ := fx_gd h
  obtain ⟨q20, w19, h⟩ := fx_bd h
  refine gb_bind (gf_130 (ga_i2l e1 z18) kgl_0 kgl_1 es w19) ?_
  by_cases c21 : (gb q20.1) = 0
  · rw [if_pos c21] at h
    refine gb_t ((gc_eq (gb_b q20.1) kg_0 (gb_r _) (by decide)).mpr c21) ?_
    have h := Option.some.inj h
    subst h
    exact gret kg_m1 (rfl : _ = gx q20.2)
  · rw [if_neg c21] at h
    refine gb_f (fun q => c21 ((gc_eq (gb_b q20.1) kg_0 (gb_r _) (by decide)).mp q)) ?_
    obtain ⟨z22, h⟩ := fx_gd h
    obtain ⟨q24, w23, h⟩ := fx_bd h
    refine gb_bind (gf_130 (ga_i2l e2 z22) kgl_0 kgl_1 (rfl : _ = gx q20.2) w23) ?_
    by_cases c25 : ¬ (gb q24.1) = 0
    · rw [if_pos c25] at h
      refine gb_t ((gc_ne (gb_b q24.1) kg_0 (gb_r _) (by decide)).mpr c25) ?_
      obtain ⟨z28, h⟩ := fx_gd h
      refine gb_bind (gl_ld (rfl : _ = gx q24.2) (ga_add kg_3 e1) ga_216 z28) ?_
      obtain ⟨z29, h⟩ := fx_gd h
      by_cases c30 : ¬ (q24.2.1 216 ((3 + x1)).toNat) = x2
      · rw [if_pos c30] at h
        refine gb_t ((gc_ne (gr (q24.2.1 216 ((3 + x1)).toNat)) e2 z29 z22).mpr c30) ?_
        obtain ⟨q32, w31, h⟩ := fx_bd h
        refine gb_bind (gf_132 (rfl : _ = gx q24.2) w31) ?_
        refine gb_bind (gl_st (rfl : _ = gx q32) (ga_add kg_3 e1) e2 ga_216 z28) ?_
        have h := Option.some.inj h
        subst h
        exact gret (gr (q24.2.1 216 ((3 + x1)).toNat)) (rfl : _ = gx (gw1 q32 216 ((3 + x1)).toNat x2))
      · rw [if_neg c30] at h
        refine gb_f (fun q => c30 ((gc_ne (gr (q24.2.1 216 ((3 + x1)).toNat)) e2 z29 z22).mp q)) ?_
        have h := Option.some.inj h
        subst h
        exact gret kg_m2 (rfl : _ = gx q24.2)
    · rw [if_neg c25] at h
      refine gb_f (fun q => c25 ((gc_ne (gb_b q24.1) kg_0 (gb_r _) (by decide)).mp q)) ?_
      have h := Option.some.inj h
      subst h
      exact gret kg_m1 (rfl : _ = gx q24.2)

/-! ZoneSharesModel.district(II)I -/
def gm_216 (x1 : Int) (x2 : Int) (s : gx_S) : Option (Int × gx_S) :=
  if (-2147483648 ≤ x1 ∧ x1 ≤ 2147483647) then (
  (gm_130 x1 0 7 s).bind fun q20 =>
  if (gb q20.1) = 0 then (
    some ((-1), q20.2)) else (
    if (-2147483648 ≤ x2 ∧ x2 ≤ 2147483647) then (
    (gm_130 x2 0 3 q20.2).bind fun q24 =>
    if ¬ (gb q24.1) = 0 then (
      if 0 ≤ (44 + x1) ∧ (44 + x1) < 340 then (
      if (-2147483648 ≤ (q24.2.1 216 ((44 + x1)).toNat) ∧ (q24.2.1 216 ((44 + x1)).toNat) ≤ 2147483647) then (
      if ¬ (q24.2.1 216 ((44 + x1)).toNat) = x2 then (
        (gm_132 q24.2).bind fun q32 =>
        some ((q24.2.1 216 ((44 + x1)).toNat), (gw1 q32 216 ((44 + x1)).toNat x2))) else (
        some ((-2), q24.2))) else none) else none) else (
      some ((-1), q24.2))) else none)) else none
theorem gf_216 {x1 : Int} {yx1 : Int32} (e1 : yx1 = Int32.ofInt x1) {x2 : Int} {yx2 : Int32} (e2 : yx2 = Int32.ofInt x2) {s : gx_S} {σ : fx_S} (es : σ = gx s) {q : Int × gx_S} (h : gm_216 x1 x2 s = some q) : fm_216 yx1 yx2 σ = some (Int32.ofInt q.1, gx q.2) := by
  unfold gm_216 at h
  unfold fm_216
  obtain ⟨z18, h⟩ := fx_gd h
  obtain ⟨q20, w19, h⟩ := fx_bd h
  refine gb_bind (gf_130 (ga_i2l e1 z18) kgl_0 kgl_7 es w19) ?_
  by_cases c21 : (gb q20.1) = 0
  · rw [if_pos c21] at h
    refine gb_t ((gc_eq (gb_b q20.1) kg_0 (gb_r _) (by decide)).mpr c21) ?_
    have h := Option.some.inj h
    subst h
    exact gret kg_m1 (rfl : _ = gx q20.2)
  · rw [if_neg c21] at h
    refine gb_f (fun q => c21 ((gc_eq (gb_b q20.1) kg_0 (gb_r _) (by decide)).mp q)) ?_
    obtain ⟨z22, h⟩ := fx_gd h
    obtain ⟨q24, w23, h⟩ := fx_bd h
    refine gb_bind (gf_130 (ga_i2l e2 z22) kgl_0 kgl_3 (rfl : _ = gx q20.2) w23) ?_
    by_cases c25 : ¬ (gb q24.1) = 0
    · rw [if_pos c25] at h
      refine gb_t ((gc_ne (gb_b q24.1) kg_0 (gb_r _) (by decide)).mpr c25) ?_
      obtain ⟨z28, h⟩ := fx_gd h
      refine gb_bind (gl_ld (rfl : _ = gx q24.2) (ga_add kg_44 e1) ga_216 z28) ?_
      obtain ⟨z29, h⟩ := fx_gd h
      by_cases c30 : ¬ (q24.2.1 216 ((44 + x1)).toNat) = x2
      · rw [if_pos c30] at h
        refine gb_t ((gc_ne (gr (q24.2.1 216 ((44 + x1)).toNat)) e2 z29 z22).mpr c30) ?_
        obtain ⟨q32, w31, h⟩ := fx_bd h
        refine gb_bind (gf_132 (rfl : _ = gx q24.2) w31) ?_
        refine gb_bind (gl_st (rfl : _ = gx q32) (ga_add kg_44 e1) e2 ga_216 z28) ?_
        have h := Option.some.inj h
        subst h
        exact gret (gr (q24.2.1 216 ((44 + x1)).toNat)) (rfl : _ = gx (gw1 q32 216 ((44 + x1)).toNat x2))
      · rw [if_neg c30] at h
        refine gb_f (fun q => c30 ((gc_ne (gr (q24.2.1 216 ((44 + x1)).toNat)) e2 z29 z22).mp q)) ?_
        have h := Option.some.inj h
        subst h
        exact gret kg_m2 (rfl : _ = gx q24.2)
    · rw [if_neg c25] at h
      refine gb_f (fun q => c25 ((gc_ne (gb_b q24.1) kg_0 (gb_r _) (by decide)).mp q)) ?_
      have h := Option.some.inj h
      subst h
      exact gret kg_m1 (rfl : _ = gx q24.2)

/-! ZoneSharesModel.cell(III)I -/
def gm_218 (x1 : Int) (x2 : Int) (x3 : Int) (s : gx_S) : Option (Int × gx_S) :=
  if (-2147483648 ≤ x1 ∧ x1 ≤ 2147483647) then (
  (gm_130 x1 0 2 s).bind fun q19 =>
  if (gb q19.1) = 0 then (
    some ((-1), q19.2)) else (
    (gm_144 x1 q19.2).bind fun q22 =>
    if (gb q22.1) = 0 then (
      some ((-1), q22.2)) else (
      (gm_198 x2 x3 q22.2).bind fun q25 =>
      if ¬ (gb q25.1) = 0 then (
        if 0 ≤ (((52 + (96 * x1)) + (12 * x2)) + x3) ∧ (((52 + (96 * x1)) + (12 * x2)) + x3) < 340 then (
        if ¬ x1 = 2 then (
          if (-2147483648 ≤ (q25.2.1 216 ((((52 + (96 * x1)) + (12 * x2)) + x3)).toNat) ∧ (q25.2.1 216 ((((52 + (96 * x1)) + (12 * x2)) + x3)).toNat) ≤ 2147483647) then (
          if ¬ (q25.2.1 216 ((((52 + (96 * x1)) + (12 * x2)) + x3)).toNat) = 8 then (
            some ((97 + (q25.2.1 216 ((((52 + (96 * x1)) + (12 * x2)) + x3)).toNat)), q25.2)) else (
            some (46, q25.2))) else none) else (
          some ((48 + (q25.2.1 216 ((((52 + (96 * x1)) + (12 * x2)) + x3)).toNat)), q25.2))) else none) else (
        some ((-1), q25.2))))) else none
theorem gf_218 {x1 : Int} {yx1 : Int32} (e1 : yx1 = Int32.ofInt x1) {x2 : Int} {yx2 : Int32} (e2 : yx2 = Int32.ofInt x2) {x3 : Int} {yx3 : Int32} (e3 : yx3 = Int32.ofInt x3) {s : gx_S} {σ : fx_S} (es : σ = gx s) {q : Int × gx_S} (h : gm_218 x1 x2 x3 s = some q) : fm_218 yx1 yx2 yx3 σ = some (Int32.ofInt q.1, gx q.2) := by
  unfold gm_218 at h
  unfold fm_218
  obtain ⟨z17, h⟩ := fx_gd h
  obtain ⟨q19, w18, h⟩ := fx_bd h
  refine gb_bind (gf_130 (ga_i2l e1 z17) kgl_0 kgl_2 es w18) ?_
  by_cases c20 : (gb q19.1) = 0
  · rw [if_pos c20] at h
    refine gb_t ((gc_eq (gb_b q19.1) kg_0 (gb_r _) (by decide)).mpr c20) ?_
    have h := Option.some.inj h
    subst h
    exact gret kg_m1 (rfl : _ = gx q19.2)
  · rw [if_neg c20] at h
    refine gb_f (fun q => c20 ((gc_eq (gb_b q19.1) kg_0 (gb_r _) (by decide)).mp q)) ?_
    obtain ⟨q22, w21, h⟩ := fx_bd h
    refine gb_bind (gf_144 e1 (rfl : _ = gx q19.2) w21) ?_
    by_cases c23 : (gb q22.1) = 0
    · rw [if_pos c23] at h
      refine gb_t ((gc_eq (gb_b q22.1) kg_0 (gb_r _) (by decide)).mpr c23) ?_
      have h := Option.some.inj h
      subst h
      exact gret kg_m1 (rfl : _ = gx q22.2)
    · rw [if_neg c23] at h
      refine gb_f (fun q => c23 ((gc_eq (gb_b q22.1) kg_0 (gb_r _) (by decide)).mp q)) ?_
      obtain ⟨q25, w24, h⟩ := fx_bd h
      refine gb_bind (gf_198 e2 e3 (rfl : _ = gx q22.2) w24) ?_
      by_cases c26 : ¬ (gb q25.1) = 0
      · rw [if_pos c26] at h
        refine gb_t ((gc_ne (gb_b q25.1) kg_0 (gb_r _) (by decide)).mpr c26) ?_
        obtain ⟨z29, h⟩ := fx_gd h
        refine gb_bind (gl_ld (rfl : _ = gx q25.2) (ga_add (ga_add (ga_add kg_52 (ga_mul kg_96 e1)) (ga_mul kg_12 e2)) e3) ga_216 z29) ?_
        by_cases c30 : ¬ x1 = 2
        · rw [if_pos c30] at h
          refine gb_t ((gc_ne e1 kg_2 z17 (by decide)).mpr c30) ?_
          obtain ⟨z31, h⟩ := fx_gd h
          by_cases c32 : ¬ (q25.2.1 216 ((((52 + (96 * x1)) + (12 * x2)) + x3)).toNat) = 8
          · rw [if_pos c32] at h
            refine gb_t ((gc_ne (gr (q25.2.1 216 ((((52 + (96 * x1)) + (12 * x2)) + x3)).toNat)) kg_8 z31 (by decide)).mpr c32) ?_
            have h := Option.some.inj h
            subst h
            exact gret (ga_add kg_97 (gr (q25.2.1 216 ((((52 + (96 * x1)) + (12 * x2)) + x3)).toNat))) (rfl : _ = gx q25.2)
          · rw [if_neg c32] at h
            refine gb_f (fun q => c32 ((gc_ne (gr (q25.2.1 216 ((((52 + (96 * x1)) + (12 * x2)) + x3)).toNat)) kg_8 z31 (by decide)).mp q)) ?_
            have h := Option.some.inj h
            subst h
            exact gret kg_46 (rfl : _ = gx q25.2)
        · rw [if_neg c30] at h
          refine gb_f (fun q => c30 ((gc_ne e1 kg_2 z17 (by decide)).mp q)) ?_
          have h := Option.some.inj h
          subst h
          exact gret (ga_add kg_48 (gr (q25.2.1 216 ((((52 + (96 * x1)) + (12 * x2)) + x3)).toNat))) (rfl : _ = gx q25.2)
      · rw [if_neg c26] at h
        refine gb_f (fun q => c26 ((gc_ne (gb_b q25.1) kg_0 (gb_r _) (by decide)).mp q)) ?_
        have h := Option.some.inj h
        subst h
        exact gret kg_m1 (rfl : _ = gx q25.2)

/-! ZoneSharesModel.pieceCells(III)I -/
def gm_219_55 (k_6 : Int → Int → Int → Int → Int → gx_S → Option (Int × gx_S)) (x1 : Int) (x2 : Int) (x3 : Int) (x5 : Int) (s0 : Int) (s1 : Int) (s : gx_S) : Option (Int × gx_S) :=
  (gm_131 s1 s).bind fun q2 =>
  k_6 x1 x2 x3 (s0 + q2.1) (x5 + 1) q2.2
theorem gf_219_55 {kf_6 : Int32 → Int32 → Int32 → Int32 → Int32 → fx_S → Option (Int32 × fx_S)} {kg_6 : Int → Int → Int → Int → Int → gx_S → Option (Int × gx_S)} (hk_6 : ∀ (x1 : Int) (yx1 : Int32) (e1 : yx1 = Int32.ofInt x1) (x2 : Int) (yx2 : Int32) (e2 : yx2 = Int32.ofInt x2) (x3 : Int) (yx3 : Int32) (e3 : yx3 = Int32.ofInt x3) (x4 : Int) (yx4 : Int32) (e4 : yx4 = Int32.ofInt x4) (x5 : Int) (yx5 : Int32) (e5 : yx5 = Int32.ofInt x5) (s : gx_S) (σ : fx_S) (es : σ = gx s) (q : Int × gx_S), kg_6 x1 x2 x3 x4 x5 s = some q → kf_6 yx1 yx2 yx3 yx4 yx5 σ = some (Int32.ofInt q.1, gx q.2)) (x1 : Int) (yx1 : Int32) (e1 : yx1 = Int32.ofInt x1) (x2 : Int) (yx2 : Int32) (e2 : yx2 = Int32.ofInt x2) (x3 : Int) (yx3 : Int32) (e3 : yx3 = Int32.ofInt x3) (x5 : Int) (yx5 : Int32) (e5 : yx5 = Int32.ofInt x5) (s0 : Int) (ys0 : Int32) (es0 : ys0 = Int32.ofInt s0) (s1 : Int) (ys1 : Int32) (es1 : ys1 = Int32.ofInt s1) (s : gx_S) (σ : fx_S) (es : σ = gx s) (q : Int × gx_S) (h : gm_219_55 kg_6 x1 x2 x3 x5 s0 s1 s = some q) : fm_219_55 kf_6 yx1 yx2 yx3 yx5 ys0 ys1 σ = some (Int32.ofInt q.1, gx q.2) := by
  unfold gm_219_55 at h
  unfold fm_219_55
  obtain ⟨q2, w1, h⟩ := fx_bd h
  refine gb_bind (gf_131 es1 es w1) ?_
  exact hk_6 _ _ e1 _ _ e2 _ _ e3 _ _ (ga_add es0 (gr q2.1)) _ _ (ga_add e5 kg_1) _ _ (rfl : _ = gx q2.2) _ h
def gm_219_6 : Nat → Int → Int → Int → Int → Int → gx_S → Option (Int × gx_S)
  | 0, _, _, _, _, _, _ => none
  | n + 1, x1, x2, x3, x4, x5, s =>
    (gm_151 s).bind fun q2 =>
    if (-2147483648 ≤ x5 ∧ x5 ≤ 2147483647) then (
    if (-2147483648 ≤ q2.1 ∧ q2.1 ≤ 2147483647) then (
    if q2.1 ≤ x5 then (
      some (x4, q2.2)) else (
      (gm_152 0 x5 q2.2).bind fun q7 =>
      if (-2147483648 ≤ q7.1 ∧ q7.1 ≤ 2147483647) then (
      if (-2147483648 ≤ x1 ∧ x1 ≤ 2147483647) then (
      if ¬ q7.1 = x1 then (
        gm_219_55 (gm_219_6 n) x1 x2 x3 x5 x4 0 q7.2) else (
        (gm_152 1 x5 q7.2).bind fun q12 =>
        if (-2147483648 ≤ q12.1 ∧ q12.1 ≤ 2147483647) then (
        if (-2147483648 ≤ x2 ∧ x2 ≤ 2147483647) then (
        if ¬ q12.1 = x2 then (
          gm_219_55 (gm_219_6 n) x1 x2 x3 x5 x4 0 q12.2) else (
          (gm_152 2 x5 q12.2).bind fun q17 =>
          if (-2147483648 ≤ q17.1 ∧ q17.1 ≤ 2147483647) then (
          if (-2147483648 ≤ x3 ∧ x3 ≤ 2147483647) then (
          if ¬ q17.1 = x3 then (
            gm_219_55 (gm_219_6 n) x1 x2 x3 x5 x4 0 q17.2) else (
            gm_219_55 (gm_219_6 n) x1 x2 x3 x5 x4 1 q17.2)) else none) else none)) else none) else none)) else none) else none)) else none) else none
theorem gf_219_6 : ∀ (n : Nat) (x1 : Int) (yx1 : Int32) (e1 : yx1 = Int32.ofInt x1) (x2 : Int) (yx2 : Int32) (e2 : yx2 = Int32.ofInt x2) (x3 : Int) (yx3 : Int32) (e3 : yx3 = Int32.ofInt x3) (x4 : Int) (yx4 : Int32) (e4 : yx4 = Int32.ofInt x4) (x5 : Int) (yx5 : Int32) (e5 : yx5 = Int32.ofInt x5) (s : gx_S) (σ : fx_S) (es : σ = gx s) (q : Int × gx_S), gm_219_6 n x1 x2 x3 x4 x5 s = some q → fm_219_6 n yx1 yx2 yx3 yx4 yx5 σ = some (Int32.ofInt q.1, gx q.2) := by
  intro n
  induction n with
  | zero =>
    intro x1 yx1 e1 x2 yx2 e2 x3 yx3 e3 x4 yx4 e4 x5 yx5 e5 s σ es q  h
    rw [gm_219_6] at h
    exact fx_no h
  | succ n ih =>
    intro x1 yx1 e1 x2 yx2 e2 x3 yx3 e3 x4 yx4 e4 x5 yx5 e5 s σ es q  h
    rw [gm_219_6] at h
    rw [fm_219_6]
    obtain ⟨q2, w1, h⟩ := fx_bd h
    refine gb_bind (gf_151 es w1) ?_
    obtain ⟨z3, h⟩ := fx_gd h
    obtain ⟨z4, h⟩ := fx_gd h
    by_cases c5 : q2.1 ≤ x5
    · rw [if_pos c5] at h
      refine gb_t ((gc_le (gr q2.1) e5 z4 z3).mpr c5) ?_
      have h := Option.some.inj h
      subst h
      exact gret e4 (rfl : _ = gx q2.2)
    · rw [if_neg c5] at h
      refine gb_f (fun q => c5 ((gc_le (gr q2.1) e5 z4 z3).mp q)) ?_
      obtain ⟨q7, w6, h⟩ := fx_bd h
      refine gb_bind (gf_152 kg_0 e5 (rfl : _ = gx q2.2) w6) ?_
      obtain ⟨z8, h⟩ := fx_gd h
      obtain ⟨z9, h⟩ := fx_gd h
      by_cases c10 : ¬ q7.1 = x1
      · rw [if_pos c10] at h
        refine gb_t ((gc_ne (gr q7.1) e1 z8 z9).mpr c10) ?_
        exact gf_219_55 ih _ _ e1 _ _ e2 _ _ e3 _ _ e5 _ _ e4 _ _ kg_0 _ _ (rfl : _ = gx q7.2) _ h
      · rw [if_neg c10] at h
        refine gb_f (fun q => c10 ((gc_ne (gr q7.1) e1 z8 z9).mp q)) ?_
        obtain ⟨q12, w11, h⟩ := fx_bd h
        refine gb_bind (gf_152 kg_1 e5 (rfl : _ = gx q7.2) w11) ?_
        obtain ⟨z13, h⟩ := fx_gd h
        obtain ⟨z14, h⟩ := fx_gd h
        by_cases c15 : ¬ q12.1 = x2
        · rw [if_pos c15] at h
          refine gb_t ((gc_ne (gr q12.1) e2 z13 z14).mpr c15) ?_
          exact gf_219_55 ih _ _ e1 _ _ e2 _ _ e3 _ _ e5 _ _ e4 _ _ kg_0 _ _ (rfl : _ = gx q12.2) _ h
        · rw [if_neg c15] at h
          refine gb_f (fun q => c15 ((gc_ne (gr q12.1) e2 z13 z14).mp q)) ?_
          obtain ⟨q17, w16, h⟩ := fx_bd h
          refine gb_bind (gf_152 kg_2 e5 (rfl : _ = gx q12.2) w16) ?_
          obtain ⟨z18, h⟩ := fx_gd h
          obtain ⟨z19, h⟩ := fx_gd h
          by_cases c20 : ¬ q17.1 = x3
          · rw [if_pos c20] at h
            refine gb_t ((gc_ne (gr q17.1) e3 z18 z19).mpr c20) ?_
            exact gf_219_55 ih _ _ e1 _ _ e2 _ _ e3 _ _ e5 _ _ e4 _ _ kg_0 _ _ (rfl : _ = gx q17.2) _ h
          · rw [if_neg c20] at h
            refine gb_f (fun q => c20 ((gc_ne (gr q17.1) e3 z18 z19).mp q)) ?_
            exact gf_219_55 ih _ _ e1 _ _ e2 _ _ e3 _ _ e5 _ _ e4 _ _ kg_1 _ _ (rfl : _ = gx q17.2) _ h
def gm_219 (x1 : Int) (x2 : Int) (x3 : Int) (s : gx_S) : Option (Int × gx_S) :=
  gm_219_6 100000 x1 x2 x3 0 0 s
theorem gf_219 {x1 : Int} {yx1 : Int32} (e1 : yx1 = Int32.ofInt x1) {x2 : Int} {yx2 : Int32} (e2 : yx2 = Int32.ofInt x2) {x3 : Int} {yx3 : Int32} (e3 : yx3 = Int32.ofInt x3) {s : gx_S} {σ : fx_S} (es : σ = gx s) {q : Int × gx_S} (h : gm_219 x1 x2 x3 s = some q) : fm_219 yx1 yx2 yx3 σ = some (Int32.ofInt q.1, gx q.2) := by
  unfold gm_219 at h
  unfold fm_219
  exact gf_219_6 100000 _ _ e1 _ _ e2 _ _ e3 _ _ kg_0 _ _ kg_0 _ _ es _ h

/-! ZoneSharesModel.piece(II)I -/
def gm_220_124 (k_31 : Int → Int → Int → Int → gx_S → Option (Int × gx_S)) (x1 : Int) (x2 : Int) (x4 : Int) (s0 : Int) (s1 : Int) (s : gx_S) : Option (Int × gx_S) :=
  (gm_131 s1 s).bind fun q2 =>
  k_31 x1 x2 (s0 + q2.1) (x4 + 1) q2.2
theorem gf_220_124 {kf_31 : Int32 → Int32 → Int32 → Int32 → fx_S → Option (Int32 × fx_S)} {kg_31 : Int → Int → Int → Int → gx_S → Option (Int × gx_S)} (hk_31 : ∀ (x1 : Int) (yx1 : Int32) (e1 : yx1 = Int32.ofInt x1) (x2 : Int) (yx2 : Int32) (e2 : yx2 = Int32.ofInt x2) (x3 : Int) (yx3 : Int32) (e3 : yx3 = Int32.ofInt x3) (x4 : Int) (yx4 : Int32) (e4 : yx4 = Int32.ofInt x4) (s : gx_S) (σ : fx_S) (es : σ = gx s) (q : Int × gx_S), kg_31 x1 x2 x3 x4 s = some q → kf_31 yx1 yx2 yx3 yx4 σ = some (Int32.ofInt q.1, gx q.2)) (x1 : Int) (yx1 : Int32) (e1 : yx1 = Int32.ofInt x1) (x2 : Int) (yx2 : Int32) (e2 : yx2 = Int32.ofInt x2) (x4 : Int) (yx4 : Int32) (e4 : yx4 = Int32.ofInt x4) (s0 : Int) (ys0 : Int32) (es0 : ys0 = Int32.ofInt s0) (s1 : Int) (ys1 : Int32) (es1 : ys1 = Int32.ofInt s1) (s : gx_S) (σ : fx_S) (es : σ = gx s) (q : Int × gx_S) (h : gm_220_124 kg_31 x1 x2 x4 s0 s1 s = some q) : fm_220_124 kf_31 yx1 yx2 yx4 ys0 ys1 σ = some (Int32.ofInt q.1, gx q.2) := by
  unfold gm_220_124 at h
  unfold fm_220_124
  obtain ⟨q2, w1, h⟩ := fx_bd h
  refine gb_bind (gf_131 es1 es w1) ?_
  exact hk_31 _ _ e1 _ _ e2 _ _ (ga_add es0 (gr q2.1)) _ _ (ga_add e4 kg_1) _ _ (rfl : _ = gx q2.2) _ h
def gm_220_113 (k_31 : Int → Int → Int → Int → gx_S → Option (Int × gx_S)) (x1 : Int) (x2 : Int) (x3 : Int) (x4 : Int) (x7 : Int) (s : gx_S) : Option (Int × gx_S) :=
  if (-2147483648 ≤ x7 ∧ x7 ≤ 2147483647) then (
  if x7 ≤ 0 then (
    gm_220_124 k_31 x1 x2 x4 x3 0 s) else (
    gm_220_124 k_31 x1 x2 x4 x3 1 s)) else none
theorem gf_220_113 {kf_31 : Int32 → Int32 → Int32 → Int32 → fx_S → Option (Int32 × fx_S)} {kg_31 : Int → Int → Int → Int → gx_S → Option (Int × gx_S)} (hk_31 : ∀ (x1 : Int) (yx1 : Int32) (e1 : yx1 = Int32.ofInt x1) (x2 : Int) (yx2 : Int32) (e2 : yx2 = Int32.ofInt x2) (x3 : Int) (yx3 : Int32) (e3 : yx3 = Int32.ofInt x3) (x4 : Int) (yx4 : Int32) (e4 : yx4 = Int32.ofInt x4) (s : gx_S) (σ : fx_S) (es : σ = gx s) (q : Int × gx_S), kg_31 x1 x2 x3 x4 s = some q → kf_31 yx1 yx2 yx3 yx4 σ = some (Int32.ofInt q.1, gx q.2)) (x1 : Int) (yx1 : Int32) (e1 : yx1 = Int32.ofInt x1) (x2 : Int) (yx2 : Int32) (e2 : yx2 = Int32.ofInt x2) (x3 : Int) (yx3 : Int32) (e3 : yx3 = Int32.ofInt x3) (x4 : Int) (yx4 : Int32) (e4 : yx4 = Int32.ofInt x4) (x7 : Int) (yx7 : Int32) (e7 : yx7 = Int32.ofInt x7) (s : gx_S) (σ : fx_S) (es : σ = gx s) (q : Int × gx_S) (h : gm_220_113 kg_31 x1 x2 x3 x4 x7 s = some q) : fm_220_113 kf_31 yx1 yx2 yx3 yx4 yx7 σ = some (Int32.ofInt q.1, gx q.2) := by
  unfold gm_220_113 at h
  unfold fm_220_113
  obtain ⟨z1, h⟩ := fx_gd h
  by_cases c2 : x7 ≤ 0
  · rw [if_pos c2] at h
    refine gb_t ((gc_le e7 kg_0 z1 (by decide)).mpr c2) ?_
    exact gf_220_124 hk_31 _ _ e1 _ _ e2 _ _ e4 _ _ e3 _ _ kg_0 _ _ es _ h
  · rw [if_neg c2] at h
    refine gb_f (fun q => c2 ((gc_le e7 kg_0 z1 (by decide)).mp q)) ?_
    exact gf_220_124 hk_31 _ _ e1 _ _ e2 _ _ e4 _ _ e3 _ _ kg_1 _ _ es _ h
def gm_220_31 : Nat → Int → Int → Int → Int → gx_S → Option (Int × gx_S)
  | 0, _, _, _, _, _ => none
  | n + 1, x1, x2, x3, x4, s =>
    if (-2147483648 ≤ x4 ∧ x4 ≤ 2147483647) then (
    if 288 ≤ x4 then (
      if (-2147483648 ≤ x1 ∧ x1 ≤ 2147483647) then (
      if ¬ x1 = (-1) then (
        some ((-1), s)) else (
        some (x3, s))) else none) else (
      if 0 ≤ x4 ∧ x4 ≤ 2147483647 then (
      if 0 ≤ (x4 / 4) ∧ (x4 / 4) ≤ 2147483647 then (
      (gm_219 (x4 / 36) ((x4 / 4) % 9) (x4 % 4) s).bind fun q8 =>
      if (-2147483648 ≤ q8.1 ∧ q8.1 ≤ 2147483647) then (
      if q8.1 ≤ 0 then (
        gm_220_113 (gm_220_31 n) x1 x2 x3 x4 q8.1 q8.2) else (
        if (-2147483648 ≤ x3 ∧ x3 ≤ 2147483647) then (
        if (-2147483648 ≤ x1 ∧ x1 ≤ 2147483647) then (
        if ¬ x3 = x1 then (
          gm_220_113 (gm_220_31 n) x1 x2 x3 x4 q8.1 q8.2) else (
          if (-2147483648 ≤ x2 ∧ x2 ≤ 2147483647) then (
          if ¬ x2 = 0 then (
            if ¬ x2 = 1 then (
              if ¬ x2 = 2 then (
                some (q8.1, q8.2)) else (
                some ((x4 % 4), q8.2))) else (
              some (((x4 / 4) % 9), q8.2))) else (
            some ((x4 / 36), q8.2))) else none)) else none) else none)) else none) else none) else none)) else none
theorem gf_220_31 : ∀ (n : Nat) (x1 : Int) (yx1 : Int32) (e1 : yx1 = Int32.ofInt x1) (x2 : Int) (yx2 : Int32) (e2 : yx2 = Int32.ofInt x2) (x3 : Int) (yx3 : Int32) (e3 : yx3 = Int32.ofInt x3) (x4 : Int) (yx4 : Int32) (e4 : yx4 = Int32.ofInt x4) (s : gx_S) (σ : fx_S) (es : σ = gx s) (q : Int × gx_S), gm_220_31 n x1 x2 x3 x4 s = some q → fm_220_31 n yx1 yx2 yx3 yx4 σ = some (Int32.ofInt q.1, gx q.2) := by
  intro n
  induction n with
  | zero =>
    intro x1 yx1 e1 x2 yx2 e2 x3 yx3 e3 x4 yx4 e4 s σ es q  h
    rw [gm_220_31] at h
    exact fx_no h
  | succ n ih =>
    intro x1 yx1 e1 x2 yx2 e2 x3 yx3 e3 x4 yx4 e4 s σ es q  h
    rw [gm_220_31] at h
    rw [fm_220_31]
    obtain ⟨z1, h⟩ := fx_gd h
    by_cases c2 : 288 ≤ x4
    · rw [if_pos c2] at h
      refine gb_t ((gc_le kg_288 e4 (by decide) z1).mpr c2) ?_
      obtain ⟨z3, h⟩ := fx_gd h
      by_cases c4 : ¬ x1 = (-1)
      · rw [if_pos c4] at h
        refine gb_t ((gc_ne e1 kg_m1 z3 (by decide)).mpr c4) ?_
        have h := Option.some.inj h
        subst h
        exact gret kg_m1 es
      · rw [if_neg c4] at h
        refine gb_f (fun q => c4 ((gc_ne e1 kg_m1 z3 (by decide)).mp q)) ?_
        have h := Option.some.inj h
        subst h
        exact gret e3 es
    · rw [if_neg c2] at h
      refine gb_f (fun q => c2 ((gc_le kg_288 e4 (by decide) z1).mp q)) ?_
      obtain ⟨z5, h⟩ := fx_gd h
      obtain ⟨z6, h⟩ := fx_gd h
      obtain ⟨q8, w7, h⟩ := fx_bd h
      refine gb_bind (gf_219 (ga_div e4 kg_36 ⟨z5.1, z5.2, by decide, by decide⟩) (ga_rem (ga_div e4 kg_4 ⟨z5.1, z5.2, by decide, by decide⟩) kg_9 ⟨z6.1, z6.2, by decide, by decide⟩) (ga_rem e4 kg_4 ⟨z5.1, z5.2, by decide, by decide⟩) es w7) ?_
      obtain ⟨z9, h⟩ := fx_gd h
      by_cases c10 : q8.1 ≤ 0
      · rw [if_pos c10] at h
        refine gb_t ((gc_le (gr q8.1) kg_0 z9 (by decide)).mpr c10) ?_
        exact gf_220_113 ih _ _ e1 _ _ e2 _ _ e3 _ _ e4 _ _ (gr q8.1) _ _ (rfl : _ = gx q8.2) _ h
      · rw [if_neg c10] at h
        refine gb_f (fun q => c10 ((gc_le (gr q8.1) kg_0 z9 (by decide)).mp q)) ?_
        obtain ⟨z11, h⟩ := fx_gd h
        obtain ⟨z12, h⟩ := fx_gd h
        by_cases c13 : ¬ x3 = x1
        · rw [if_pos c13] at h
          refine gb_t ((gc_ne e3 e1 z11 z12).mpr c13) ?_
          exact gf_220_113 ih _ _ e1 _ _ e2 _ _ e3 _ _ e4 _ _ (gr q8.1) _ _ (rfl : _ = gx q8.2) _ h
        · rw [if_neg c13] at h
          refine gb_f (fun q => c13 ((gc_ne e3 e1 z11 z12).mp q)) ?_
          obtain ⟨z14, h⟩ := fx_gd h
          by_cases c15 : ¬ x2 = 0
          · rw [if_pos c15] at h
            refine gb_t ((gc_ne e2 kg_0 z14 (by decide)).mpr c15) ?_
            by_cases c16 : ¬ x2 = 1
            · rw [if_pos c16] at h
              refine gb_t ((gc_ne e2 kg_1 z14 (by decide)).mpr c16) ?_
              by_cases c17 : ¬ x2 = 2
              · rw [if_pos c17] at h
                refine gb_t ((gc_ne e2 kg_2 z14 (by decide)).mpr c17) ?_
                have h := Option.some.inj h
                subst h
                exact gret (gr q8.1) (rfl : _ = gx q8.2)
              · rw [if_neg c17] at h
                refine gb_f (fun q => c17 ((gc_ne e2 kg_2 z14 (by decide)).mp q)) ?_
                have h := Option.some.inj h
                subst h
                exact gret (ga_rem e4 kg_4 ⟨z5.1, z5.2, by decide, by decide⟩) (rfl : _ = gx q8.2)
            · rw [if_neg c16] at h
              refine gb_f (fun q => c16 ((gc_ne e2 kg_1 z14 (by decide)).mp q)) ?_
              have h := Option.some.inj h
              subst h
              exact gret (ga_rem (ga_div e4 kg_4 ⟨z5.1, z5.2, by decide, by decide⟩) kg_9 ⟨z6.1, z6.2, by decide, by decide⟩) (rfl : _ = gx q8.2)
          · rw [if_neg c15] at h
            refine gb_f (fun q => c15 ((gc_ne e2 kg_0 z14 (by decide)).mp q)) ?_
            have h := Option.some.inj h
            subst h
            exact gret (ga_div e4 kg_36 ⟨z5.1, z5.2, by decide, by decide⟩) (rfl : _ = gx q8.2)
def gm_220 (x1 : Int) (x2 : Int) (s : gx_S) : Option (Int × gx_S) :=
  (gm_150 s).bind fun q49 =>
  if (gb q49.1) = 0 then (
    some ((-1), q49.2)) else (
    if (-2147483648 ≤ x1 ∧ x1 ≤ 2147483647) then (
    if x1 < (-1) then (
      some ((-1), q49.2)) else (
      if (-2147483648 ≤ x2 ∧ x2 ≤ 2147483647) then (
      (gm_130 x2 0 3 q49.2).bind fun q55 =>
      if ¬ (gb q55.1) = 0 then (
        gm_220_31 100000 x1 x2 0 0 q55.2) else (
        some ((-1), q55.2))) else none)) else none)
theorem gf_220 {x1 : Int} {yx1 : Int32} (e1 : yx1 = Int32.ofInt x1) {x2 : Int} {yx2 : Int32} (e2 : yx2 = Int32.ofInt x2) {s : gx_S} {σ : fx_S} (es : σ = gx s) {q : Int × gx_S} (h : gm_220 x1 x2 s = some q) : fm_220 yx1 yx2 σ = some (Int32.ofInt q.1, gx q.2) := by
  unfold gm_220 at h
  unfold fm_220
  obtain ⟨q49, w48, h⟩ := fx_bd h
  refine gb_bind (gf_150 es w48) ?_
  by_cases c50 : (gb q49.1) = 0
  · rw [if_pos c50] at h
    refine gb_t ((gc_eq (gb_b q49.1) kg_0 (gb_r _) (by decide)).mpr c50) ?_
    have h := Option.some.inj h
    subst h
    exact gret kg_m1 (rfl : _ = gx q49.2)
  · rw [if_neg c50] at h
    refine gb_f (fun q => c50 ((gc_eq (gb_b q49.1) kg_0 (gb_r _) (by decide)).mp q)) ?_
    obtain ⟨z51, h⟩ := fx_gd h
    by_cases c52 : x1 < (-1)
    · rw [if_pos c52] at h
      refine gb_t ((gc_lt e1 kg_m1 z51 (by decide)).mpr c52) ?_
      have h := Option.some.inj h
      subst h
      exact gret kg_m1 (rfl : _ = gx q49.2)
    · rw [if_neg c52] at h
      refine gb_f (fun q => c52 ((gc_lt e1 kg_m1 z51 (by decide)).mp q)) ?_
      obtain ⟨z53, h⟩ := fx_gd h
      obtain ⟨q55, w54, h⟩ := fx_bd h
      refine gb_bind (gf_130 (ga_i2l e2 z53) kgl_0 kgl_3 (rfl : _ = gx q49.2) w54) ?_
      by_cases c56 : ¬ (gb q55.1) = 0
      · rw [if_pos c56] at h
        refine gb_t ((gc_ne (gb_b q55.1) kg_0 (gb_r _) (by decide)).mpr c56) ?_
        exact gf_220_31 100000 _ _ e1 _ _ e2 _ _ kg_0 _ _ kg_0 _ _ (rfl : _ = gx q55.2) _ h
      · rw [if_neg c56] at h
        refine gb_f (fun q => c56 ((gc_ne (gb_b q55.1) kg_0 (gb_r _) (by decide)).mp q)) ?_
        have h := Option.some.inj h
        subst h
        exact gret kg_m1 (rfl : _ = gx q55.2)

/-! ZoneSharesModel.newSet(I)I -/
def gm_221_35 (k_4 : Int → Int → Int → gx_S → Option (Int × gx_S)) (x1 : Int) (x3 : Int) (s0 : Int) (s1 : Int) (s : gx_S) : Option (Int × gx_S) :=
  k_4 x1 (((Int32.ofInt s0 ||| Int32.ofInt s1)).toInt) (x3 + 1) s
theorem gf_221_35 {kf_4 : Int32 → Int32 → Int32 → fx_S → Option (Int32 × fx_S)} {kg_4 : Int → Int → Int → gx_S → Option (Int × gx_S)} (hk_4 : ∀ (x1 : Int) (yx1 : Int32) (e1 : yx1 = Int32.ofInt x1) (x2 : Int) (yx2 : Int32) (e2 : yx2 = Int32.ofInt x2) (x3 : Int) (yx3 : Int32) (e3 : yx3 = Int32.ofInt x3) (s : gx_S) (σ : fx_S) (es : σ = gx s) (q : Int × gx_S), kg_4 x1 x2 x3 s = some q → kf_4 yx1 yx2 yx3 σ = some (Int32.ofInt q.1, gx q.2)) (x1 : Int) (yx1 : Int32) (e1 : yx1 = Int32.ofInt x1) (x3 : Int) (yx3 : Int32) (e3 : yx3 = Int32.ofInt x3) (s0 : Int) (ys0 : Int32) (es0 : ys0 = Int32.ofInt s0) (s1 : Int) (ys1 : Int32) (es1 : ys1 = Int32.ofInt s1) (s : gx_S) (σ : fx_S) (es : σ = gx s) (q : Int × gx_S) (h : gm_221_35 kg_4 x1 x3 s0 s1 s = some q) : fm_221_35 kf_4 yx1 yx3 ys0 ys1 σ = some (Int32.ofInt q.1, gx q.2) := by
  unfold gm_221_35 at h
  unfold fm_221_35
  exact hk_4 _ _ e1 _ _ (ga_o2 (f := (fun a b => (a ||| b))) es0 es1) _ _ (ga_add e3 kg_1) _ _ es _ h
def gm_221_4 : Nat → Int → Int → Int → gx_S → Option (Int × gx_S)
  | 0, _, _, _, _ => none
  | n + 1, x1, x2, x3, s =>
    (gm_151 s).bind fun q2 =>
    if (-2147483648 ≤ x3 ∧ x3 ≤ 2147483647) then (
    if (-2147483648 ≤ q2.1 ∧ q2.1 ≤ 2147483647) then (
    if q2.1 ≤ x3 then (
      some (x2, q2.2)) else (
      (gm_152 0 x3 q2.2).bind fun q7 =>
      if (-2147483648 ≤ q7.1 ∧ q7.1 ≤ 2147483647) then (
      if (-2147483648 ≤ x1 ∧ x1 ≤ 2147483647) then (
      if ¬ q7.1 = x1 then (
        gm_221_35 (gm_221_4 n) x1 x3 x2 0 q7.2) else (
        (gm_152 1 x3 q7.2).bind fun q12 =>
        gm_221_35 (gm_221_4 n) x1 x3 x2 (((Int32.ofInt 1 <<< (Int32.ofInt q12.1 &&& 31))).toInt) q12.2)) else none) else none)) else none) else none
theorem gf_221_4 : ∀ (n : Nat) (x1 : Int) (yx1 : Int32) (e1 : yx1 = Int32.ofInt x1) (x2 : Int) (yx2 : Int32) (e2 : yx2 = Int32.ofInt x2) (x3 : Int) (yx3 : Int32) (e3 : yx3 = Int32.ofInt x3) (s : gx_S) (σ : fx_S) (es : σ = gx s) (q : Int × gx_S), gm_221_4 n x1 x2 x3 s = some q → fm_221_4 n yx1 yx2 yx3 σ = some (Int32.ofInt q.1, gx q.2) := by
  intro n
  induction n with
  | zero =>
    intro x1 yx1 e1 x2 yx2 e2 x3 yx3 e3 s σ es q  h
    rw [gm_221_4] at h
    exact fx_no h
  | succ n ih =>
    intro x1 yx1 e1 x2 yx2 e2 x3 yx3 e3 s σ es q  h
    rw [gm_221_4] at h
    rw [fm_221_4]
    obtain ⟨q2, w1, h⟩ := fx_bd h
    refine gb_bind (gf_151 es w1) ?_
    obtain ⟨z3, h⟩ := fx_gd h
    obtain ⟨z4, h⟩ := fx_gd h
    by_cases c5 : q2.1 ≤ x3
    · rw [if_pos c5] at h
      refine gb_t ((gc_le (gr q2.1) e3 z4 z3).mpr c5) ?_
      have h := Option.some.inj h
      subst h
      exact gret e2 (rfl : _ = gx q2.2)
    · rw [if_neg c5] at h
      refine gb_f (fun q => c5 ((gc_le (gr q2.1) e3 z4 z3).mp q)) ?_
      obtain ⟨q7, w6, h⟩ := fx_bd h
      refine gb_bind (gf_152 kg_0 e3 (rfl : _ = gx q2.2) w6) ?_
      obtain ⟨z8, h⟩ := fx_gd h
      obtain ⟨z9, h⟩ := fx_gd h
      by_cases c10 : ¬ q7.1 = x1
      · rw [if_pos c10] at h
        refine gb_t ((gc_ne (gr q7.1) e1 z8 z9).mpr c10) ?_
        exact gf_221_35 ih _ _ e1 _ _ e3 _ _ e2 _ _ kg_0 _ _ (rfl : _ = gx q7.2) _ h
      · rw [if_neg c10] at h
        refine gb_f (fun q => c10 ((gc_ne (gr q7.1) e1 z8 z9).mp q)) ?_
        obtain ⟨q12, w11, h⟩ := fx_bd h
        refine gb_bind (gf_152 kg_1 e3 (rfl : _ = gx q7.2) w11) ?_
        exact gf_221_35 ih _ _ e1 _ _ e3 _ _ e2 _ _ (ga_o2 (f := (fun a b => (a <<< (b &&& 31)))) kg_1 (gr q12.1)) _ _ (rfl : _ = gx q12.2) _ h
def gm_221 (x1 : Int) (s : gx_S) : Option (Int × gx_S) :=
  gm_221_4 100000 x1 0 0 s
theorem gf_221 {x1 : Int} {yx1 : Int32} (e1 : yx1 = Int32.ofInt x1) {s : gx_S} {σ : fx_S} (es : σ = gx s) {q : Int × gx_S} (h : gm_221 x1 s = some q) : fm_221 yx1 σ = some (Int32.ofInt q.1, gx q.2) := by
  unfold gm_221 at h
  unfold fm_221
  exact gf_221_4 100000 _ _ e1 _ _ kg_0 _ _ kg_0 _ _ es _ h

/-! ZoneSharesModel.asideAll()I -/
def gm_225_30 (x1 : Int) (s : gx_S) : Option (Int × gx_S) :=
  some (x1, s)
theorem gf_225_30 (x1 : Int) (yx1 : Int32) (e1 : yx1 = Int32.ofInt x1) (s : gx_S) (σ : fx_S) (es : σ = gx s) (q : Int × gx_S) (h : gm_225_30 x1 s = some q) : fm_225_30 yx1 σ = some (Int32.ofInt q.1, gx q.2) := by
  unfold gm_225_30 at h
  unfold fm_225_30
  have h := Option.some.inj h
  subst h
  exact gret e1 es
def gm_225_4 : Nat → Int → Int → gx_S → Option (Int × gx_S)
  | 0, _, _, _ => none
  | n + 1, x1, x2, s =>
    if (-2147483648 ≤ x2 ∧ x2 ≤ 2147483647) then (
    if 3 ≤ x2 then (
      gm_225_30 x1 s) else (
      (gm_150 s).bind fun q4 =>
      if (gb q4.1) = 0 then (
        gm_225_30 x1 q4.2) else (
        (gm_176 x2 q4.2).bind fun q7 =>
        gm_225_4 n (x1 + q7.1) (x2 + 1) q7.2))) else none
theorem gf_225_4 : ∀ (n : Nat) (x1 : Int) (yx1 : Int32) (e1 : yx1 = Int32.ofInt x1) (x2 : Int) (yx2 : Int32) (e2 : yx2 = Int32.ofInt x2) (s : gx_S) (σ : fx_S) (es : σ = gx s) (q : Int × gx_S), gm_225_4 n x1 x2 s = some q → fm_225_4 n yx1 yx2 σ = some (Int32.ofInt q.1, gx q.2) := by
  intro n
  induction n with
  | zero =>
    intro x1 yx1 e1 x2 yx2 e2 s σ es q  h
    rw [gm_225_4] at h
    exact fx_no h
  | succ n ih =>
    intro x1 yx1 e1 x2 yx2 e2 s σ es q  h
    rw [gm_225_4] at h
    rw [fm_225_4]
    obtain ⟨z1, h⟩ := fx_gd h
    by_cases c2 : 3 ≤ x2
    · rw [if_pos c2] at h
      refine gb_t ((gc_le kg_3 e2 (by decide) z1).mpr c2) ?_
      exact gf_225_30 _ _ e1 _ _ es _ h
    · rw [if_neg c2] at h
      refine gb_f (fun q => c2 ((gc_le kg_3 e2 (by decide) z1).mp q)) ?_
      obtain ⟨q4, w3, h⟩ := fx_bd h
      refine gb_bind (gf_150 es w3) ?_
      by_cases c5 : (gb q4.1) = 0
      · rw [if_pos c5] at h
        refine gb_t ((gc_eq (gb_b q4.1) kg_0 (gb_r _) (by decide)).mpr c5) ?_
        exact gf_225_30 _ _ e1 _ _ (rfl : _ = gx q4.2) _ h
      · rw [if_neg c5] at h
        refine gb_f (fun q => c5 ((gc_eq (gb_b q4.1) kg_0 (gb_r _) (by decide)).mp q)) ?_
        obtain ⟨q7, w6, h⟩ := fx_bd h
        refine gb_bind (gf_176 e2 (rfl : _ = gx q4.2) w6) ?_
        exact ih _ _ (ga_add e1 (gr q7.1)) _ _ (ga_add e2 kg_1) _ _ (rfl : _ = gx q7.2) _ h
def gm_225 (s : gx_S) : Option (Int × gx_S) :=
  gm_225_4 100000 0 0 s
theorem gf_225 {s : gx_S} {σ : fx_S} (es : σ = gx s) {q : Int × gx_S} (h : gm_225 s = some q) : fm_225 σ = some (Int32.ofInt q.1, gx q.2) := by
  unfold gm_225 at h
  unfold fm_225
  exact gf_225_4 100000 _ _ kg_0 _ _ kg_0 _ _ es _ h

/-! ZoneSharesModel.weight(II)I -/
def gm_227 (x1 : Int) (x2 : Int) (s : gx_S) : Option (Int × gx_S) :=
  (gm_148 x1 s).bind fun q12 =>
  if (gb q12.1) = 0 then (
    some ((-1), q12.2)) else (
    if (-2147483648 ≤ x2 ∧ x2 ≤ 2147483647) then (
    (gm_130 x2 0 3 q12.2).bind fun q16 =>
    if (gb q16.1) = 0 then (
      some ((-1), q16.2)) else (
      if 0 ≤ ((32 + (4 * x1)) + x2) ∧ ((32 + (4 * x1)) + x2) < 340 then (
      some ((q16.2.1 216 (((32 + (4 * x1)) + x2)).toNat), q16.2)) else none)) else none)
theorem gf_227 {x1 : Int} {yx1 : Int32} (e1 : yx1 = Int32.ofInt x1) {x2 : Int} {yx2 : Int32} (e2 : yx2 = Int32.ofInt x2) {s : gx_S} {σ : fx_S} (es : σ = gx s) {q : Int × gx_S} (h : gm_227 x1 x2 s = some q) : fm_227 yx1 yx2 σ = some (Int32.ofInt q.1, gx q.2) := by
  unfold gm_227 at h
  unfold fm_227
  obtain ⟨q12, w11, h⟩ := fx_bd h
  refine gb_bind (gf_148 e1 es w11) ?_
  by_cases c13 : (gb q12.1) = 0
  · rw [if_pos c13] at h
    refine gb_t ((gc_eq (gb_b q12.1) kg_0 (gb_r _) (by decide)).mpr c13) ?_
    have h := Option.some.inj h
    subst h
    exact gret kg_m1 (rfl : _ = gx q12.2)
  · rw [if_neg c13] at h
    refine gb_f (fun q => c13 ((gc_eq (gb_b q12.1) kg_0 (gb_r _) (by decide)).mp q)) ?_
    obtain ⟨z14, h⟩ := fx_gd h
    obtain ⟨q16, w15, h⟩ := fx_bd h
    refine gb_bind (gf_130 (ga_i2l e2 z14) kgl_0 kgl_3 (rfl : _ = gx q12.2) w15) ?_
    by_cases c17 : (gb q16.1) = 0
    · rw [if_pos c17] at h
      refine gb_t ((gc_eq (gb_b q16.1) kg_0 (gb_r _) (by decide)).mpr c17) ?_
      have h := Option.some.inj h
      subst h
      exact gret kg_m1 (rfl : _ = gx q16.2)
    · rw [if_neg c17] at h
      refine gb_f (fun q => c17 ((gc_eq (gb_b q16.1) kg_0 (gb_r _) (by decide)).mp q)) ?_
      obtain ⟨z20, h⟩ := fx_gd h
      refine gb_bind (gl_ld (rfl : _ = gx q16.2) (ga_add (ga_add kg_32 (ga_mul kg_4 e1)) e2) ga_216 z20) ?_
      have h := Option.some.inj h
      subst h
      exact gret (gr (q16.2.1 216 (((32 + (4 * x1)) + x2)).toNat)) (rfl : _ = gx q16.2)
