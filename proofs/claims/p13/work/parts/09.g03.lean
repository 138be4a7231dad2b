section
/-! ZoneSharesModel.districtOf(I)I -/
def gm_228 (x1 : Int) (s : gx_S) : Option (Int × gx_S) :=
  if (-2147483648 ≤ x1 ∧ x1 ≤ 2147483647) then (
  (gm_130 x1 0 7 s).bind fun q10 =>
  if (gb q10.1) = 0 then (
    some ((-1), q10.2)) else (
    if 0 ≤ (44 + x1) ∧ (44 + x1) < 340 then (
    some ((q10.2.1 216 ((44 + x1)).toNat), q10.2)) else none)) else none
theorem gf_228 {x1 : Int} {yx1 : Int32} (e1 : yx1 = Int32.ofInt x1) {s : gx_S} {σ : fx_S} (es : σ = gx s) {q : Int × gx_S} (h : gm_228 x1 s = some q) : fm_228 yx1 σ = some (Int32.ofInt q.1, gx q.2) := by
  unfold gm_228 at h
  unfold fm_228
  obtain ⟨z8, h⟩ := fx_gd h
  obtain ⟨q10, w9, h⟩ := fx_bd h
  refine gb_bind (gf_130 (ga_i2l e1 z8) kgl_0 kgl_7 es w9) ?_
  by_cases c11 : (gb q10.1) = 0
  · rw [if_pos c11] at h
    refine gb_t ((gc_eq (gb_b q10.1) kg_0 (gb_r _) (by decide)).mpr c11) ?_
    have h := Option.some.inj h
    subst h
    exact gret kg_m1 (rfl : _ = gx q10.2)
  · rw [if_neg c11] at h
    refine gb_f (fun q => c11 ((gc_eq (gb_b q10.1) kg_0 (gb_r _) (by decide)).mp q)) ?_
    obtain ⟨z14, h⟩ := fx_gd h
    refine gb_bind (gl_ld (rfl : _ = gx q10.2) (ga_add kg_44 e1) ga_216 z14) ?_
    have h := Option.some.inj h
    subst h
    exact gret (gr (q10.2.1 216 ((44 + x1)).toNat)) (rfl : _ = gx q10.2)

/-! java/lang/Integer.numberOfTrailingZeros(I)I -/
def gm_229_74 (x0 : Int) (x1 : Int) (s : gx_S) : Option (Int × gx_S) :=
  some ((x1 + (((Int32.ofInt x0).toUInt32 >>> ((Int32.ofInt 1).toUInt32 &&& Int32.toUInt32 31)).toInt32).toInt), s)
theorem gf_229_74 (x0 : Int) (yx0 : Int32) (e0 : yx0 = Int32.ofInt x0) (x1 : Int) (yx1 : Int32) (e1 : yx1 = Int32.ofInt x1) (s : gx_S) (σ : fx_S) (es : σ = gx s) (q : Int × gx_S) (h : gm_229_74 x0 x1 s = some q) : fm_229_74 yx0 yx1 σ = some (Int32.ofInt q.1, gx q.2) := by
  unfold gm_229_74 at h
  unfold fm_229_74
  have h := Option.some.inj h
  subst h
  exact gret (ga_add e1 (ga_o2 (f := (fun a b => ((a).toUInt32 >>> ((b).toUInt32 &&& Int32.toUInt32 31)).toInt32)) e0 kg_1)) es
def gm_229_62 (x0 : Int) (x1 : Int) (s : gx_S) : Option (Int × gx_S) :=
  if (-2147483648 ≤ x0 ∧ x0 ≤ 2147483647) then (
  if x0 ≤ 4 then (
    gm_229_74 x0 x1 s) else (
    gm_229_74 ((((Int32.ofInt x0).toUInt32 >>> ((Int32.ofInt 2).toUInt32 &&& Int32.toUInt32 31)).toInt32).toInt) (x1 + 2) s)) else none
theorem gf_229_62 (x0 : Int) (yx0 : Int32) (e0 : yx0 = Int32.ofInt x0) (x1 : Int) (yx1 : Int32) (e1 : yx1 = Int32.ofInt x1) (s : gx_S) (σ : fx_S) (es : σ = gx s) (q : Int × gx_S) (h : gm_229_62 x0 x1 s = some q) : fm_229_62 yx0 yx1 σ = some (Int32.ofInt q.1, gx q.2) := by
  unfold gm_229_62 at h
  unfold fm_229_62
  obtain ⟨z1, h⟩ := fx_gd h
  by_cases c2 : x0 ≤ 4
  · rw [if_pos c2] at h
    refine gb_t ((gc_le e0 kg_4 z1 (by decide)).mpr c2) ?_
    exact gf_229_74 _ _ e0 _ _ e1 _ _ es _ h
  · rw [if_neg c2] at h
    refine gb_f (fun q => c2 ((gc_le e0 kg_4 z1 (by decide)).mp q)) ?_
    exact gf_229_74 _ _ (ga_o2 (f := (fun a b => ((a).toUInt32 >>> ((b).toUInt32 &&& Int32.toUInt32 31)).toInt32)) e0 kg_2) _ _ (ga_add e1 kg_2) _ _ es _ h
def gm_229_49 (x0 : Int) (x1 : Int) (s : gx_S) : Option (Int × gx_S) :=
  if (-2147483648 ≤ x0 ∧ x0 ≤ 2147483647) then (
  if x0 ≤ 16 then (
    gm_229_62 x0 x1 s) else (
    gm_229_62 ((((Int32.ofInt x0).toUInt32 >>> ((Int32.ofInt 4).toUInt32 &&& Int32.toUInt32 31)).toInt32).toInt) (x1 + 4) s)) else none
theorem gf_229_49 (x0 : Int) (yx0 : Int32) (e0 : yx0 = Int32.ofInt x0) (x1 : Int) (yx1 : Int32) (e1 : yx1 = Int32.ofInt x1) (s : gx_S) (σ : fx_S) (es : σ = gx s) (q : Int × gx_S) (h : gm_229_49 x0 x1 s = some q) : fm_229_49 yx0 yx1 σ = some (Int32.ofInt q.1, gx q.2) := by
  unfold gm_229_49 at h
  unfold fm_229_49
  obtain ⟨z1, h⟩ := fx_gd h
  by_cases c2 : x0 ≤ 16
  · rw [if_pos c2] at h
    refine gb_t ((gc_le e0 kg_16 z1 (by decide)).mpr c2) ?_
    exact gf_229_62 _ _ e0 _ _ e1 _ _ es _ h
  · rw [if_neg c2] at h
    refine gb_f (fun q => c2 ((gc_le e0 kg_16 z1 (by decide)).mp q)) ?_
    exact gf_229_62 _ _ (ga_o2 (f := (fun a b => ((a).toUInt32 >>> ((b).toUInt32 &&& Int32.toUInt32 31)).toInt32)) e0 kg_4) _ _ (ga_add e1 kg_4) _ _ es _ h
def gm_229_34 (x0 : Int) (x1 : Int) (s : gx_S) : Option (Int × gx_S) :=
  if (-2147483648 ≤ x0 ∧ x0 ≤ 2147483647) then (
  if x0 ≤ 256 then (
    gm_229_49 x0 x1 s) else (
    gm_229_49 ((((Int32.ofInt x0).toUInt32 >>> ((Int32.ofInt 8).toUInt32 &&& Int32.toUInt32 31)).toInt32).toInt) (x1 + 8) s)) else none
theorem gf_229_34 (x0 : Int) (yx0 : Int32) (e0 : yx0 = Int32.ofInt x0) (x1 : Int) (yx1 : Int32) (e1 : yx1 = Int32.ofInt x1) (s : gx_S) (σ : fx_S) (es : σ = gx s) (q : Int × gx_S) (h : gm_229_34 x0 x1 s = some q) : fm_229_34 yx0 yx1 σ = some (Int32.ofInt q.1, gx q.2) := by
  unfold gm_229_34 at h
  unfold fm_229_34
  obtain ⟨z1, h⟩ := fx_gd h
  by_cases c2 : x0 ≤ 256
  · rw [if_pos c2] at h
    refine gb_t ((gc_le e0 kg_256 z1 (by decide)).mpr c2) ?_
    exact gf_229_49 _ _ e0 _ _ e1 _ _ es _ h
  · rw [if_neg c2] at h
    refine gb_f (fun q => c2 ((gc_le e0 kg_256 z1 (by decide)).mp q)) ?_
    exact gf_229_49 _ _ (ga_o2 (f := (fun a b => ((a).toUInt32 >>> ((b).toUInt32 &&& Int32.toUInt32 31)).toInt32)) e0 kg_8) _ _ (ga_add e1 kg_8) _ _ es _ h
def gm_229 (x0 : Int) (s : gx_S) : Option (Int × gx_S) :=
  if (-2147483648 ≤ ((Int32.ofInt (((Int32.ofInt x0 ^^^ Int32.ofInt (-1))).toInt) &&& Int32.ofInt (x0 - 1))).toInt ∧ ((Int32.ofInt (((Int32.ofInt x0 ^^^ Int32.ofInt (-1))).toInt) &&& Int32.ofInt (x0 - 1))).toInt ≤ 2147483647) then (
  if 0 < ((Int32.ofInt (((Int32.ofInt x0 ^^^ Int32.ofInt (-1))).toInt) &&& Int32.ofInt (x0 - 1))).toInt then (
    if ((Int32.ofInt (((Int32.ofInt x0 ^^^ Int32.ofInt (-1))).toInt) &&& Int32.ofInt (x0 - 1))).toInt ≤ 65536 then (
      gm_229_34 (((Int32.ofInt (((Int32.ofInt x0 ^^^ Int32.ofInt (-1))).toInt) &&& Int32.ofInt (x0 - 1))).toInt) 1 s) else (
      gm_229_34 ((((Int32.ofInt (((Int32.ofInt (((Int32.ofInt x0 ^^^ Int32.ofInt (-1))).toInt) &&& Int32.ofInt (x0 - 1))).toInt)).toUInt32 >>> ((Int32.ofInt 16).toUInt32 &&& Int32.toUInt32 31)).toInt32).toInt) (1 + 16) s)) else (
    some (((Int32.ofInt (((Int32.ofInt (((Int32.ofInt x0 ^^^ Int32.ofInt (-1))).toInt) &&& Int32.ofInt (x0 - 1))).toInt) &&& Int32.ofInt 32)).toInt, s))) else none
theorem gf_229 {x0 : Int} {yx0 : Int32} (e0 : yx0 = Int32.ofInt x0) {s : gx_S} {σ : fx_S} (es : σ = gx s) {q : Int × gx_S} (h : gm_229 x0 s = some q) : fm_229 yx0 σ = some (Int32.ofInt q.1, gx q.2) := by
  unfold gm_229 at h
  unfold fm_229
  obtain ⟨z10, h⟩ := fx_gd h
  by_cases c11 : 0 < ((Int32.ofInt (((Int32.ofInt x0 ^^^ Int32.ofInt (-1))).toInt) &&& Int32.ofInt (x0 - 1))).toInt
  · rw [if_pos c11] at h
    refine gb_t ((gc_lt kg_0 (ga_o2 (f := (fun a b => (a &&& b))) (ga_o2 (f := (fun a b => (a ^^^ b))) e0 kg_m1) (ga_sub e0 kg_1)) (by decide) z10).mpr c11) ?_
    by_cases c12 : ((Int32.ofInt (((Int32.ofInt x0 ^^^ Int32.ofInt (-1))).toInt) &&& Int32.ofInt (x0 - 1))).toInt ≤ 65536
    · rw [if_pos c12] at h
      refine gb_t ((gc_le (ga_o2 (f := (fun a b => (a &&& b))) (ga_o2 (f := (fun a b => (a ^^^ b))) e0 kg_m1) (ga_sub e0 kg_1)) kg_65536 z10 (by decide)).mpr c12) ?_
      exact gf_229_34 _ _ (ga_o2 (f := (fun a b => (a &&& b))) (ga_o2 (f := (fun a b => (a ^^^ b))) e0 kg_m1) (ga_sub e0 kg_1)) _ _ kg_1 _ _ es _ h
    · rw [if_neg c12] at h
      refine gb_f (fun q => c12 ((gc_le (ga_o2 (f := (fun a b => (a &&& b))) (ga_o2 (f := (fun a b => (a ^^^ b))) e0 kg_m1) (ga_sub e0 kg_1)) kg_65536 z10 (by decide)).mp q)) ?_
      exact gf_229_34 _ _ (ga_o2 (f := (fun a b => ((a).toUInt32 >>> ((b).toUInt32 &&& Int32.toUInt32 31)).toInt32)) (ga_o2 (f := (fun a b => (a &&& b))) (ga_o2 (f := (fun a b => (a ^^^ b))) e0 kg_m1) (ga_sub e0 kg_1)) kg_16) _ _ (ga_add kg_1 kg_16) _ _ es _ h
  · rw [if_neg c11] at h
    refine gb_f (fun q => c11 ((gc_lt kg_0 (ga_o2 (f := (fun a b => (a &&& b))) (ga_o2 (f := (fun a b => (a ^^^ b))) e0 kg_m1) (ga_sub e0 kg_1)) (by decide) z10).mp q)) ?_
    have h := Option.some.inj h
    subst h
    exact gret (ga_o2 (f := (fun a b => (a &&& b))) (ga_o2 (f := (fun a b => (a &&& b))) (ga_o2 (f := (fun a b => (a ^^^ b))) e0 kg_m1) (ga_sub e0 kg_1)) kg_32) es

/-! java/lang/Integer.bitCount(I)I -/
def gm_230 (x0 : Int) (s : gx_S) : Option (Int × gx_S) :=
  some (((Int32.ofInt ((((Int32.ofInt ((((Int32.ofInt (x0 - ((Int32.ofInt ((((Int32.ofInt x0).toUInt32 >>> ((Int32.ofInt 1).toUInt32 &&& Int32.toUInt32 31)).toInt32).toInt) &&& Int32.ofInt 1431655765)).toInt) &&& Int32.ofInt 858993459)).toInt + ((Int32.ofInt ((((Int32.ofInt (x0 - ((Int32.ofInt ((((Int32.ofInt x0).toUInt32 >>> ((Int32.ofInt 1).toUInt32 &&& Int32.toUInt32 31)).toInt32).toInt) &&& Int32.ofInt 1431655765)).toInt)).toUInt32 >>> ((Int32.ofInt 2).toUInt32 &&& Int32.toUInt32 31)).toInt32).toInt) &&& Int32.ofInt 858993459)).toInt) + (((Int32.ofInt (((Int32.ofInt (x0 - ((Int32.ofInt ((((Int32.ofInt x0).toUInt32 >>> ((Int32.ofInt 1).toUInt32 &&& Int32.toUInt32 31)).toInt32).toInt) &&& Int32.ofInt 1431655765)).toInt) &&& Int32.ofInt 858993459)).toInt + ((Int32.ofInt ((((Int32.ofInt (x0 - ((Int32.ofInt ((((Int32.ofInt x0).toUInt32 >>> ((Int32.ofInt 1).toUInt32 &&& Int32.toUInt32 31)).toInt32).toInt) &&& Int32.ofInt 1431655765)).toInt)).toUInt32 >>> ((Int32.ofInt 2).toUInt32 &&& Int32.toUInt32 31)).toInt32).toInt) &&& Int32.ofInt 858993459)).toInt)).toUInt32 >>> ((Int32.ofInt 4).toUInt32 &&& Int32.toUInt32 31)).toInt32).toInt) &&& Int32.ofInt 252645135)).toInt + (((Int32.ofInt (((Int32.ofInt ((((Int32.ofInt (x0 - ((Int32.ofInt ((((Int32.ofInt x0).toUInt32 >>> ((Int32.ofInt 1).toUInt32 &&& Int32.toUInt32 31)).toInt32).toInt) &&& Int32.ofInt 1431655765)).toInt) &&& Int32.ofInt 858993459)).toInt + ((Int32.ofInt ((((Int32.ofInt (x0 - ((Int32.ofInt ((((Int32.ofInt x0).toUInt32 >>> ((Int32.ofInt 1).toUInt32 &&& Int32.toUInt32 31)).toInt32).toInt) &&& Int32.ofInt 1431655765)).toInt)).toUInt32 >>> ((Int32.ofInt 2).toUInt32 &&& Int32.toUInt32 31)).toInt32).toInt) &&& Int32.ofInt 858993459)).toInt) + (((Int32.ofInt (((Int32.ofInt (x0 - ((Int32.ofInt ((((Int32.ofInt x0).toUInt32 >>> ((Int32.ofInt 1).toUInt32 &&& Int32.toUInt32 31)).toInt32).toInt) &&& Int32.ofInt 1431655765)).toInt) &&& Int32.ofInt 858993459)).toInt + ((Int32.ofInt ((((Int32.ofInt (x0 - ((Int32.ofInt ((((Int32.ofInt x0).toUInt32 >>> ((Int32.ofInt 1).toUInt32 &&& Int32.toUInt32 31)).toInt32).toInt) &&& Int32.ofInt 1431655765)).toInt)).toUInt32 >>> ((Int32.ofInt 2).toUInt32 &&& Int32.toUInt32 31)).toInt32).toInt) &&& Int32.ofInt 858993459)).toInt)).toUInt32 >>> ((Int32.ofInt 4).toUInt32 &&& Int32.toUInt32 31)).toInt32).toInt) &&& Int32.ofInt 252645135)).toInt)).toUInt32 >>> ((Int32.ofInt 8).toUInt32 &&& Int32.toUInt32 31)).toInt32).toInt) + (((Int32.ofInt (((Int32.ofInt ((((Int32.ofInt (x0 - ((Int32.ofInt ((((Int32.ofInt x0).toUInt32 >>> ((Int32.ofInt 1).toUInt32 &&& Int32.toUInt32 31)).toInt32).toInt) &&& Int32.ofInt 1431655765)).toInt) &&& Int32.ofInt 858993459)).toInt + ((Int32.ofInt ((((Int32.ofInt (x0 - ((Int32.ofInt ((((Int32.ofInt x0).toUInt32 >>> ((Int32.ofInt 1).toUInt32 &&& Int32.toUInt32 31)).toInt32).toInt) &&& Int32.ofInt 1431655765)).toInt)).toUInt32 >>> ((Int32.ofInt 2).toUInt32 &&& Int32.toUInt32 31)).toInt32).toInt) &&& Int32.ofInt 858993459)).toInt) + (((Int32.ofInt (((Int32.ofInt (x0 - ((Int32.ofInt ((((Int32.ofInt x0).toUInt32 >>> ((Int32.ofInt 1).toUInt32 &&& Int32.toUInt32 31)).toInt32).toInt) &&& Int32.ofInt 1431655765)).toInt) &&& Int32.ofInt 858993459)).toInt + ((Int32.ofInt ((((Int32.ofInt (x0 - ((Int32.ofInt ((((Int32.ofInt x0).toUInt32 >>> ((Int32.ofInt 1).toUInt32 &&& Int32.toUInt32 31)).toInt32).toInt) &&& Int32.ofInt 1431655765)).toInt)).toUInt32 >>> ((Int32.ofInt 2).toUInt32 &&& Int32.toUInt32 31)).toInt32).toInt) &&& Int32.ofInt 858993459)).toInt)).toUInt32 >>> ((Int32.ofInt 4).toUInt32 &&& Int32.toUInt32 31)).toInt32).toInt) &&& Int32.ofInt 252645135)).toInt + (((Int32.ofInt (((Int32.ofInt ((((Int32.ofInt (x0 - ((Int32.ofInt ((((Int32.ofInt x0).toUInt32 >>> ((Int32.ofInt 1).toUInt32 &&& Int32.toUInt32 31)).toInt32).toInt) &&& Int32.ofInt 1431655765)).toInt) &&& Int32.ofInt 858993459)).toInt + ((Int32.ofInt ((((Int32.ofInt (x0 - ((Int32.ofInt ((((Int32.ofInt x0).toUInt32 >>> ((Int32.ofInt 1).toUInt32 &&& Int32.toUInt32 31)).toInt32).toInt) &&& Int32.ofInt 1431655765)).toInt)).toUInt32 >>> ((Int32.ofInt 2).toUInt32 &&& Int32.toUInt32 31)).toInt32).toInt) &&& Int32.ofInt 858993459)).toInt) + (((Int32.ofInt (((Int32.ofInt (x0 - ((Int32.ofInt ((((Int32.ofInt x0).toUInt32 >>> ((Int32.ofInt 1).toUInt32 &&& Int32.toUInt32 31)).toInt32).toInt) &&& Int32.ofInt 1431655765)).toInt) &&& Int32.ofInt 858993459)).toInt + ((Int32.ofInt ((((Int32.ofInt (x0 - ((Int32.ofInt ((((Int32.ofInt x0).toUInt32 >>> ((Int32.ofInt 1).toUInt32 &&& Int32.toUInt32 31)).toInt32).toInt) &&& Int32.ofInt 1431655765)).toInt)).toUInt32 >>> ((Int32.ofInt 2).toUInt32 &&& Int32.toUInt32 31)).toInt32).toInt) &&& Int32.ofInt 858993459)).toInt)).toUInt32 >>> ((Int32.ofInt 4).toUInt32 &&& Int32.toUInt32 31)).toInt32).toInt) &&& Int32.ofInt 252645135)).toInt)).toUInt32 >>> ((Int32.ofInt 8).toUInt32 &&& Int32.toUInt32 31)).toInt32).toInt)).toUInt32 >>> ((Int32.ofInt 16).toUInt32 &&& Int32.toUInt32 31)).toInt32).toInt) &&& Int32.ofInt 63)).toInt, s)
theorem gf_230 {x0 : Int} {yx0 : Int32} (e0 : yx0 = Int32.ofInt x0) {s : gx_S} {σ : fx_S} (es : σ = gx s) {q : Int × gx_S} (h : gm_230 x0 s = some q) : fm_230 yx0 σ = some (Int32.ofInt q.1, gx q.2) := by
  unfold gm_230 at h
  unfold fm_230
  have h := Option.some.inj h
  subst h
  exact gret (ga_o2 (f := (fun a b => (a &&& b))) (ga_add (ga_add (ga_o2 (f := (fun a b => (a &&& b))) (ga_add (ga_add (ga_o2 (f := (fun a b => (a &&& b))) (ga_sub e0 (ga_o2 (f := (fun a b => (a &&& b))) (ga_o2 (f := (fun a b => ((a).toUInt32 >>> ((b).toUInt32 &&& Int32.toUInt32 31)).toInt32)) e0 kg_1) kg_1431655765)) kg_858993459) (ga_o2 (f := (fun a b => (a &&& b))) (ga_o2 (f := (fun a b => ((a).toUInt32 >>> ((b).toUInt32 &&& Int32.toUInt32 31)).toInt32)) (ga_sub e0 (ga_o2 (f := (fun a b => (a &&& b))) (ga_o2 (f := (fun a b => ((a).toUInt32 >>> ((b).toUInt32 &&& Int32.toUInt32 31)).toInt32)) e0 kg_1) kg_1431655765)) kg_2) kg_858993459)) (ga_o2 (f := (fun a b => ((a).toUInt32 >>> ((b).toUInt32 &&& Int32.toUInt32 31)).toInt32)) (ga_add (ga_o2 (f := (fun a b => (a &&& b))) (ga_sub e0 (ga_o2 (f := (fun a b => (a &&& b))) (ga_o2 (f := (fun a b => ((a).toUInt32 >>> ((b).toUInt32 &&& Int32.toUInt32 31)).toInt32)) e0 kg_1) kg_1431655765)) kg_858993459) (ga_o2 (f := (fun a b => (a &&& b))) (ga_o2 (f := (fun a b => ((a).toUInt32 >>> ((b).toUInt32 &&& Int32.toUInt32 31)).toInt32)) (ga_sub e0 (ga_o2 (f := (fun a b => (a &&& b))) (ga_o2 (f := (fun a b => ((a).toUInt32 >>> ((b).toUInt32 &&& Int32.toUInt32 31)).toInt32)) e0 kg_1) kg_1431655765)) kg_2) kg_858993459)) kg_4)) kg_252645135) (ga_o2 (f := (fun a b => ((a).toUInt32 >>> ((b).toUInt32 &&& Int32.toUInt32 31)).toInt32)) (ga_o2 (f := (fun a b => (a &&& b))) (ga_add (ga_add (ga_o2 (f := (fun a b => (a &&& b))) (ga_sub e0 (ga_o2 (f := (fun a b => (a &&& b))) (ga_o2 (f := (fun a b => ((a).toUInt32 >>> ((b).toUInt32 &&& Int32.toUInt32 31)).toInt32)) e0 kg_1) kg_1431655765)) kg_858993459) (ga_o2 (f := (fun a b => (a &&& b))) (ga_o2 (f := (fun a b => ((a).toUInt32 >>> ((b).toUInt32 &&& Int32.toUInt32 31)).toInt32)) (ga_sub e0 (ga_o2 (f := (fun a b => (a &&& b))) (ga_o2 (f := (fun a b => ((a).toUInt32 >>> ((b).toUInt32 &&& Int32.toUInt32 31)).toInt32)) e0 kg_1) kg_1431655765)) kg_2) kg_858993459)) (ga_o2 (f := (fun a b => ((a).toUInt32 >>> ((b).toUInt32 &&& Int32.toUInt32 31)).toInt32)) (ga_add (ga_o2 (f := (fun a b => (a &&& b))) (ga_sub e0 (ga_o2 (f := (fun a b => (a &&& b))) (ga_o2 (f := (fun a b => ((a).toUInt32 >>> ((b).toUInt32 &&& Int32.toUInt32 31)).toInt32)) e0 kg_1) kg_1431655765)) kg_858993459) (ga_o2 (f := (fun a b => (a &&& b))) (ga_o2 (f := (fun a b => ((a).toUInt32 >>> ((b).toUInt32 &&& Int32.toUInt32 31)).toInt32)) (ga_sub e0 (ga_o2 (f := (fun a b => (a &&& b))) (ga_o2 (f := (fun a b => ((a).toUInt32 >>> ((b).toUInt32 &&& Int32.toUInt32 31)).toInt32)) e0 kg_1) kg_1431655765)) kg_2) kg_858993459)) kg_4)) kg_252645135) kg_8)) (ga_o2 (f := (fun a b => ((a).toUInt32 >>> ((b).toUInt32 &&& Int32.toUInt32 31)).toInt32)) (ga_add (ga_o2 (f := (fun a b => (a &&& b))) (ga_add (ga_add (ga_o2 (f := (fun a b => (a &&& b))) (ga_sub e0 (ga_o2 (f := (fun a b => (a &&& b))) (ga_o2 (f := (fun a b => ((a).toUInt32 >>> ((b).toUInt32 &&& Int32.toUInt32 31)).toInt32)) e0 kg_1) kg_1431655765)) kg_858993459) (ga_o2 (f := (fun a b => (a &&& b))) (ga_o2 (f := (fun a b => ((a).toUInt32 >>> ((b).toUInt32 &&& Int32.toUInt32 31)).toInt32)) (ga_sub e0 (ga_o2 (f := (fun a b => (a &&& b))) (ga_o2 (f := (fun a b => ((a).toUInt32 >>> ((b).toUInt32 &&& Int32.toUInt32 31)).toInt32)) e0 kg_1) kg_1431655765)) kg_2) kg_858993459)) (ga_o2 (f := (fun a b => ((a).toUInt32 >>> ((b).toUInt32 &&& Int32.toUInt32 31)).toInt32)) (ga_add (ga_o2 (f := (fun a b => (a &&& b))) (ga_sub e0 (ga_o2 (f := (fun a b => (a &&& b))) (ga_o2 (f := (fun a b => ((a).toUInt32 >>> ((b).toUInt32 &&& Int32.toUInt32 31)).toInt32)) e0 kg_1) kg_1431655765)) kg_858993459) (ga_o2 (f := (fun a b => (a &&& b))) (ga_o2 (f := (fun a b => ((a).toUInt32 >>> ((b).toUInt32 &&& Int32.toUInt32 31)).toInt32)) (ga_sub e0 (ga_o2 (f := (fun a b => (a &&& b))) (ga_o2 (f := (fun a b => ((a).toUInt32 >>> ((b).toUInt32 &&& Int32.toUInt32 31)).toInt32)) e0 kg_1) kg_1431655765)) kg_2) kg_858993459)) kg_4)) kg_252645135) (ga_o2 (f := (fun a b => ((a).toUInt32 >>> ((b).toUInt32 &&& Int32.toUInt32 31)).toInt32)) (ga_o2 (f := (fun a b => (a &&& b))) (ga_add (ga_add (ga_o2 (f := (fun a b => (a &&& b))) (ga_sub e0 (ga_o2 (f := (fun a b => (a &&& b))) (ga_o2 (f := (fun a b => ((a).toUInt32 >>> ((b).toUInt32 &&& Int32.toUInt32 31)).toInt32)) e0 kg_1) kg_1431655765)) kg_858993459) (ga_o2 (f := (fun a b => (a &&& b))) (ga_o2 (f := (fun a b => ((a).toUInt32 >>> ((b).toUInt32 &&& Int32.toUInt32 31)).toInt32)) (ga_sub e0 (ga_o2 (f := (fun a b => (a &&& b))) (ga_o2 (f := (fun a b => ((a).toUInt32 >>> ((b).toUInt32 &&& Int32.toUInt32 31)).toInt32)) e0 kg_1) kg_1431655765)) kg_2) kg_858993459)) (ga_o2 (f := (fun a b => ((a).toUInt32 >>> ((b).toUInt32 &&& Int32.toUInt32 31)).toInt32)) (ga_add (ga_o2 (f := (fun a b => (a &&& b))) (ga_sub e0 (ga_o2 (f := (fun a b => (a &&& b))) (ga_o2 (f := (fun a b => ((a).toUInt32 >>> ((b).toUInt32 &&& Int32.toUInt32 31)).toInt32)) e0 kg_1) kg_1431655765)) kg_858993459) (ga_o2 (f := (fun a b => (a &&& b))) (ga_o2 (f := (fun a b => ((a).toUInt32 >>> ((b).toUInt32 &&& Int32.toUInt32 31)).toInt32)) (ga_sub e0 (ga_o2 (f := (fun a b => (a &&& b))) (ga_o2 (f := (fun a b => ((a).toUInt32 >>> ((b).toUInt32 &&& Int32.toUInt32 31)).toInt32)) e0 kg_1) kg_1431655765)) kg_2) kg_858993459)) kg_4)) kg_252645135) kg_8)) kg_16)) kg_63) es

/-! java/util/Arrays.fill([II)V -/
def gm_235_5 : Nat → Nat → Int → Int → Int → gx_S → Option (gx_S)
  | 0, _, _, _, _, _ => none
  | n + 1, x0, x1, x2, x3, s =>
    if (-2147483648 ≤ x2 ∧ x2 ≤ 2147483647) then (
    if (-2147483648 ≤ x3 ∧ x3 ≤ 2147483647) then (
    if x3 ≤ x2 then (
      some s) else (
      if gx_p x0 = true then (
      if 0 ≤ x2 ∧ x2 < ((fx_sh x0).2 : Int) then (
      gm_235_5 n x0 x1 (x2 + 1) x3 (gw1 s x0 (x2).toNat x1)) else none) else none)) else none) else none
theorem gf_235_5 : ∀ (n : Nat) (x0 : Nat) (x1 : Int) (yx1 : Int32) (e1 : yx1 = Int32.ofInt x1) (x2 : Int) (yx2 : Int32) (e2 : yx2 = Int32.ofInt x2) (x3 : Int) (yx3 : Int32) (e3 : yx3 = Int32.ofInt x3) (s : gx_S) (σ : fx_S) (es : σ = gx s) (q : gx_S), gm_235_5 n x0 x1 x2 x3 s = some q → fm_235_5 n x0 yx1 yx2 yx3 σ = some (gx q) := by
  intro n
  induction n with
  | zero =>
    intro x0 x1 yx1 e1 x2 yx2 e2 x3 yx3 e3 s σ es q  h
    rw [gm_235_5] at h
    exact fx_no h
  | succ n ih =>
    intro x0 x1 yx1 e1 x2 yx2 e2 x3 yx3 e3 s σ es q  h
    rw [gm_235_5] at h
    rw [fm_235_5]
    obtain ⟨z1, h⟩ := fx_gd h
    obtain ⟨z2, h⟩ := fx_gd h
    by_cases c3 : x3 ≤ x2
    · rw [if_pos c3] at h
      refine gb_t ((gc_le e3 e2 z2 z1).mpr c3) ?_
      have h := Option.some.inj h
      subst h
      exact gretv es
    · rw [if_neg c3] at h
      refine gb_f (fun q => c3 ((gc_le e3 e2 z2 z1).mp q)) ?_
      obtain ⟨z6, h⟩ := fx_gd h
      obtain ⟨z7, h⟩ := fx_gd h
      refine gb_bind (gl_st es e2 e1 z6 z7) ?_
      exact ih _ _ _ e1 _ _ (ga_add e2 kg_1) _ _ e3 _ _ (rfl : _ = gx (gw1 s x0 (x2).toNat x1)) _ h
def gm_235 (x0 : Nat) (x1 : Int) (s : gx_S) : Option (gx_S) :=
  if fx_ok (fx_sh x0).1 x0 0 = true ∧ fx_sh x0 = (0, (fx_sh x0).2) then (
  gm_235_5 100000 x0 x1 0 ((fx_sh x0).2 : Int) s) else none
theorem gf_235 {x0 : Nat} {x1 : Int} {yx1 : Int32} (e1 : yx1 = Int32.ofInt x1) {s : gx_S} {σ : fx_S} (es : σ = gx s) {q : gx_S} (h : gm_235 x0 x1 s = some q) : fm_235 x0 yx1 σ = some (gx q) := by
  unfold gm_235 at h
  unfold fm_235
  obtain ⟨z13, h⟩ := fx_gd h
  refine gb_t z13 ?_
  exact gf_235_5 100000 _ _ _ e1 _ _ kg_0 _ _ (gc_len x0) _ _ es _ h

/-! ZoneShares$CountsText.number(LZoneShares$Tape;)I -/
def gm_6_63 (x2 : Int) (s : gx_S) : Option (Int × gx_S) :=
  some (x2, s)
theorem gf_6_63 (x2 : Int) (yx2 : Int32) (e2 : yx2 = Int32.ofInt x2) (s : gx_S) (σ : fx_S) (es : σ = gx s) (q : Int × gx_S) (h : gm_6_63 x2 s = some q) : fm_6_63 yx2 σ = some (Int32.ofInt q.1, gx q.2) := by
  unfold gm_6_63 at h
  unfold fm_6_63
  have h := Option.some.inj h
  subst h
  exact gret e2 es
def gm_6_2 : Nat → Int → gx_S → Option (Int × gx_S)
  | 0, _, _ => none
  | n + 1, x2, s =>
    if (-2147483648 ≤ (s.1 60 2) ∧ (s.1 60 2) ≤ 2147483647) then (
    if (-2147483648 ≤ (s.1 14 1) ∧ (s.1 14 1) ≤ 2147483647) then (
    if (s.1 14 1) ≤ (s.1 60 2) then (
      gm_6_63 x2 s) else (
      (gm_83 (s.1 60 2) s).bind fun q5 =>
      (gm_8 q5.1 q5.2).bind fun q7 =>
      if (gb q7.1) = 0 then (
        gm_6_63 x2 q7.2) else (
        (gm_83 (q7.2.1 60 2) q7.2).bind fun q10 =>
        if (-2147483648 ≤ (((x2 * 10) + q10.1) - 48) ∧ (((x2 * 10) + q10.1) - 48) ≤ 2147483647) then (
        gm_6_2 n (if (((x2 * 10) + q10.1) - 48) < 10000 then (((x2 * 10) + q10.1) - 48) else 10000) (gw1 q10.2 60 2 ((q10.2.1 60 2) + 1))) else none))) else none) else none
theorem gf_6_2 : ∀ (n : Nat) (x2 : Int) (yx2 : Int32) (e2 : yx2 = Int32.ofInt x2) (s : gx_S) (σ : fx_S) (es : σ = gx s) (q : Int × gx_S), gm_6_2 n x2 s = some q → fm_6_2 n yx2 σ = some (Int32.ofInt q.1, gx q.2) := by
  intro n
  induction n with
  | zero =>
    intro x2 yx2 e2 s σ es q  h
    rw [gm_6_2] at h
    exact fx_no h
  | succ n ih =>
    intro x2 yx2 e2 s σ es q  h
    rw [gm_6_2] at h
    rw [fm_6_2]
    obtain ⟨z1, h⟩ := fx_gd h
    obtain ⟨z2, h⟩ := fx_gd h
    by_cases c3 : (s.1 14 1) ≤ (s.1 60 2)
    · rw [if_pos c3] at h
      refine gb_t ((gc_le (gf1 es 14 1) (gf1 es 60 2) z2 z1).mpr c3) ?_
      exact gf_6_63 _ _ e2 _ _ es _ h
    · rw [if_neg c3] at h
      refine gb_f (fun q => c3 ((gc_le (gf1 es 14 1) (gf1 es 60 2) z2 z1).mp q)) ?_
      obtain ⟨q5, w4, h⟩ := fx_bd h
      refine gb_bind (gf_83 (gf1 es 60 2) es w4) ?_
      obtain ⟨q7, w6, h⟩ := fx_bd h
      refine gb_bind (gf_8 (gr q5.1) (rfl : _ = gx q5.2) w6) ?_
      by_cases c8 : (gb q7.1) = 0
      · rw [if_pos c8] at h
        refine gb_t ((gc_eq (gb_b q7.1) kg_0 (gb_r _) (by decide)).mpr c8) ?_
        exact gf_6_63 _ _ e2 _ _ (rfl : _ = gx q7.2) _ h
      · rw [if_neg c8] at h
        refine gb_f (fun q => c8 ((gc_eq (gb_b q7.1) kg_0 (gb_r _) (by decide)).mp q)) ?_
        obtain ⟨q10, w9, h⟩ := fx_bd h
        refine gb_bind (gf_83 (gf1 (rfl : _ = gx q7.2) 60 2) (rfl : _ = gx q7.2) w9) ?_
        obtain ⟨z11, h⟩ := fx_gd h
        exact ih _ _ (ga_lt_ite kg_10000 (ga_sub (ga_add (ga_mul e2 kg_10) (gr q10.1)) kg_48) (by decide) z11) _ _ (gx_w1 (rfl : _ = gx q10.2) (ga_add (gf1 (rfl : _ = gx q10.2) 60 2) kg_1)) _ h
def gm_6 (s : gx_S) : Option (Int × gx_S) :=
  gm_6_2 100000 0 s
theorem gf_6 {s : gx_S} {σ : fx_S} (es : σ = gx s) {q : Int × gx_S} (h : gm_6 s = some q) : fm_6 σ = some (Int32.ofInt q.1, gx q.2) := by
  unfold gm_6 at h
  unfold fm_6
  exact gf_6_2 100000 _ _ kg_0 _ _ es _ h

/-! ZoneShares$Fitter.countCells(LZoneShares$State;I)V -/
def gm_11_63 (k_8 : Nat → Int → Int → Int → gx_S → Option (gx_S)) (x1 : Nat) (x2 : Int) (x3 : Int) (x4 : Int) (s : gx_S) : Option (gx_S) :=
  k_8 x1 x2 x3 (x4 + 1) s
theorem gf_11_63 {kf_8 : Nat → Int32 → Int32 → Int32 → fx_S → Option (fx_S)} {kg_8 : Nat → Int → Int → Int → gx_S → Option (gx_S)} (hk_8 : ∀ (x1 : Nat) (x2 : Int) (yx2 : Int32) (e2 : yx2 = Int32.ofInt x2) (x3 : Int) (yx3 : Int32) (e3 : yx3 = Int32.ofInt x3) (x4 : Int) (yx4 : Int32) (e4 : yx4 = Int32.ofInt x4) (s : gx_S) (σ : fx_S) (es : σ = gx s) (q : gx_S) (g1 : fx_oc x1 6 = true), kg_8 x1 x2 x3 x4 s = some q → kf_8 x1 yx2 yx3 yx4 σ = some (gx q)) (x1 : Nat) (x2 : Int) (yx2 : Int32) (e2 : yx2 = Int32.ofInt x2) (x3 : Int) (yx3 : Int32) (e3 : yx3 = Int32.ofInt x3) (x4 : Int) (yx4 : Int32) (e4 : yx4 = Int32.ofInt x4) (s : gx_S) (σ : fx_S) (es : σ = gx s) (q : gx_S) (g1 : fx_oc x1 6 = true) (h : gm_11_63 kg_8 x1 x2 x3 x4 s = some q) : fm_11_63 kf_8 x1 yx2 yx3 yx4 σ = some (gx q) := by
  unfold gm_11_63 at h
  unfold fm_11_63
  exact hk_8 _ _ _ e2 _ _ e3 _ _ (ga_add e4 kg_1) _ _ es _ g1 h
def gm_11_8 : Nat → Nat → Int → Int → Int → gx_S → Option (gx_S)
  | 0, _, _, _, _, _ => none
  | n + 1, x1, x2, x3, x4, s =>
    if (-2147483648 ≤ x4 ∧ x4 ≤ 2147483647) then (
    if (-2147483648 ≤ x3 ∧ x3 ≤ 2147483647) then (
    if x3 ≤ x4 then (
      some s) else (
      (gm_60 x1 0 x4 s).bind fun q5 =>
      if (-2147483648 ≤ q5.1 ∧ q5.1 ≤ 2147483647) then (
      if (-2147483648 ≤ x2 ∧ x2 ≤ 2147483647) then (
      if ¬ q5.1 = x2 then (
        gm_11_63 (gm_11_8 n) x1 x2 x3 x4 q5.2) else (
        (gm_60 x1 2 x4 q5.2).bind fun q10 =>
        if 0 ≤ (((q10.2.1 62 2) * 4) + q10.1) ∧ (((q10.2.1 62 2) * 4) + q10.1) < 32 then (
        if 0 ≤ q10.1 ∧ q10.1 < 4 then (
        gm_11_63 (gm_11_8 n) x1 x2 x3 x4 (gw1 (gw1 q10.2 65 ((((q10.2.1 62 2) * 4) + q10.1)).toNat ((q10.2.1 65 ((((q10.2.1 62 2) * 4) + q10.1)).toNat) + 1)) 66 (q10.1).toNat (((gw1 q10.2 65 ((((q10.2.1 62 2) * 4) + q10.1)).toNat ((q10.2.1 65 ((((q10.2.1 62 2) * 4) + q10.1)).toNat) + 1)).1 66 (q10.1).toNat) + 1))) else none) else none)) else none) else none)) else none) else none
theorem gf_11_8 : ∀ (n : Nat) (x1 : Nat) (x2 : Int) (yx2 : Int32) (e2 : yx2 = Int32.ofInt x2) (x3 : Int) (yx3 : Int32) (e3 : yx3 = Int32.ofInt x3) (x4 : Int) (yx4 : Int32) (e4 : yx4 = Int32.ofInt x4) (s : gx_S) (σ : fx_S) (es : σ = gx s) (q : gx_S) (g1 : fx_oc x1 6 = true), gm_11_8 n x1 x2 x3 x4 s = some q → fm_11_8 n x1 yx2 yx3 yx4 σ = some (gx q) := by
  intro n
  induction n with
  | zero =>
    intro x1 x2 yx2 e2 x3 yx3 e3 x4 yx4 e4 s σ es q g1 h
    rw [gm_11_8] at h
    exact fx_no h
  | succ n ih =>
    intro x1 x2 yx2 e2 x3 yx3 e3 x4 yx4 e4 s σ es q g1 h
    rw [gm_11_8] at h
    rw [fm_11_8]
    obtain ⟨z1, h⟩ := fx_gd h
    obtain ⟨z2, h⟩ := fx_gd h
    by_cases c3 : x3 ≤ x4
    · rw [if_pos c3] at h
      refine gb_t ((gc_le e3 e4 z2 z1).mpr c3) ?_
      have h := Option.some.inj h
      subst h
      exact gretv es
    · rw [if_neg c3] at h
      refine gb_f (fun q => c3 ((gc_le e3 e4 z2 z1).mp q)) ?_
      obtain ⟨q5, w4, h⟩ := fx_bd h
      refine gb_bind (gf_60 kg_0 e4 es w4) ?_
      obtain ⟨z6, h⟩ := fx_gd h
      obtain ⟨z7, h⟩ := fx_gd h
      by_cases c8 : ¬ q5.1 = x2
      · rw [if_pos c8] at h
        refine gb_t ((gc_ne (gr q5.1) e2 z6 z7).mpr c8) ?_
        exact gf_11_63 ih _ _ _ e2 _ _ e3 _ _ e4 _ _ (rfl : _ = gx q5.2) _ g1 h
      · rw [if_neg c8] at h
        refine gb_f (fun q => c8 ((gc_ne (gr q5.1) e2 z6 z7).mp q)) ?_
        obtain ⟨q10, w9, h⟩ := fx_bd h
        refine gb_bind (gf_60 kg_2 e4 (rfl : _ = gx q5.2) w9) ?_
        obtain ⟨z13, h⟩ := fx_gd h
        refine gb_bind (gl_ld (rfl : _ = gx q10.2) (ga_add (ga_mul (gf1 (rfl : _ = gx q10.2) 62 2) kg_4) (gr q10.1)) ga_65 z13) ?_
        refine gb_bind (gl_st (rfl : _ = gx q10.2) (ga_add (ga_mul (gf1 (rfl : _ = gx q10.2) 62 2) kg_4) (gr q10.1)) (ga_add (gr (q10.2.1 65 ((((q10.2.1 62 2) * 4) + q10.1)).toNat)) kg_1) ga_65 z13) ?_
        obtain ⟨z18, h⟩ := fx_gd h
        refine gb_bind (gl_ld (rfl : _ = gx (gw1 q10.2 65 ((((q10.2.1 62 2) * 4) + q10.1)).toNat ((q10.2.1 65 ((((q10.2.1 62 2) * 4) + q10.1)).toNat) + 1))) (gr q10.1) ga_66 z18) ?_
        refine gb_bind (gl_st (rfl : _ = gx (gw1 q10.2 65 ((((q10.2.1 62 2) * 4) + q10.1)).toNat ((q10.2.1 65 ((((q10.2.1 62 2) * 4) + q10.1)).toNat) + 1))) (gr q10.1) (ga_add (gr ((gw1 q10.2 65 ((((q10.2.1 62 2) * 4) + q10.1)).toNat ((q10.2.1 65 ((((q10.2.1 62 2) * 4) + q10.1)).toNat) + 1)).1 66 (q10.1).toNat)) kg_1) ga_66 z18) ?_
        exact gf_11_63 ih _ _ _ e2 _ _ e3 _ _ e4 _ _ (rfl : _ = gx (gw1 (gw1 q10.2 65 ((((q10.2.1 62 2) * 4) + q10.1)).toNat ((q10.2.1 65 ((((q10.2.1 62 2) * 4) + q10.1)).toNat) + 1)) 66 (q10.1).toNat (((gw1 q10.2 65 ((((q10.2.1 62 2) * 4) + q10.1)).toNat ((q10.2.1 65 ((((q10.2.1 62 2) * 4) + q10.1)).toNat) + 1)).1 66 (q10.1).toNat) + 1))) _ g1 h
def gm_11 (x1 : Nat) (x2 : Int) (s : gx_S) : Option (gx_S) :=
  if fx_oc x1 6 = true then (
  (gm_58 x1 s).bind fun q44 =>
  gm_11_8 100000 x1 x2 q44.1 0 q44.2) else none
theorem gf_11 {x1 : Nat} {x2 : Int} {yx2 : Int32} (e2 : yx2 = Int32.ofInt x2) {s : gx_S} {σ : fx_S} (es : σ = gx s) {q : gx_S} (h : gm_11 x1 x2 s = some q) : fm_11 x1 yx2 σ = some (gx q) := by
  unfold gm_11 at h
  unfold fm_11
  obtain ⟨gg, h⟩ := fx_gd h
  refine gb_t gg ?_
  have g1 := gg
  obtain ⟨q44, w43, h⟩ := fx_bd h
  refine gb_bind (gf_58 es w43) ?_
  exact gf_11_8 100000 _ _ _ e2 _ _ (gr q44.1) _ _ kg_0 _ _ (rfl : _ = gx q44.2) _ g1 h

/-! ZoneShares$Fitter.load([II)J -/
def gm_12_15 : Nat → Nat → Int → Int → gx_S → Option (Int × gx_S)
  | 0, _, _, _, _ => none
  | n + 1, x1, x2, x3, s =>
    if (-2147483648 ≤ x3 ∧ x3 ≤ 2147483647) then (
    if 4 ≤ x3 then (
      some ((s.2 62 8), s)) else (
      if gx_p x1 = true then (
      if 0 ≤ (x2 + x3) ∧ (x2 + x3) < ((fx_sh x1).2 : Int) then (
      (gm_13 x3 (s.1 x1 ((x2 + x3)).toNat) s).bind fun q8 =>
      gm_12_15 n x1 x2 (x3 + 1) q8) else none) else none)) else none
theorem gf_12_15 : ∀ (n : Nat) (x1 : Nat) (x2 : Int) (yx2 : Int32) (e2 : yx2 = Int32.ofInt x2) (x3 : Int) (yx3 : Int32) (e3 : yx3 = Int32.ofInt x3) (s : gx_S) (σ : fx_S) (es : σ = gx s) (q : Int × gx_S), gm_12_15 n x1 x2 x3 s = some q → fm_12_15 n x1 yx2 yx3 σ = some (Int64.ofInt q.1, gx q.2) := by
  intro n
  induction n with
  | zero =>
    intro x1 x2 yx2 e2 x3 yx3 e3 s σ es q  h
    rw [gm_12_15] at h
    exact fx_no h
  | succ n ih =>
    intro x1 x2 yx2 e2 x3 yx3 e3 s σ es q  h
    rw [gm_12_15] at h
    rw [fm_12_15]
    obtain ⟨z1, h⟩ := fx_gd h
    by_cases c2 : 4 ≤ x3
    · rw [if_pos c2] at h
      refine gb_t ((gc_le kg_4 e3 (by decide) z1).mpr c2) ?_
      have h := Option.some.inj h
      subst h
      exact gretl (gf2 es 62 8) es
    · rw [if_neg c2] at h
      refine gb_f (fun q => c2 ((gc_le kg_4 e3 (by decide) z1).mp q)) ?_
      obtain ⟨z5, h⟩ := fx_gd h
      obtain ⟨z6, h⟩ := fx_gd h
      refine gb_bind (gl_ld es (ga_add e2 e3) z5 z6) ?_
      obtain ⟨q8, w7, h⟩ := fx_bd h
      refine gb_bind (gf_13 e3 (gr (s.1 x1 ((x2 + x3)).toNat)) es w7) ?_
      exact ih _ _ _ e2 _ _ (ga_add e3 kg_1) _ _ (rfl : _ = gx q8) _ h
def gm_12 (x1 : Nat) (x2 : Int) (s : gx_S) : Option (Int × gx_S) :=
  (gm_235 68 0 s).bind fun q12 =>
  gm_12_15 100000 x1 x2 0 (gw2 q12 62 8 0)
theorem gf_12 {x1 : Nat} {x2 : Int} {yx2 : Int32} (e2 : yx2 = Int32.ofInt x2) {s : gx_S} {σ : fx_S} (es : σ = gx s) {q : Int × gx_S} (h : gm_12 x1 x2 s = some q) : fm_12 x1 yx2 σ = some (Int64.ofInt q.1, gx q.2) := by
  unfold gm_12 at h
  unfold fm_12
  obtain ⟨q12, w11, h⟩ := fx_bd h
  refine gb_bind (gf_235 kg_0 es w11) ?_
  exact gf_12_15 100000 _ _ _ e2 _ _ kg_0 _ _ (gx_w2 (rfl : _ = gx q12) kgl_0) _ h

/-! ZoneShares$Fitter.findBest()V -/
def gm_15_107 (k_80 : Int → Int → gx_S → Option (gx_S)) (x1 : Int) (x2 : Int) (s : gx_S) : Option (gx_S) :=
  (gm_17 s).bind fun q2 =>
  k_80 x1 (x2 + 1) q2
theorem gf_15_107 {kf_80 : Int32 → Int32 → fx_S → Option (fx_S)} {kg_80 : Int → Int → gx_S → Option (gx_S)} (hk_80 : ∀ (x1 : Int) (yx1 : Int32) (e1 : yx1 = Int32.ofInt x1) (x2 : Int) (yx2 : Int32) (e2 : yx2 = Int32.ofInt x2) (s : gx_S) (σ : fx_S) (es : σ = gx s) (q : gx_S), kg_80 x1 x2 s = some q → kf_80 yx1 yx2 σ = some (gx q)) (x1 : Int) (yx1 : Int32) (e1 : yx1 = Int32.ofInt x1) (x2 : Int) (yx2 : Int32) (e2 : yx2 = Int32.ofInt x2) (s : gx_S) (σ : fx_S) (es : σ = gx s) (q : gx_S) (h : gm_15_107 kg_80 x1 x2 s = some q) : fm_15_107 kf_80 yx1 yx2 σ = some (gx q) := by
  unfold gm_15_107 at h
  unfold fm_15_107
  obtain ⟨q2, w1, h⟩ := fx_bd h
  refine gb_bind (gf_17 es w1) ?_
  exact hk_80 _ _ e1 _ _ (ga_add e2 kg_1) _ _ (rfl : _ = gx q2) _ h
def gm_15_80 : Nat → Int → Int → gx_S → Option (gx_S)
  | 0, _, _, _ => none
  | n + 1, x1, x2, s =>
    if (-2147483648 ≤ x2 ∧ x2 ≤ 2147483647) then (
    if (-2147483648 ≤ x1 ∧ x1 ≤ 2147483647) then (
    if x1 ≤ x2 then (
      some s) else (
      if (-9223372036854775808 ≤ (s.2 62 9) ∧ (s.2 62 9) ≤ 9223372036854775807) then (
      if (s.2 62 9) ≤ 0 then (
        some s) else (
        if (-9223372036854775808 ≤ (s.2 62 8) ∧ (s.2 62 8) ≤ 9223372036854775807) then (
        if (s.2 62 8) ≤ 0 then (
          gm_15_107 (gm_15_80 n) x1 x2 s) else (
          (gm_16 s).bind fun q9 =>
          gm_15_107 (gm_15_80 n) x1 x2 q9)) else none)) else none)) else none) else none
theorem gf_15_80 : ∀ (n : Nat) (x1 : Int) (yx1 : Int32) (e1 : yx1 = Int32.ofInt x1) (x2 : Int) (yx2 : Int32) (e2 : yx2 = Int32.ofInt x2) (s : gx_S) (σ : fx_S) (es : σ = gx s) (q : gx_S), gm_15_80 n x1 x2 s = some q → fm_15_80 n yx1 yx2 σ = some (gx q) := by
  intro n
  induction n with
  | zero =>
    intro x1 yx1 e1 x2 yx2 e2 s σ es q  h
    rw [gm_15_80] at h
    exact fx_no h
  | succ n ih =>
    intro x1 yx1 e1 x2 yx2 e2 s σ es q  h
    rw [gm_15_80] at h
    rw [fm_15_80]
    obtain ⟨z1, h⟩ := fx_gd h
    obtain ⟨z2, h⟩ := fx_gd h
    by_cases c3 : x1 ≤ x2
    · rw [if_pos c3] at h
      refine gb_t ((gc_le e1 e2 z2 z1).mpr c3) ?_
      have h := Option.some.inj h
      subst h
      exact gretv es
    · rw [if_neg c3] at h
      refine gb_f (fun q => c3 ((gc_le e1 e2 z2 z1).mp q)) ?_
      obtain ⟨z4, h⟩ := fx_gd h
      by_cases c5 : (s.2 62 9) ≤ 0
      · rw [if_pos c5] at h
        refine gb_t ((gcl_le (gf2 es 62 9) kgl_0 z4 (by decide)).mpr c5) ?_
        have h := Option.some.inj h
        subst h
        exact gretv es
      · rw [if_neg c5] at h
        refine gb_f (fun q => c5 ((gcl_le (gf2 es 62 9) kgl_0 z4 (by decide)).mp q)) ?_
        obtain ⟨z6, h⟩ := fx_gd h
        by_cases c7 : (s.2 62 8) ≤ 0
        · rw [if_pos c7] at h
          refine gb_t ((gcl_le (gf2 es 62 8) kgl_0 z6 (by decide)).mpr c7) ?_
          exact gf_15_107 ih _ _ e1 _ _ e2 _ _ es _ h
        · rw [if_neg c7] at h
          refine gb_f (fun q => c7 ((gcl_le (gf2 es 62 8) kgl_0 z6 (by decide)).mp q)) ?_
          obtain ⟨q9, w8, h⟩ := fx_bd h
          refine gb_bind (gf_16 es w8) ?_
          exact gf_15_107 ih _ _ e1 _ _ e2 _ _ (rfl : _ = gx q9) _ h
def gm_15_51 (k_4 : Int → Int → gx_S → Option (gx_S)) (x1 : Int) (x2 : Int) (s1 : Int) (s2 : Int) (s : gx_S) : Option (gx_S) :=
  if 0 ≤ s1 ∧ s1 < 4 then (
  k_4 x1 (x2 + 1) (gw1 s 67 (s1).toNat s2)) else none
theorem gf_15_51 {kf_4 : Int32 → Int32 → fx_S → Option (fx_S)} {kg_4 : Int → Int → gx_S → Option (gx_S)} (hk_4 : ∀ (x1 : Int) (yx1 : Int32) (e1 : yx1 = Int32.ofInt x1) (x2 : Int) (yx2 : Int32) (e2 : yx2 = Int32.ofInt x2) (s : gx_S) (σ : fx_S) (es : σ = gx s) (q : gx_S), kg_4 x1 x2 s = some q → kf_4 yx1 yx2 σ = some (gx q)) (x1 : Int) (yx1 : Int32) (e1 : yx1 = Int32.ofInt x1) (x2 : Int) (yx2 : Int32) (e2 : yx2 = Int32.ofInt x2) (s1 : Int) (ys1 : Int32) (es1 : ys1 = Int32.ofInt s1) (s2 : Int) (ys2 : Int32) (es2 : ys2 = Int32.ofInt s2) (s : gx_S) (σ : fx_S) (es : σ = gx s) (q : gx_S) (h : gm_15_51 kg_4 x1 x2 s1 s2 s = some q) : fm_15_51 kf_4 yx1 yx2 ys1 ys2 σ = some (gx q) := by
  unfold gm_15_51 at h
  unfold fm_15_51
  obtain ⟨z3, h⟩ := fx_gd h
  refine gb_bind (gl_st es es1 es2 ga_67 z3) ?_
  exact hk_4 _ _ e1 _ _ (ga_add e2 kg_1) _ _ (rfl : _ = gx (gw1 s 67 (s1).toNat s2)) _ h
def gm_15_25 (k_4 : Int → Int → gx_S → Option (gx_S)) (x2 : Int) (s0 : Int) (s1 : Int) (s : gx_S) : Option (gx_S) :=
  if 0 ≤ x2 ∧ x2 < 4 then (
  if (-2147483648 ≤ (s.1 66 (x2).toNat) ∧ (s.1 66 (x2).toNat) ≤ 2147483647) then (
  if (s.1 66 (x2).toNat) ≤ 0 then (
    gm_15_51 k_4 (s0 * s1) x2 x2 (s.1 63 (x2).toNat) s) else (
    gm_15_51 k_4 (s0 * s1) x2 x2 0 s)) else none) else none
theorem gf_15_25 {kf_4 : Int32 → Int32 → fx_S → Option (fx_S)} {kg_4 : Int → Int → gx_S → Option (gx_S)} (hk_4 : ∀ (x1 : Int) (yx1 : Int32) (e1 : yx1 = Int32.ofInt x1) (x2 : Int) (yx2 : Int32) (e2 : yx2 = Int32.ofInt x2) (s : gx_S) (σ : fx_S) (es : σ = gx s) (q : gx_S), kg_4 x1 x2 s = some q → kf_4 yx1 yx2 σ = some (gx q)) (x2 : Int) (yx2 : Int32) (e2 : yx2 = Int32.ofInt x2) (s0 : Int) (ys0 : Int32) (es0 : ys0 = Int32.ofInt s0) (s1 : Int) (ys1 : Int32) (es1 : ys1 = Int32.ofInt s1) (s : gx_S) (σ : fx_S) (es : σ = gx s) (q : gx_S) (h : gm_15_25 kg_4 x2 s0 s1 s = some q) : fm_15_25 kf_4 yx2 ys0 ys1 σ = some (gx q) := by
  unfold gm_15_25 at h
  unfold fm_15_25
  obtain ⟨z3, h⟩ := fx_gd h
  refine gb_bind (gl_ld es e2 ga_66 z3) ?_
  obtain ⟨z4, h⟩ := fx_gd h
  by_cases c5 : (s.1 66 (x2).toNat) ≤ 0
  · rw [if_pos c5] at h
    refine gb_t ((gc_le (gr (s.1 66 (x2).toNat)) kg_0 z4 (by decide)).mpr c5) ?_
    refine gb_bind (gl_ld es e2 ga_63 z3) ?_
    exact gf_15_51 hk_4 _ _ (ga_mul es0 es1) _ _ e2 _ _ e2 _ _ (gr (s.1 63 (x2).toNat)) _ _ es _ h
  · rw [if_neg c5] at h
    refine gb_f (fun q => c5 ((gc_le (gr (s.1 66 (x2).toNat)) kg_0 z4 (by decide)).mp q)) ?_
    exact gf_15_51 hk_4 _ _ (ga_mul es0 es1) _ _ e2 _ _ e2 _ _ kg_0 _ _ es _ h
def gm_15_4 : Nat → Int → Int → gx_S → Option (gx_S)
  | 0, _, _, _ => none
  | n + 1, x1, x2, s =>
    if (-2147483648 ≤ x2 ∧ x2 ≤ 2147483647) then (
    if 4 ≤ x2 then (
      (gm_12 67 0 s).bind fun q4 =>
      gm_15_80 100000 x1 0 (gw2 (gw2 q4.2 62 10 0) 62 9 1)) else (
      if 0 ≤ x2 ∧ x2 < 4 then (
      if (-2147483648 ≤ (s.1 66 (x2).toNat) ∧ (s.1 66 (x2).toNat) ≤ 2147483647) then (
      if (s.1 66 (x2).toNat) ≤ 0 then (
        gm_15_25 (gm_15_4 n) x2 x1 1 s) else (
        gm_15_25 (gm_15_4 n) x2 x1 10 s)) else none) else none)) else none
theorem gf_15_4 : ∀ (n : Nat) (x1 : Int) (yx1 : Int32) (e1 : yx1 = Int32.ofInt x1) (x2 : Int) (yx2 : Int32) (e2 : yx2 = Int32.ofInt x2) (s : gx_S) (σ : fx_S) (es : σ = gx s) (q : gx_S), gm_15_4 n x1 x2 s = some q → fm_15_4 n yx1 yx2 σ = some (gx q) := by
  intro n
  induction n with
  | zero =>
    intro x1 yx1 e1 x2 yx2 e2 s σ es q  h
    rw [gm_15_4] at h
    exact fx_no h
  | succ n ih =>
    intro x1 yx1 e1 x2 yx2 e2 s σ es q  h
    rw [gm_15_4] at h
    rw [fm_15_4]
    obtain ⟨z1, h⟩ := fx_gd h
    by_cases c2 : 4 ≤ x2
    · rw [if_pos c2] at h
      refine gb_t ((gc_le kg_4 e2 (by decide) z1).mpr c2) ?_
      obtain ⟨q4, w3, h⟩ := fx_bd h
      refine gb_bind (gf_12 kg_0 es w3) ?_
      exact gf_15_80 100000 _ _ e1 _ _ kg_0 _ _ (gx_w2 (gx_w2 (rfl : _ = gx q4.2) kgl_0) kgl_1) _ h
    · rw [if_neg c2] at h
      refine gb_f (fun q => c2 ((gc_le kg_4 e2 (by decide) z1).mp q)) ?_
      obtain ⟨z7, h⟩ := fx_gd h
      refine gb_bind (gl_ld es e2 ga_66 z7) ?_
      obtain ⟨z8, h⟩ := fx_gd h
      by_cases c9 : (s.1 66 (x2).toNat) ≤ 0
      · rw [if_pos c9] at h
        refine gb_t ((gc_le (gr (s.1 66 (x2).toNat)) kg_0 z8 (by decide)).mpr c9) ?_
        exact gf_15_25 ih _ _ e2 _ _ e1 _ _ kg_1 _ _ es _ h
      · rw [if_neg c9] at h
        refine gb_f (fun q => c9 ((gc_le (gr (s.1 66 (x2).toNat)) kg_0 z8 (by decide)).mp q)) ?_
        exact gf_15_25 ih _ _ e2 _ _ e1 _ _ kg_10 _ _ es _ h
def gm_15 (s : gx_S) : Option (gx_S) :=
  gm_15_4 100000 1 0 s
theorem gf_15 {s : gx_S} {σ : fx_S} (es : σ = gx s) {q : gx_S} (h : gm_15 s = some q) : fm_15 σ = some (gx q) := by
  unfold gm_15 at h
  unfold fm_15
  exact gf_15_4 100000 _ _ kg_1 _ _ kg_0 _ _ es _ h

/-! ZoneShares$Group.topOf(I)I -/
def gm_27_47 (x0 : Nat) (x2 : Int) (s0 : Int) (s : gx_S) : Option (Int × gx_S) :=
  if 0 ≤ x2 ∧ x2 < 8 then (
  some (((s.1 (x0 + 1) (x2).toNat) * s0), s)) else none
theorem gf_27_47 (x0 : Nat) (x2 : Int) (yx2 : Int32) (e2 : yx2 = Int32.ofInt x2) (s0 : Int) (ys0 : Int32) (es0 : ys0 = Int32.ofInt s0) (s : gx_S) (σ : fx_S) (es : σ = gx s) (q : Int × gx_S) (g0 : fx_oc x0 2 = true) (h : gm_27_47 x0 x2 s0 s = some q) : fm_27_47 x0 yx2 ys0 σ = some (Int32.ofInt q.1, gx q.2) := by
  unfold gm_27_47 at h
  unfold fm_27_47
  obtain ⟨z3, h⟩ := fx_gd h
  refine gb_bind (gl_ld es e2 (ga_2_0 g0) z3) ?_
  have h := Option.some.inj h
  subst h
  exact gret (ga_mul (gr (s.1 (x0 + 1) (x2).toNat)) es0) es
def gm_27 (x0 : Nat) (x1 : Int) (s : gx_S) : Option (Int × gx_S) :=
  if fx_oc x0 2 = true then (
  (gm_60 1 0 x1 s).bind fun q16 =>
  if (-2147483648 ≤ q16.1 ∧ q16.1 ≤ 2147483647) then (
  if q16.1 < 8 then (
    if 0 ≤ q16.1 ∧ q16.1 < 8 then (
    if (-2147483648 ≤ (q16.2.1 ((x0 + 3) + 3) (q16.1).toNat) ∧ (q16.2.1 ((x0 + 3) + 3) (q16.1).toNat) ≤ 2147483647) then (
    if ¬ (q16.2.1 ((x0 + 3) + 3) (q16.1).toNat) = 1 then (
      (gm_61 1 (q16.2.1 x0 9) x1 q16.2).bind fun q25 =>
      gm_27_47 x0 q16.1 q25.1 q25.2) else (
      gm_27_47 x0 q16.1 1 q16.2)) else none) else none) else (
    some (0, q16.2))) else none) else none
theorem gf_27 {x0 : Nat} {x1 : Int} {yx1 : Int32} (e1 : yx1 = Int32.ofInt x1) {s : gx_S} {σ : fx_S} (es : σ = gx s) {q : Int × gx_S} (h : gm_27 x0 x1 s = some q) : fm_27 x0 yx1 σ = some (Int32.ofInt q.1, gx q.2) := by
  unfold gm_27 at h
  unfold fm_27
  obtain ⟨gg, h⟩ := fx_gd h
  refine gb_t gg ?_
  have g0 := gg
  obtain ⟨q16, w15, h⟩ := fx_bd h
  refine gb_bind (gf_60 kg_0 e1 es w15) ?_
  obtain ⟨z17, h⟩ := fx_gd h
  by_cases c18 : q16.1 < 8
  · rw [if_pos c18] at h
    refine gb_t ((gc_lt (gr q16.1) kg_8 z17 (by decide)).mpr c18) ?_
    obtain ⟨z21, h⟩ := fx_gd h
    refine gb_bind (gl_ld (rfl : _ = gx q16.2) (gr q16.1) (ga_7_2 (fg_2_2 g0)) z21) ?_
    obtain ⟨z22, h⟩ := fx_gd h
    by_cases c23 : ¬ (q16.2.1 ((x0 + 3) + 3) (q16.1).toNat) = 1
    · rw [if_pos c23] at h
      refine gb_t ((gc_ne (gr (q16.2.1 ((x0 + 3) + 3) (q16.1).toNat)) kg_1 z22 (by decide)).mpr c23) ?_
      obtain ⟨q25, w24, h⟩ := fx_bd h
      refine gb_bind (gf_61 (gf1 (rfl : _ = gx q16.2) x0 9) e1 (rfl : _ = gx q16.2) w24) ?_
      exact gf_27_47 _ _ _ (gr q16.1) _ _ (gr q25.1) _ _ (rfl : _ = gx q25.2) _ g0 h
    · rw [if_neg c23] at h
      refine gb_f (fun q => c23 ((gc_ne (gr (q16.2.1 ((x0 + 3) + 3) (q16.1).toNat)) kg_1 z22 (by decide)).mp q)) ?_
      exact gf_27_47 _ _ _ (gr q16.1) _ _ kg_1 _ _ (rfl : _ = gx q16.2) _ g0 h
  · rw [if_neg c18] at h
    refine gb_f (fun q => c18 ((gc_lt (gr q16.1) kg_8 z17 (by decide)).mp q)) ?_
    have h := Option.some.inj h
    subst h
    exact gret kg_0 (rfl : _ = gx q16.2)

/-! ZoneShares$Group.underOf(I)I -/
def gm_28 (x0 : Nat) (x1 : Int) (s : gx_S) : Option (Int × gx_S) :=
  if fx_oc x0 2 = true then (
  (gm_60 1 0 x1 s).bind fun q9 =>
  if (-2147483648 ≤ q9.1 ∧ q9.1 ≤ 2147483647) then (
  if 8 ≤ q9.1 then (
    some (1, q9.2)) else (
    if 0 ≤ q9.1 ∧ q9.1 < 8 then (
    some ((q9.2.1 ((x0 + 3) + 2) (q9.1).toNat), q9.2)) else none)) else none) else none
theorem gf_28 {x0 : Nat} {x1 : Int} {yx1 : Int32} (e1 : yx1 = Int32.ofInt x1) {s : gx_S} {σ : fx_S} (es : σ = gx s) {q : Int × gx_S} (h : gm_28 x0 x1 s = some q) : fm_28 x0 yx1 σ = some (Int32.ofInt q.1, gx q.2) := by
  unfold gm_28 at h
  unfold fm_28
  obtain ⟨gg, h⟩ := fx_gd h
  refine gb_t gg ?_
  have g0 := gg
  obtain ⟨q9, w8, h⟩ := fx_bd h
  refine gb_bind (gf_60 kg_0 e1 es w8) ?_
  obtain ⟨z10, h⟩ := fx_gd h
  by_cases c11 : 8 ≤ q9.1
  · rw [if_pos c11] at h
    refine gb_t ((gc_le kg_8 (gr q9.1) (by decide) z10).mpr c11) ?_
    have h := Option.some.inj h
    subst h
    exact gret kg_1 (rfl : _ = gx q9.2)
  · rw [if_neg c11] at h
    refine gb_f (fun q => c11 ((gc_le kg_8 (gr q9.1) (by decide) z10).mp q)) ?_
    obtain ⟨z14, h⟩ := fx_gd h
    refine gb_bind (gl_ld (rfl : _ = gx q9.2) (gr q9.1) (ga_7_1 (fg_2_2 g0)) z14) ?_
    have h := Option.some.inj h
    subst h
    exact gret (gr (q9.2.1 ((x0 + 3) + 2) (q9.1).toNat)) (rfl : _ = gx q9.2)

/-! ZoneShares$Group.sortCells()V -/
def gm_29_97 (k_10 : Nat → Int → Int → gx_S → Option (gx_S)) (x0 : Nat) (x1 : Int) (x2 : Int) (x7 : Int) (s : gx_S) : Option (gx_S) :=
  if 0 ≤ x7 ∧ x7 < 96 then (
  k_10 x0 x1 (x2 + 1) (gw1 s (x0 + 2) (x7).toNat x2)) else none
theorem gf_29_97 {kf_10 : Nat → Int32 → Int32 → fx_S → Option (fx_S)} {kg_10 : Nat → Int → Int → gx_S → Option (gx_S)} (hk_10 : ∀ (x0 : Nat) (x1 : Int) (yx1 : Int32) (e1 : yx1 = Int32.ofInt x1) (x2 : Int) (yx2 : Int32) (e2 : yx2 = Int32.ofInt x2) (s : gx_S) (σ : fx_S) (es : σ = gx s) (q : gx_S) (g0 : fx_oc x0 2 = true), kg_10 x0 x1 x2 s = some q → kf_10 x0 yx1 yx2 σ = some (gx q)) (x0 : Nat) (x1 : Int) (yx1 : Int32) (e1 : yx1 = Int32.ofInt x1) (x2 : Int) (yx2 : Int32) (e2 : yx2 = Int32.ofInt x2) (x7 : Int) (yx7 : Int32) (e7 : yx7 = Int32.ofInt x7) (s : gx_S) (σ : fx_S) (es : σ = gx s) (q : gx_S) (g0 : fx_oc x0 2 = true) (h : gm_29_97 kg_10 x0 x1 x2 x7 s = some q) : fm_29_97 kf_10 x0 yx1 yx2 yx7 σ = some (gx q) := by
  unfold gm_29_97 at h
  unfold fm_29_97
  obtain ⟨z3, h⟩ := fx_gd h
  refine gb_bind (gl_st es e7 e2 (ga_2_1 g0) z3) ?_
  exact hk_10 _ _ _ e1 _ _ (ga_add e2 kg_1) _ _ (rfl : _ = gx (gw1 s (x0 + 2) (x7).toNat x2)) _ g0 h
def gm_29_33 (k_10 : Nat → Int → Int → gx_S → Option (gx_S)) : Nat → Nat → Int → Int → Int → Int → Int → gx_S → Option (gx_S)
  | 0, _, _, _, _, _, _, _ => none
  | n + 1, x0, x1, x2, x3, x5, x7, s =>
    if (-2147483648 ≤ x7 ∧ x7 ≤ 2147483647) then (
    if x7 ≤ 0 then (
      gm_29_97 k_10 x0 x1 x2 x7 s) else (
      if 0 ≤ (x7 - 1) ∧ (x7 - 1) < 96 then (
      (gm_28 x0 (s.1 (x0 + 2) ((x7 - 1)).toNat) s).bind fun q7 =>
      if (-2147483648 ≤ q7.1 ∧ q7.1 ≤ 2147483647) then (
      (gm_27 x0 (q7.2.1 (x0 + 2) ((x7 - 1)).toNat) q7.2).bind fun q12 =>
      if (-2147483648 ≤ q12.1 ∧ q12.1 ≤ 2147483647) then (
      if (-9223372036854775808 ≤ (x3 * q7.1) ∧ (x3 * q7.1) ≤ 9223372036854775807) then (
      if (-9223372036854775808 ≤ (q12.1 * x5) ∧ (q12.1 * x5) ≤ 9223372036854775807) then (
      if (x3 * q7.1) ≤ (q12.1 * x5) then (
        gm_29_97 k_10 x0 x1 x2 x7 q12.2) else (
        if 0 ≤ x7 ∧ x7 < 96 then (
        gm_29_33 k_10 n x0 x1 x2 x3 x5 (x7 + (-1)) (gw1 q12.2 (x0 + 2) (x7).toNat (q12.2.1 (x0 + 2) ((x7 - 1)).toNat))) else none)) else none) else none) else none) else none) else none)) else none
theorem gf_29_33 {kf_10 : Nat → Int32 → Int32 → fx_S → Option (fx_S)} {kg_10 : Nat → Int → Int → gx_S → Option (gx_S)} (hk_10 : ∀ (x0 : Nat) (x1 : Int) (yx1 : Int32) (e1 : yx1 = Int32.ofInt x1) (x2 : Int) (yx2 : Int32) (e2 : yx2 = Int32.ofInt x2) (s : gx_S) (σ : fx_S) (es : σ = gx s) (q : gx_S) (g0 : fx_oc x0 2 = true), kg_10 x0 x1 x2 s = some q → kf_10 x0 yx1 yx2 σ = some (gx q)) : ∀ (n : Nat) (x0 : Nat) (x1 : Int) (yx1 : Int32) (e1 : yx1 = Int32.ofInt x1) (x2 : Int) (yx2 : Int32) (e2 : yx2 = Int32.ofInt x2) (x3 : Int) (yx3 : Int64) (e3 : yx3 = Int64.ofInt x3) (x5 : Int) (yx5 : Int64) (e5 : yx5 = Int64.ofInt x5) (x7 : Int) (yx7 : Int32) (e7 : yx7 = Int32.ofInt x7) (s : gx_S) (σ : fx_S) (es : σ = gx s) (q : gx_S) (g0 : fx_oc x0 2 = true), gm_29_33 kg_10 n x0 x1 x2 x3 x5 x7 s = some q → fm_29_33 kf_10 n x0 yx1 yx2 yx3 yx5 yx7 σ = some (gx q) := by
  intro n
  induction n with
  | zero =>
    intro x0 x1 yx1 e1 x2 yx2 e2 x3 yx3 e3 x5 yx5 e5 x7 yx7 e7 s σ es q g0 h
    rw [gm_29_33] at h
    exact fx_no h
  | succ n ih =>
    intro x0 x1 yx1 e1 x2 yx2 e2 x3 yx3 e3 x5 yx5 e5 x7 yx7 e7 s σ es q g0 h
    rw [gm_29_33] at h
    rw [fm_29_33]
    obtain ⟨z1, h⟩ := fx_gd h
    by_cases c2 : x7 ≤ 0
    · rw [if_pos c2] at h
      refine gb_t ((gc_le e7 kg_0 z1 (by decide)).mpr c2) ?_
      exact gf_29_97 hk_10 _ _ _ e1 _ _ e2 _ _ e7 _ _ es _ g0 h
    · rw [if_neg c2] at h
      refine gb_f (fun q => c2 ((gc_le e7 kg_0 z1 (by decide)).mp q)) ?_
      obtain ⟨z5, h⟩ := fx_gd h
      refine gb_bind (gl_ld es (ga_sub e7 kg_1) (ga_2_1 g0) z5) ?_
      obtain ⟨q7, w6, h⟩ := fx_bd h
      refine gb_bind (gf_28 (gr (s.1 (x0 + 2) ((x7 - 1)).toNat)) es w6) ?_
      obtain ⟨z8, h⟩ := fx_gd h
      refine gb_bind (gl_ld (rfl : _ = gx q7.2) (ga_sub e7 kg_1) (ga_2_1 g0) z5) ?_
      obtain ⟨q12, w11, h⟩ := fx_bd h
      refine gb_bind (gf_27 (gr (q7.2.1 (x0 + 2) ((x7 - 1)).toNat)) (rfl : _ = gx q7.2) w11) ?_
      obtain ⟨z13, h⟩ := fx_gd h
      obtain ⟨z14, h⟩ := fx_gd h
      obtain ⟨z15, h⟩ := fx_gd h
      by_cases c16 : (x3 * q7.1) ≤ (q12.1 * x5)
      · rw [if_pos c16] at h
        refine gb_t ((gcl_le (gal_mul e3 (ga_i2l (gr q7.1) z8)) (gal_mul (ga_i2l (gr q12.1) z13) e5) z14 z15).mpr c16) ?_
        exact gf_29_97 hk_10 _ _ _ e1 _ _ e2 _ _ e7 _ _ (rfl : _ = gx q12.2) _ g0 h
      · rw [if_neg c16] at h
        refine gb_f (fun q => c16 ((gcl_le (gal_mul e3 (ga_i2l (gr q7.1) z8)) (gal_mul (ga_i2l (gr q12.1) z13) e5) z14 z15).mp q)) ?_
        refine gb_bind (gl_ld (rfl : _ = gx q12.2) (ga_sub e7 kg_1) (ga_2_1 g0) z5) ?_
        obtain ⟨z21, h⟩ := fx_gd h
        refine gb_bind (gl_st (rfl : _ = gx q12.2) e7 (gr (q12.2.1 (x0 + 2) ((x7 - 1)).toNat)) (ga_2_1 g0) z21) ?_
        exact ih _ _ _ e1 _ _ e2 _ _ e3 _ _ e5 _ _ (ga_add e7 kg_m1) _ _ (rfl : _ = gx (gw1 q12.2 (x0 + 2) (x7).toNat (q12.2.1 (x0 + 2) ((x7 - 1)).toNat))) _ g0 h
def gm_29_10 : Nat → Nat → Int → Int → gx_S → Option (gx_S)
  | 0, _, _, _, _ => none
  | n + 1, x0, x1, x2, s =>
    if (-2147483648 ≤ x2 ∧ x2 ≤ 2147483647) then (
    if (-2147483648 ≤ x1 ∧ x1 ≤ 2147483647) then (
    if x1 ≤ x2 then (
      some s) else (
      (gm_27 x0 x2 s).bind fun q5 =>
      if (-2147483648 ≤ q5.1 ∧ q5.1 ≤ 2147483647) then (
      (gm_28 x0 x2 q5.2).bind fun q8 =>
      if (-2147483648 ≤ q8.1 ∧ q8.1 ≤ 2147483647) then (
      gm_29_33 (gm_29_10 n) 100000 x0 x1 x2 q5.1 q8.1 x2 q8.2) else none) else none)) else none) else none
theorem gf_29_10 : ∀ (n : Nat) (x0 : Nat) (x1 : Int) (yx1 : Int32) (e1 : yx1 = Int32.ofInt x1) (x2 : Int) (yx2 : Int32) (e2 : yx2 = Int32.ofInt x2) (s : gx_S) (σ : fx_S) (es : σ = gx s) (q : gx_S) (g0 : fx_oc x0 2 = true), gm_29_10 n x0 x1 x2 s = some q → fm_29_10 n x0 yx1 yx2 σ = some (gx q) := by
  intro n
  induction n with
  | zero =>
    intro x0 x1 yx1 e1 x2 yx2 e2 s σ es q g0 h
    rw [gm_29_10] at h
    exact fx_no h
  | succ n ih =>
    intro x0 x1 yx1 e1 x2 yx2 e2 s σ es q g0 h
    rw [gm_29_10] at h
    rw [fm_29_10]
    obtain ⟨z1, h⟩ := fx_gd h
    obtain ⟨z2, h⟩ := fx_gd h
    by_cases c3 : x1 ≤ x2
    · rw [if_pos c3] at h
      refine gb_t ((gc_le e1 e2 z2 z1).mpr c3) ?_
      have h := Option.some.inj h
      subst h
      exact gretv es
    · rw [if_neg c3] at h
      refine gb_f (fun q => c3 ((gc_le e1 e2 z2 z1).mp q)) ?_
      obtain ⟨q5, w4, h⟩ := fx_bd h
      refine gb_bind (gf_27 e2 es w4) ?_
      obtain ⟨z6, h⟩ := fx_gd h
      obtain ⟨q8, w7, h⟩ := fx_bd h
      refine gb_bind (gf_28 e2 (rfl : _ = gx q5.2) w7) ?_
      obtain ⟨z9, h⟩ := fx_gd h
      exact gf_29_33 ih 100000 _ _ _ e1 _ _ e2 _ _ (ga_i2l (gr q5.1) z6) _ _ (ga_i2l (gr q8.1) z9) _ _ e2 _ _ (rfl : _ = gx q8.2) _ g0 h
def gm_29 (x0 : Nat) (s : gx_S) : Option (gx_S) :=
  if fx_oc x0 2 = true then (
  (gm_58 1 s).bind fun q46 =>
  gm_29_10 100000 x0 q46.1 0 q46.2) else none
theorem gf_29 {x0 : Nat} {s : gx_S} {σ : fx_S} (es : σ = gx s) {q : gx_S} (h : gm_29 x0 s = some q) : fm_29 x0 σ = some (gx q) := by
  unfold gm_29 at h
  unfold fm_29
  obtain ⟨gg, h⟩ := fx_gd h
  refine gb_t gg ?_
  have g0 := gg
  obtain ⟨q46, w45, h⟩ := fx_bd h
  refine gb_bind (gf_58 es w45) ?_
  exact gf_29_10 100000 _ _ _ (gr q46.1) _ _ kg_0 _ _ (rfl : _ = gx q46.2) _ g0 h

/-! ZoneShares$History.keep(LZoneShares$State;)V -/
def gm_31 (x1 : Nat) (s : gx_S) : Option (gx_S) :=
  if fx_oc x1 6 = true then (
  if 0 ≤ (s.1 16 1) ∧ (s.1 16 1) < 8 then (
  (some (fx_rf 17 ((s.1 16 1)).toNat)).bind fun v9 =>
  (gm_54 v9 x1 s).bind fun q14 =>
  if 0 ≤ ((q14.1 16 1) + 1) ∧ ((q14.1 16 1) + 1) ≤ 2147483647 then (
  if (-2147483648 ≤ (((gw1 q14 16 1 (((q14.1 16 1) + 1) % 8)).1 16 2) + 1) ∧ (((gw1 q14 16 1 (((q14.1 16 1) + 1) % 8)).1 16 2) + 1) ≤ 2147483647) then (
  some (gw1 (gw1 q14 16 1 (((q14.1 16 1) + 1) % 8)) 16 2 (if (((gw1 q14 16 1 (((q14.1 16 1) + 1) % 8)).1 16 2) + 1) < 8 then (((gw1 q14 16 1 (((q14.1 16 1) + 1) % 8)).1 16 2) + 1) else 8))) else none) else none) else none) else none
theorem gf_31 {x1 : Nat} {s : gx_S} {σ : fx_S} (es : σ = gx s) {q : gx_S} (h : gm_31 x1 s = some q) : fm_31 x1 σ = some (gx q) := by
  unfold gm_31 at h
  unfold fm_31
  obtain ⟨gg, h⟩ := fx_gd h
  refine gb_t gg ?_
  have g1 := gg
  obtain ⟨z12, h⟩ := fx_gd h
  obtain ⟨v9, w10, h⟩ := fx_bd h
  have g11 := fa_17 ((gl_ldr (t := 5) (gf1 es 16 1) ga_17 z12).trans w10)
  refine gb_bind ((gl_ldr (gf1 es 16 1) ga_17 z12).trans w10) ?_
  obtain ⟨q14, w13, h⟩ := fx_bd h
  refine gb_bind (gf_54 es w13) ?_
  obtain ⟨z15, h⟩ := fx_gd h
  obtain ⟨z16, h⟩ := fx_gd h
  have h := Option.some.inj h
  subst h
  exact gretv (gx_w1 (gx_w1 (rfl : _ = gx q14) (ga_rem (ga_add (gf1 (rfl : _ = gx q14) 16 1) kg_1) kg_8 ⟨z15.1, z15.2, by decide, by decide⟩)) (ga_lt_ite kg_8 (ga_add (gf1 (gx_w1 (rfl : _ = gx q14) (ga_rem (ga_add (gf1 (rfl : _ = gx q14) 16 1) kg_1) kg_8 ⟨z15.1, z15.2, by decide, by decide⟩)) 16 2) kg_1) (by decide) z16))

/-! ZoneShares$History.bringBack(LZoneShares$State;)V -/
def gm_32 (x1 : Nat) (s : gx_S) : Option (gx_S) :=
  if fx_oc x1 6 = true then (
  if 0 ≤ (((s.1 16 1) + 8) - 1) ∧ (((s.1 16 1) + 8) - 1) ≤ 2147483647 then (
  if 0 ≤ ((gw1 s 16 1 ((((s.1 16 1) + 8) - 1) % 8)).1 16 1) ∧ ((gw1 s 16 1 ((((s.1 16 1) + 8) - 1) % 8)).1 16 1) < 8 then (
  (some (fx_rf 17 (((gw1 s 16 1 ((((s.1 16 1) + 8) - 1) % 8)).1 16 1)).toNat)).bind fun v9 =>
  (gm_54 x1 v9 (gw1 s 16 1 ((((s.1 16 1) + 8) - 1) % 8))).bind fun q14 =>
  some (gw1 q14 16 2 ((q14.1 16 2) - 1))) else none) else none) else none
theorem gf_32 {x1 : Nat} {s : gx_S} {σ : fx_S} (es : σ = gx s) {q : gx_S} (h : gm_32 x1 s = some q) : fm_32 x1 σ = some (gx q) := by
  unfold gm_32 at h
  unfold fm_32
  obtain ⟨gg, h⟩ := fx_gd h
  refine gb_t gg ?_
  have g1 := gg
  obtain ⟨z8, h⟩ := fx_gd h
  obtain ⟨z12, h⟩ := fx_gd h
  obtain ⟨v9, w10, h⟩ := fx_bd h
  have g11 := fa_17 ((gl_ldr (t := 5) (gf1 (gx_w1 es (ga_rem (ga_sub (ga_add (gf1 es 16 1) kg_8) kg_1) kg_8 ⟨z8.1, z8.2, by decide, by decide⟩)) 16 1) ga_17 z12).trans w10)
  refine gb_bind ((gl_ldr (gf1 (gx_w1 es (ga_rem (ga_sub (ga_add (gf1 es 16 1) kg_8) kg_1) kg_8 ⟨z8.1, z8.2, by decide, by decide⟩)) 16 1) ga_17 z12).trans w10) ?_
  obtain ⟨q14, w13, h⟩ := fx_bd h
  refine gb_bind (gf_54 (gx_w1 es (ga_rem (ga_sub (ga_add (gf1 es 16 1) kg_8) kg_1) kg_8 ⟨z8.1, z8.2, by decide, by decide⟩)) w13) ?_
  have h := Option.some.inj h
  subst h
  exact gretv (gx_w1 (rfl : _ = gx q14) (ga_sub (gf1 (rfl : _ = gx q14) 16 2) kg_1))

/-! ZoneShares$LayerText.read(LZoneShares$Tape;ILZoneShares$State;)I -/
def gm_34_153 (k_74 : Int → Int → gx_S → Option (Int × gx_S)) (x2 : Int) (x4 : Int) (s : gx_S) : Option (Int × gx_S) :=
  k_74 x2 (x4 + 1) s
theorem gf_34_153 {kf_74 : Int32 → Int32 → fx_S → Option (Int32 × fx_S)} {kg_74 : Int → Int → gx_S → Option (Int × gx_S)} (hk_74 : ∀ (x2 : Int) (yx2 : Int32) (e2 : yx2 = Int32.ofInt x2) (x4 : Int) (yx4 : Int32) (e4 : yx4 = Int32.ofInt x4) (s : gx_S) (σ : fx_S) (es : σ = gx s) (q : Int × gx_S), kg_74 x2 x4 s = some q → kf_74 yx2 yx4 σ = some (Int32.ofInt q.1, gx q.2)) (x2 : Int) (yx2 : Int32) (e2 : yx2 = Int32.ofInt x2) (x4 : Int) (yx4 : Int32) (e4 : yx4 = Int32.ofInt x4) (s : gx_S) (σ : fx_S) (es : σ = gx s) (q : Int × gx_S) (h : gm_34_153 kg_74 x2 x4 s = some q) : fm_34_153 kf_74 yx2 yx4 σ = some (Int32.ofInt q.1, gx q.2) := by
  unfold gm_34_153 at h
  unfold fm_34_153
  exact hk_74 _ _ e2 _ _ (ga_add e4 kg_1) _ _ es _ h
def gm_34_118 (k_74 : Int → Int → gx_S → Option (Int × gx_S)) (x2 : Int) (x4 : Int) (x6 : Int) (s0 : Int) (s : gx_S) : Option (Int × gx_S) :=
  if (-2147483648 ≤ s0 ∧ s0 ≤ 2147483647) then (
  if s0 = 0 then (
    if (-2147483648 ≤ x6 ∧ x6 ≤ 2147483647) then (
    if ¬ x6 = (-1) then (
      (gm_39 x6 s).bind fun q6 =>
      gm_34_153 k_74 x2 x4 q6) else (
      (gm_38 s).bind fun q8 =>
      gm_34_153 k_74 x2 x4 q8)) else none) else (
    some (((8 * x4) + s0), s))) else none
theorem gf_34_118 {kf_74 : Int32 → Int32 → fx_S → Option (Int32 × fx_S)} {kg_74 : Int → Int → gx_S → Option (Int × gx_S)} (hk_74 : ∀ (x2 : Int) (yx2 : Int32) (e2 : yx2 = Int32.ofInt x2) (x4 : Int) (yx4 : Int32) (e4 : yx4 = Int32.ofInt x4) (s : gx_S) (σ : fx_S) (es : σ = gx s) (q : Int × gx_S), kg_74 x2 x4 s = some q → kf_74 yx2 yx4 σ = some (Int32.ofInt q.1, gx q.2)) (x2 : Int) (yx2 : Int32) (e2 : yx2 = Int32.ofInt x2) (x4 : Int) (yx4 : Int32) (e4 : yx4 = Int32.ofInt x4) (x6 : Int) (yx6 : Int32) (e6 : yx6 = Int32.ofInt x6) (s0 : Int) (ys0 : Int32) (es0 : ys0 = Int32.ofInt s0) (s : gx_S) (σ : fx_S) (es : σ = gx s) (q : Int × gx_S) (h : gm_34_118 kg_74 x2 x4 x6 s0 s = some q) : fm_34_118 kf_74 yx2 yx4 yx6 ys0 σ = some (Int32.ofInt q.1, gx q.2) := by
  unfold gm_34_118 at h
  unfold fm_34_118
  obtain ⟨z1, h⟩ := fx_gd h
  by_cases c2 : s0 = 0
  · rw [if_pos c2] at h
    refine gb_t ((gc_eq es0 kg_0 z1 (by decide)).mpr c2) ?_
    obtain ⟨z3, h⟩ := fx_gd h
    by_cases c4 : ¬ x6 = (-1)
    · rw [if_pos c4] at h
      refine gb_t ((gc_ne e6 kg_m1 z3 (by decide)).mpr c4) ?_
      obtain ⟨q6, w5, h⟩ := fx_bd h
      refine gb_bind (gf_39 e6 es w5) ?_
      exact gf_34_153 hk_74 _ _ e2 _ _ e4 _ _ (rfl : _ = gx q6) _ h
    · rw [if_neg c4] at h
      refine gb_f (fun q => c4 ((gc_ne e6 kg_m1 z3 (by decide)).mp q)) ?_
      obtain ⟨q8, w7, h⟩ := fx_bd h
      refine gb_bind (gf_38 es w7) ?_
      exact gf_34_153 hk_74 _ _ e2 _ _ e4 _ _ (rfl : _ = gx q8) _ h
  · rw [if_neg c2] at h
    refine gb_f (fun q => c2 ((gc_eq es0 kg_0 z1 (by decide)).mp q)) ?_
    have h := Option.some.inj h
    subst h
    exact gret (ga_add (ga_mul kg_8 e4) es0) es
def gm_34_74 : Nat → Int → Int → gx_S → Option (Int × gx_S)
  | 0, _, _, _ => none
  | n + 1, x2, x4, s =>
    if (-2147483648 ≤ x4 ∧ x4 ≤ 2147483647) then (
    if (-2147483648 ≤ (s.1 14 1) ∧ (s.1 14 1) ≤ 2147483647) then (
    if (s.1 14 1) < x4 then (
      some ((-1), s)) else (
      (gm_83 x4 s).bind fun q5 =>
      (gm_35 q5.1 x2 q5.2).bind fun q7 =>
      if (-2147483648 ≤ q7.1 ∧ q7.1 ≤ 2147483647) then (
      if ¬ q7.1 = (-1) then (
        (gm_36 q7.2).bind fun q11 =>
        gm_34_118 (gm_34_74 n) x2 x4 q7.1 q11.1 q11.2) else (
        (gm_37 q5.1 q7.2).bind fun q13 =>
        gm_34_118 (gm_34_74 n) x2 x4 q7.1 q13.1 q13.2)) else none)) else none) else none
theorem gf_34_74 : ∀ (n : Nat) (x2 : Int) (yx2 : Int32) (e2 : yx2 = Int32.ofInt x2) (x4 : Int) (yx4 : Int32) (e4 : yx4 = Int32.ofInt x4) (s : gx_S) (σ : fx_S) (es : σ = gx s) (q : Int × gx_S), gm_34_74 n x2 x4 s = some q → fm_34_74 n yx2 yx4 σ = some (Int32.ofInt q.1, gx q.2) := by
  intro n
  induction n with
  | zero =>
    intro x2 yx2 e2 x4 yx4 e4 s σ es q  h
    rw [gm_34_74] at h
    exact fx_no h
  | succ n ih =>
    intro x2 yx2 e2 x4 yx4 e4 s σ es q  h
    rw [gm_34_74] at h
    rw [fm_34_74]
    obtain ⟨z1, h⟩ := fx_gd h
    obtain ⟨z2, h⟩ := fx_gd h
    by_cases c3 : (s.1 14 1) < x4
    · rw [if_pos c3] at h
      refine gb_t ((gc_lt (gf1 es 14 1) e4 z2 z1).mpr c3) ?_
      have h := Option.some.inj h
      subst h
      exact gret kg_m1 es
    · rw [if_neg c3] at h
      refine gb_f (fun q => c3 ((gc_lt (gf1 es 14 1) e4 z2 z1).mp q)) ?_
      obtain ⟨q5, w4, h⟩ := fx_bd h
      refine gb_bind (gf_83 e4 es w4) ?_
      obtain ⟨q7, w6, h⟩ := fx_bd h
      refine gb_bind (gf_35 (gr q5.1) e2 (rfl : _ = gx q5.2) w6) ?_
      obtain ⟨z8, h⟩ := fx_gd h
      by_cases c9 : ¬ q7.1 = (-1)
      · rw [if_pos c9] at h
        refine gb_t ((gc_ne (gr q7.1) kg_m1 z8 (by decide)).mpr c9) ?_
        obtain ⟨q11, w10, h⟩ := fx_bd h
        refine gb_bind (gf_36 (rfl : _ = gx q7.2) w10) ?_
        exact gf_34_118 ih _ _ e2 _ _ e4 _ _ (gr q7.1) _ _ (gr q11.1) _ _ (rfl : _ = gx q11.2) _ h
      · rw [if_neg c9] at h
        refine gb_f (fun q => c9 ((gc_ne (gr q7.1) kg_m1 z8 (by decide)).mp q)) ?_
        obtain ⟨q13, w12, h⟩ := fx_bd h
        refine gb_bind (gf_37 (gr q5.1) (rfl : _ = gx q7.2) w12) ?_
        exact gf_34_118 ih _ _ e2 _ _ e4 _ _ (gr q7.1) _ _ (gr q13.1) _ _ (rfl : _ = gx q13.2) _ h
def gm_34_58 (x2 : Int) (s1 : Int) (s : gx_S) : Option (Int × gx_S) :=
  gm_34_74 100000 x2 0 (gw1 (gw1 (gw1 s 58 4 s1) 58 1 0) 58 3 0)
theorem gf_34_58 (x2 : Int) (yx2 : Int32) (e2 : yx2 = Int32.ofInt x2) (s1 : Int) (ys1 : Int32) (es1 : ys1 = Int32.ofInt s1) (s : gx_S) (σ : fx_S) (es : σ = gx s) (q : Int × gx_S) (h : gm_34_58 x2 s1 s = some q) : fm_34_58 yx2 ys1 σ = some (Int32.ofInt q.1, gx q.2) := by
  unfold gm_34_58 at h
  unfold fm_34_58
  exact gf_34_74 100000 _ _ e2 _ _ kg_0 _ _ (gx_w1 (gx_w1 (gx_w1 es es1) kg_0) kg_0) _ h
def gm_34_38 (x2 : Int) (x3 : Nat) (s1 : Int) (s : gx_S) : Option (Int × gx_S) :=
  if (-2147483648 ≤ ((gw1 s 58 2 s1).1 58 6) ∧ ((gw1 s 58 2 s1).1 58 6) ≤ 2147483647) then (
  if ((gw1 s 58 2 s1).1 58 6) = 0 then (
    gm_34_58 x2 8 (gw1 s 58 2 s1)) else (
    gm_34_58 x2 ((gw1 s 58 2 s1).1 x3 4) (gw1 s 58 2 s1))) else none
theorem gf_34_38 (x2 : Int) (yx2 : Int32) (e2 : yx2 = Int32.ofInt x2) (x3 : Nat) (s1 : Int) (ys1 : Int32) (es1 : ys1 = Int32.ofInt s1) (s : gx_S) (σ : fx_S) (es : σ = gx s) (q : Int × gx_S) (g3 : fx_oc x3 6 = true) (h : gm_34_38 x2 x3 s1 s = some q) : fm_34_38 yx2 x3 ys1 σ = some (Int32.ofInt q.1, gx q.2) := by
  unfold gm_34_38 at h
  unfold fm_34_38
  obtain ⟨z1, h⟩ := fx_gd h
  by_cases c2 : ((gw1 s 58 2 s1).1 58 6) = 0
  · rw [if_pos c2] at h
    refine gb_t ((gc_eq (gf1 (gx_w1 es es1) 58 6) kg_0 z1 (by decide)).mpr c2) ?_
    exact gf_34_58 _ _ e2 _ _ kg_8 _ _ (gx_w1 es es1) _ h
  · rw [if_neg c2] at h
    refine gb_f (fun q => c2 ((gc_eq (gf1 (gx_w1 es es1) 58 6) kg_0 z1 (by decide)).mp q)) ?_
    exact gf_34_58 _ _ e2 _ _ (gf1 (gx_w1 es es1) x3 4) _ _ (gx_w1 es es1) _ h
def gm_34_10 (x2 : Int) (x3 : Nat) (s1 : Int) (s : gx_S) : Option (Int × gx_S) :=
  if s1 = 0 ∨ s1 = 1 then (
  if ((gw1 s 58 6 s1).1 58 6) = 0 ∨ ((gw1 s 58 6 s1).1 58 6) = 1 then (
  if (-2147483648 ≤ ((gw1 (gw1 s 58 6 s1) 58 5 ((gw1 s 58 6 s1).1 58 6)).1 58 6) ∧ ((gw1 (gw1 s 58 6 s1) 58 5 ((gw1 s 58 6 s1).1 58 6)).1 58 6) ≤ 2147483647) then (
  if ((gw1 (gw1 s 58 6 s1) 58 5 ((gw1 s 58 6 s1).1 58 6)).1 58 6) = 0 then (
    gm_34_38 x2 x3 12 (gw1 (gw1 s 58 6 s1) 58 5 ((gw1 s 58 6 s1).1 58 6))) else (
    gm_34_38 x2 x3 ((gw1 (gw1 s 58 6 s1) 58 5 ((gw1 s 58 6 s1).1 58 6)).1 x3 5) (gw1 (gw1 s 58 6 s1) 58 5 ((gw1 s 58 6 s1).1 58 6)))) else none) else none) else none
theorem gf_34_10 (x2 : Int) (yx2 : Int32) (e2 : yx2 = Int32.ofInt x2) (x3 : Nat) (s1 : Int) (ys1 : Int32) (es1 : ys1 = Int32.ofInt s1) (s : gx_S) (σ : fx_S) (es : σ = gx s) (q : Int × gx_S) (g3 : fx_oc x3 6 = true) (h : gm_34_10 x2 x3 s1 s = some q) : fm_34_10 yx2 x3 ys1 σ = some (Int32.ofInt q.1, gx q.2) := by
  unfold gm_34_10 at h
  unfold fm_34_10
  obtain ⟨z2, h⟩ := fx_gd h
  refine gb_t (gc_01 es1 z2) ?_
  obtain ⟨z4, h⟩ := fx_gd h
  refine gb_t (gc_01 (gf1 (gx_w1 es es1) 58 6) z4) ?_
  obtain ⟨z5, h⟩ := fx_gd h
  by_cases c6 : ((gw1 (gw1 s 58 6 s1) 58 5 ((gw1 s 58 6 s1).1 58 6)).1 58 6) = 0
  · rw [if_pos c6] at h
    refine gb_t ((gc_eq (gf1 (gx_w1 (gx_w1 es es1) (gf1 (gx_w1 es es1) 58 6)) 58 6) kg_0 z5 (by decide)).mpr c6) ?_
    exact gf_34_38 _ _ e2 _ _ _ kg_12 _ _ (gx_w1 (gx_w1 es es1) (gf1 (gx_w1 es es1) 58 6)) _ g3 h
  · rw [if_neg c6] at h
    refine gb_f (fun q => c6 ((gc_eq (gf1 (gx_w1 (gx_w1 es es1) (gf1 (gx_w1 es es1) 58 6)) 58 6) kg_0 z5 (by decide)).mp q)) ?_
    exact gf_34_38 _ _ e2 _ _ _ (gf1 (gx_w1 (gx_w1 es es1) (gf1 (gx_w1 es es1) 58 6)) x3 5) _ _ (gx_w1 (gx_w1 es es1) (gf1 (gx_w1 es es1) 58 6)) _ g3 h
def gm_34 (x2 : Int) (x3 : Nat) (s : gx_S) : Option (Int × gx_S) :=
  if fx_oc x3 6 = true then (
  if (-2147483648 ≤ x2 ∧ x2 ≤ 2147483647) then (
  if x2 = 0 then (
    gm_34_10 x2 x3 0 s) else (
    gm_34_10 x2 x3 1 s)) else none) else none
theorem gf_34 {x2 : Int} {yx2 : Int32} (e2 : yx2 = Int32.ofInt x2) {x3 : Nat} {s : gx_S} {σ : fx_S} (es : σ = gx s) {q : Int × gx_S} (h : gm_34 x2 x3 s = some q) : fm_34 yx2 x3 σ = some (Int32.ofInt q.1, gx q.2) := by
  unfold gm_34 at h
  unfold fm_34
  obtain ⟨gg, h⟩ := fx_gd h
  refine gb_t gg ?_
  have g3 := gg
  obtain ⟨z53, h⟩ := fx_gd h
  by_cases c54 : x2 = 0
  · rw [if_pos c54] at h
    refine gb_t ((gc_eq e2 kg_0 z53 (by decide)).mpr c54) ?_
    exact gf_34_10 _ _ e2 _ _ _ kg_0 _ _ es _ g3 h
  · rw [if_neg c54] at h
    refine gb_f (fun q => c54 ((gc_eq e2 kg_0 z53 (by decide)).mp q)) ?_
    exact gf_34_10 _ _ e2 _ _ _ kg_1 _ _ es _ g3 h

/-! ZoneShares$Rounder.findWay(II)Z -/
def gm_46_92 (x2 : Int) (s : gx_S) : Option (Bool × gx_S) :=
  if 0 ≤ x2 ∧ x2 < 18 then (
  if (-2147483648 ≤ (s.1 12 (x2).toNat) ∧ (s.1 12 (x2).toNat) ≤ 2147483647) then (
  if (s.1 12 (x2).toNat) = (-1) then (
    some (false, s)) else (
    some (true, s))) else none) else none
theorem gf_46_92 (x2 : Int) (yx2 : Int32) (e2 : yx2 = Int32.ofInt x2) (s : gx_S) (σ : fx_S) (es : σ = gx s) (q : Bool × gx_S) (h : gm_46_92 x2 s = some q) : fm_46_92 yx2 σ = some (q.1, gx q.2) := by
  unfold gm_46_92 at h
  unfold fm_46_92
  obtain ⟨z3, h⟩ := fx_gd h
  refine gb_bind (gl_ld es e2 ga_12 z3) ?_
  obtain ⟨z4, h⟩ := fx_gd h
  by_cases c5 : (s.1 12 (x2).toNat) = (-1)
  · rw [if_pos c5] at h
    refine gb_t ((gc_eq (gr (s.1 12 (x2).toNat)) kg_m1 z4 (by decide)).mpr c5) ?_
    have h := Option.some.inj h
    subst h
    exact gretb es
  · rw [if_neg c5] at h
    refine gb_f (fun q => c5 ((gc_eq (gr (s.1 12 (x2).toNat)) kg_m1 z4 (by decide)).mp q)) ?_
    have h := Option.some.inj h
    subst h
    exact gretb es
def gm_46_86 (k_21 : Int → Int → gx_S → Option (Bool × gx_S)) (x2 : Int) (x3 : Int) (s : gx_S) : Option (Bool × gx_S) :=
  k_21 x2 (x3 + 1) s
theorem gf_46_86 {kf_21 : Int32 → Int32 → fx_S → Option (Bool × fx_S)} {kg_21 : Int → Int → gx_S → Option (Bool × gx_S)} (hk_21 : ∀ (x2 : Int) (yx2 : Int32) (e2 : yx2 = Int32.ofInt x2) (x3 : Int) (yx3 : Int32) (e3 : yx3 = Int32.ofInt x3) (s : gx_S) (σ : fx_S) (es : σ = gx s) (q : Bool × gx_S), kg_21 x2 x3 s = some q → kf_21 yx2 yx3 σ = some (q.1, gx q.2)) (x2 : Int) (yx2 : Int32) (e2 : yx2 = Int32.ofInt x2) (x3 : Int) (yx3 : Int32) (e3 : yx3 = Int32.ofInt x3) (s : gx_S) (σ : fx_S) (es : σ = gx s) (q : Bool × gx_S) (h : gm_46_86 kg_21 x2 x3 s = some q) : fm_46_86 kf_21 yx2 yx3 σ = some (q.1, gx q.2) := by
  unfold gm_46_86 at h
  unfold fm_46_86
  exact hk_21 _ _ e2 _ _ (ga_add e3 kg_1) _ _ es _ h
def gm_46_21 : Nat → Int → Int → gx_S → Option (Bool × gx_S)
  | 0, _, _, _ => none
  | n + 1, x2, x3, s =>
    if (-2147483648 ≤ x3 ∧ x3 ≤ 2147483647) then (
    if (-2147483648 ≤ (s.1 6 7) ∧ (s.1 6 7) ≤ 2147483647) then (
    if (s.1 6 7) ≤ x3 then (
      gm_46_92 x2 s) else (
      if 0 ≤ x2 ∧ x2 < 18 then (
      if (-2147483648 ≤ (s.1 12 (x2).toNat) ∧ (s.1 12 (x2).toNat) ≤ 2147483647) then (
      if ¬ (s.1 12 (x2).toNat) = (-1) then (
        gm_46_92 x2 s) else (
        if 0 ≤ x3 ∧ x3 < 18 then (
        if (-2147483648 ≤ (s.1 13 (x3).toNat) ∧ (s.1 13 (x3).toNat) ≤ 2147483647) then (
        if 8 ≤ (s.1 13 (x3).toNat) then (
          if 17 ≤ (s.1 13 (x3).toNat) then (
            (gm_50 s).bind fun q16 =>
            gm_46_86 (gm_46_21 n) x2 x3 q16) else (
            (gm_49 ((s.1 13 (x3).toNat) - 8) s).bind fun q18 =>
            gm_46_86 (gm_46_21 n) x2 x3 q18)) else (
          (gm_48 (s.1 13 (x3).toNat) s).bind fun q20 =>
          gm_46_86 (gm_46_21 n) x2 x3 q20)) else none) else none)) else none) else none)) else none) else none
theorem gf_46_21 : ∀ (n : Nat) (x2 : Int) (yx2 : Int32) (e2 : yx2 = Int32.ofInt x2) (x3 : Int) (yx3 : Int32) (e3 : yx3 = Int32.ofInt x3) (s : gx_S) (σ : fx_S) (es : σ = gx s) (q : Bool × gx_S), gm_46_21 n x2 x3 s = some q → fm_46_21 n yx2 yx3 σ = some (q.1, gx q.2) := by
  intro n
  induction n with
  | zero =>
    intro x2 yx2 e2 x3 yx3 e3 s σ es q  h
    rw [gm_46_21] at h
    exact fx_no h
  | succ n ih =>
    intro x2 yx2 e2 x3 yx3 e3 s σ es q  h
    rw [gm_46_21] at h
    rw [fm_46_21]
    obtain ⟨z1, h⟩ := fx_gd h
    obtain ⟨z2, h⟩ := fx_gd h
    by_cases c3 : (s.1 6 7) ≤ x3
    · rw [if_pos c3] at h
      refine gb_t ((gc_le (gf1 es 6 7) e3 z2 z1).mpr c3) ?_
      exact gf_46_92 _ _ e2 _ _ es _ h
    · rw [if_neg c3] at h
      refine gb_f (fun q => c3 ((gc_le (gf1 es 6 7) e3 z2 z1).mp q)) ?_
      obtain ⟨z6, h⟩ := fx_gd h
      refine gb_bind (gl_ld es e2 ga_12 z6) ?_
      obtain ⟨z7, h⟩ := fx_gd h
      by_cases c8 : ¬ (s.1 12 (x2).toNat) = (-1)
      · rw [if_pos c8] at h
        refine gb_t ((gc_ne (gr (s.1 12 (x2).toNat)) kg_m1 z7 (by decide)).mpr c8) ?_
        exact gf_46_92 _ _ e2 _ _ es _ h
      · rw [if_neg c8] at h
        refine gb_f (fun q => c8 ((gc_ne (gr (s.1 12 (x2).toNat)) kg_m1 z7 (by decide)).mp q)) ?_
        obtain ⟨z11, h⟩ := fx_gd h
        refine gb_bind (gl_ld es e3 ga_13 z11) ?_
        obtain ⟨z12, h⟩ := fx_gd h
        by_cases c13 : 8 ≤ (s.1 13 (x3).toNat)
        · rw [if_pos c13] at h
          refine gb_t ((gc_le kg_8 (gr (s.1 13 (x3).toNat)) (by decide) z12).mpr c13) ?_
          by_cases c14 : 17 ≤ (s.1 13 (x3).toNat)
          · rw [if_pos c14] at h
            refine gb_t ((gc_le kg_17 (gr (s.1 13 (x3).toNat)) (by decide) z12).mpr c14) ?_
            obtain ⟨q16, w15, h⟩ := fx_bd h
            refine gb_bind (gf_50 es w15) ?_
            exact gf_46_86 ih _ _ e2 _ _ e3 _ _ (rfl : _ = gx q16) _ h
          · rw [if_neg c14] at h
            refine gb_f (fun q => c14 ((gc_le kg_17 (gr (s.1 13 (x3).toNat)) (by decide) z12).mp q)) ?_
            obtain ⟨q18, w17, h⟩ := fx_bd h
            refine gb_bind (gf_49 (ga_sub (gr (s.1 13 (x3).toNat)) kg_8) es w17) ?_
            exact gf_46_86 ih _ _ e2 _ _ e3 _ _ (rfl : _ = gx q18) _ h
        · rw [if_neg c13] at h
          refine gb_f (fun q => c13 ((gc_le kg_8 (gr (s.1 13 (x3).toNat)) (by decide) z12).mp q)) ?_
          obtain ⟨q20, w19, h⟩ := fx_bd h
          refine gb_bind (gf_48 (gr (s.1 13 (x3).toNat)) es w19) ?_
          exact gf_46_86 ih _ _ e2 _ _ e3 _ _ (rfl : _ = gx q20) _ h
def gm_46 (x1 : Int) (x2 : Int) (s : gx_S) : Option (Bool × gx_S) :=
  (gm_235 12 (-1) s).bind fun q56 =>
  (gm_47 x1 x1 (gw1 q56 6 7 0)).bind fun q58 =>
  gm_46_21 100000 x2 0 q58
theorem gf_46 {x1 : Int} {yx1 : Int32} (e1 : yx1 = Int32.ofInt x1) {x2 : Int} {yx2 : Int32} (e2 : yx2 = Int32.ofInt x2) {s : gx_S} {σ : fx_S} (es : σ = gx s) {q : Bool × gx_S} (h : gm_46 x1 x2 s = some q) : fm_46 yx1 yx2 σ = some (q.1, gx q.2) := by
  unfold gm_46 at h
  unfold fm_46
  obtain ⟨q56, w55, h⟩ := fx_bd h
  refine gb_bind (gf_235 kg_m1 es w55) ?_
  obtain ⟨q58, w57, h⟩ := fx_bd h
  refine gb_bind (gf_47 e1 e1 (gx_w1 (rfl : _ = gx q56) kg_0) w57) ?_
  exact gf_46_21 100000 _ _ e2 _ _ kg_0 _ _ (rfl : _ = gx q58) _ h

/-! ZoneShares$Rounder.turnWay(II)V -/
def gm_51_5 : Nat → Int → Int → Int → gx_S → Option (gx_S)
  | 0, _, _, _, _ => none
  | n + 1, x1, x3, x4, s =>
    if (-2147483648 ≤ x4 ∧ x4 ≤ 2147483647) then (
    if 18 ≤ x4 then (
      some s) else (
      if (-2147483648 ≤ x3 ∧ x3 ≤ 2147483647) then (
      if (-2147483648 ≤ x1 ∧ x1 ≤ 2147483647) then (
      if x3 = x1 then (
        some s) else (
        if 0 ≤ x3 ∧ x3 < 18 then (
        (gm_52 (s.1 12 (x3).toNat) x3 s).bind fun q10 =>
        gm_51_5 n x1 (q10.1 12 (x3).toNat) (x4 + 1) q10) else none)) else none) else none)) else none
theorem gf_51_5 : ∀ (n : Nat) (x1 : Int) (yx1 : Int32) (e1 : yx1 = Int32.ofInt x1) (x3 : Int) (yx3 : Int32) (e3 : yx3 = Int32.ofInt x3) (x4 : Int) (yx4 : Int32) (e4 : yx4 = Int32.ofInt x4) (s : gx_S) (σ : fx_S) (es : σ = gx s) (q : gx_S), gm_51_5 n x1 x3 x4 s = some q → fm_51_5 n yx1 yx3 yx4 σ = some (gx q) := by
  intro n
  induction n with
  | zero =>
    intro x1 yx1 e1 x3 yx3 e3 x4 yx4 e4 s σ es q  h
    rw [gm_51_5] at h
    exact fx_no h
  | succ n ih =>
    intro x1 yx1 e1 x3 yx3 e3 x4 yx4 e4 s σ es q  h
    rw [gm_51_5] at h
    rw [fm_51_5]
    obtain ⟨z1, h⟩ := fx_gd h
    by_cases c2 : 18 ≤ x4
    · rw [if_pos c2] at h
      refine gb_t ((gc_le kg_18 e4 (by decide) z1).mpr c2) ?_
      have h := Option.some.inj h
      subst h
      exact gretv es
    · rw [if_neg c2] at h
      refine gb_f (fun q => c2 ((gc_le kg_18 e4 (by decide) z1).mp q)) ?_
      obtain ⟨z3, h⟩ := fx_gd h
      obtain ⟨z4, h⟩ := fx_gd h
      by_cases c5 : x3 = x1
      · rw [if_pos c5] at h
        refine gb_t ((gc_eq e3 e1 z3 z4).mpr c5) ?_
        have h := Option.some.inj h
        subst h
        exact gretv es
      · rw [if_neg c5] at h
        refine gb_f (fun q => c5 ((gc_eq e3 e1 z3 z4).mp q)) ?_
        obtain ⟨z8, h⟩ := fx_gd h
        refine gb_bind (gl_ld es e3 ga_12 z8) ?_
        obtain ⟨q10, w9, h⟩ := fx_bd h
        refine gb_bind (gf_52 (gr (s.1 12 (x3).toNat)) e3 es w9) ?_
        refine gb_bind (gl_ld (rfl : _ = gx q10) e3 ga_12 z8) ?_
        exact ih _ _ e1 _ _ (gr (q10.1 12 (x3).toNat)) _ _ (ga_add e4 kg_1) _ _ (rfl : _ = gx q10) _ h
def gm_51 (x1 : Int) (x2 : Int) (s : gx_S) : Option (gx_S) :=
  gm_51_5 100000 x1 x2 0 s
theorem gf_51 {x1 : Int} {yx1 : Int32} (e1 : yx1 = Int32.ofInt x1) {x2 : Int} {yx2 : Int32} (e2 : yx2 = Int32.ofInt x2) {s : gx_S} {σ : fx_S} (es : σ = gx s) {q : gx_S} (h : gm_51 x1 x2 s = some q) : fm_51 yx1 yx2 σ = some (gx q) := by
  unfold gm_51 at h
  unfold fm_51
  exact gf_51_5 100000 _ _ e1 _ _ e2 _ _ kg_0 _ _ es _ h

/-! ZoneShares$Table.clear()V -/
def gm_68 (x0 : Nat) (s : gx_S) : Option (gx_S) :=
  if fx_oc x0 7 = true then (
  (gm_235 (x0 + 1) 0 s).bind fun q8 =>
  (gm_235 (x0 + 4) 0 q8).bind fun q10 =>
  (gm_235 (x0 + 5) 0 q10).bind fun q12 =>
  some q12) else none
theorem gf_68 {x0 : Nat} {s : gx_S} {σ : fx_S} (es : σ = gx s) {q : gx_S} (h : gm_68 x0 s = some q) : fm_68 x0 σ = some (gx q) := by
  unfold gm_68 at h
  unfold fm_68
  obtain ⟨gg, h⟩ := fx_gd h
  refine gb_t gg ?_
  have g0 := gg
  obtain ⟨q8, w7, h⟩ := fx_bd h
  refine gb_bind (gf_235 kg_0 es w7) ?_
  obtain ⟨q10, w9, h⟩ := fx_bd h
  refine gb_bind (gf_235 kg_0 (rfl : _ = gx q8) w9) ?_
  obtain ⟨q12, w11, h⟩ := fx_bd h
  refine gb_bind (gf_235 kg_0 (rfl : _ = gx q10) w11) ?_
  have h := Option.some.inj h
  subst h
  exact gretv (rfl : _ = gx q12)

/-! ZoneShares$Table.cut()V -/
def gm_70_57 (k_2 : Nat → Int → gx_S → Option (gx_S)) (x0 : Nat) (x1 : Int) (s : gx_S) : Option (gx_S) :=
  (gm_72 (x0 + 4) x1 s).bind fun q2 =>
  if 0 ≤ x1 ∧ x1 < 8 then (
  (gm_71 x0 x1 ((gw1 q2.2 (x0 + 2) (x1).toNat q2.1).1 (x0 + 2) (x1).toNat) (gw1 q2.2 (x0 + 2) (x1).toNat q2.1)).bind fun q9 =>
  k_2 x0 (x1 + 1) q9) else none
theorem gf_70_57 {kf_2 : Nat → Int32 → fx_S → Option (fx_S)} {kg_2 : Nat → Int → gx_S → Option (gx_S)} (hk_2 : ∀ (x0 : Nat) (x1 : Int) (yx1 : Int32) (e1 : yx1 = Int32.ofInt x1) (s : gx_S) (σ : fx_S) (es : σ = gx s) (q : gx_S) (g0 : fx_oc x0 7 = true), kg_2 x0 x1 s = some q → kf_2 x0 yx1 σ = some (gx q)) (x0 : Nat) (x1 : Int) (yx1 : Int32) (e1 : yx1 = Int32.ofInt x1) (s : gx_S) (σ : fx_S) (es : σ = gx s) (q : gx_S) (g0 : fx_oc x0 7 = true) (h : gm_70_57 kg_2 x0 x1 s = some q) : fm_70_57 kf_2 x0 yx1 σ = some (gx q) := by
  unfold gm_70_57 at h
  unfold fm_70_57
  obtain ⟨q2, w1, h⟩ := fx_bd h
  refine gb_bind (gf_72 e1 es w1) ?_
  obtain ⟨z5, h⟩ := fx_gd h
  refine gb_bind (gl_st (rfl : _ = gx q2.2) e1 (gr q2.1) (ga_7_1 g0) z5) ?_
  refine gb_bind (gl_ld (rfl : _ = gx (gw1 q2.2 (x0 + 2) (x1).toNat q2.1)) e1 (ga_7_1 g0) z5) ?_
  obtain ⟨q9, w8, h⟩ := fx_bd h
  refine gb_bind (gf_71 e1 (gr ((gw1 q2.2 (x0 + 2) (x1).toNat q2.1).1 (x0 + 2) (x1).toNat)) (rfl : _ = gx (gw1 q2.2 (x0 + 2) (x1).toNat q2.1)) w8) ?_
  exact hk_2 _ _ _ (ga_add e1 kg_1) _ _ (rfl : _ = gx q9) _ g0 h
def gm_70_31 (k_2 : Nat → Int → gx_S → Option (gx_S)) (x0 : Nat) (x1 : Int) (x2 : Int) (s0 : Nat) (s1 : Int) (s2 : Int) (s : gx_S) : Option (gx_S) :=
  if gx_p s0 = true then (
  if 0 ≤ s1 ∧ s1 < ((fx_sh s0).2 : Int) then (
  if (-2147483648 ≤ x2 ∧ x2 ≤ 2147483647) then (
  if ¬ x2 = 0 then (
    gm_70_57 k_2 x0 x1 (gw1 s s0 (s1).toNat s2)) else (
    if 0 ≤ ((x1 * 9) : Int) ∧ 0 ≤ ((x1 * 9) : Int) ∧ 0 ≤ (9 : Int) ∧ ((x1 * 9) : Int) + 9 ≤ 72 ∧ ((x1 * 9) : Int) + 9 ≤ 72 then (
    gm_70_57 k_2 x0 x1 (gcp (gw1 s s0 (s1).toNat s2) (x0 + 5) ((x1 * 9)).toNat (x0 + 4) ((x1 * 9)).toNat 9)) else none)) else none) else none) else none
theorem gf_70_31 {kf_2 : Nat → Int32 → fx_S → Option (fx_S)} {kg_2 : Nat → Int → gx_S → Option (gx_S)} (hk_2 : ∀ (x0 : Nat) (x1 : Int) (yx1 : Int32) (e1 : yx1 = Int32.ofInt x1) (s : gx_S) (σ : fx_S) (es : σ = gx s) (q : gx_S) (g0 : fx_oc x0 7 = true), kg_2 x0 x1 s = some q → kf_2 x0 yx1 σ = some (gx q)) (x0 : Nat) (x1 : Int) (yx1 : Int32) (e1 : yx1 = Int32.ofInt x1) (x2 : Int) (yx2 : Int32) (e2 : yx2 = Int32.ofInt x2) (s0 : Nat) (s1 : Int) (ys1 : Int32) (es1 : ys1 = Int32.ofInt s1) (s2 : Int) (ys2 : Int32) (es2 : ys2 = Int32.ofInt s2) (s : gx_S) (σ : fx_S) (es : σ = gx s) (q : gx_S) (g0 : fx_oc x0 7 = true) (h : gm_70_31 kg_2 x0 x1 x2 s0 s1 s2 s = some q) : fm_70_31 kf_2 x0 yx1 yx2 s0 ys1 ys2 σ = some (gx q) := by
  unfold gm_70_31 at h
  unfold fm_70_31
  obtain ⟨z3, h⟩ := fx_gd h
  obtain ⟨z4, h⟩ := fx_gd h
  refine gb_bind (gl_st es es1 es2 z3 z4) ?_
  obtain ⟨z5, h⟩ := fx_gd h
  by_cases c6 : ¬ x2 = 0
  · rw [if_pos c6] at h
    refine gb_t ((gc_ne e2 kg_0 z5 (by decide)).mpr c6) ?_
    exact gf_70_57 hk_2 _ _ _ e1 _ _ (rfl : _ = gx (gw1 s s0 (s1).toNat s2)) _ g0 h
  · rw [if_neg c6] at h
    refine gb_f (fun q => c6 ((gc_ne e2 kg_0 z5 (by decide)).mp q)) ?_
    obtain ⟨z9, h⟩ := fx_gd h
    refine gb_bind (gl_cpy (rfl : _ = gx (gw1 s s0 (s1).toNat s2)) (ga_mul e1 kg_9) (ga_mul e1 kg_9) kg_9 (ga_7_4 g0) (ga_7_3 g0) z9) ?_
    exact gf_70_57 hk_2 _ _ _ e1 _ _ (rfl : _ = gx (gcp (gw1 s s0 (s1).toNat s2) (x0 + 5) ((x1 * 9)).toNat (x0 + 4) ((x1 * 9)).toNat 9)) _ g0 h
def gm_70_2 : Nat → Nat → Int → gx_S → Option (gx_S)
  | 0, _, _, _ => none
  | n + 1, x0, x1, s =>
    if (-2147483648 ≤ x1 ∧ x1 ≤ 2147483647) then (
    if 8 ≤ x1 then (
      some s) else (
      (gm_72 (x0 + 4) x1 s).bind fun q4 =>
      if (-2147483648 ≤ q4.1 ∧ q4.1 ≤ 2147483647) then (
      if ¬ q4.1 = 0 then (
        gm_70_31 (gm_70_2 n) x0 x1 q4.1 (x0 + 3) x1 0 q4.2) else (
        gm_70_31 (gm_70_2 n) x0 x1 q4.1 (x0 + 3) x1 1 q4.2)) else none)) else none
theorem gf_70_2 : ∀ (n : Nat) (x0 : Nat) (x1 : Int) (yx1 : Int32) (e1 : yx1 = Int32.ofInt x1) (s : gx_S) (σ : fx_S) (es : σ = gx s) (q : gx_S) (g0 : fx_oc x0 7 = true), gm_70_2 n x0 x1 s = some q → fm_70_2 n x0 yx1 σ = some (gx q) := by
  intro n
  induction n with
  | zero =>
    intro x0 x1 yx1 e1 s σ es q g0 h
    rw [gm_70_2] at h
    exact fx_no h
  | succ n ih =>
    intro x0 x1 yx1 e1 s σ es q g0 h
    rw [gm_70_2] at h
    rw [fm_70_2]
    obtain ⟨z1, h⟩ := fx_gd h
    by_cases c2 : 8 ≤ x1
    · rw [if_pos c2] at h
      refine gb_t ((gc_le kg_8 e1 (by decide) z1).mpr c2) ?_
      have h := Option.some.inj h
      subst h
      exact gretv es
    · rw [if_neg c2] at h
      refine gb_f (fun q => c2 ((gc_le kg_8 e1 (by decide) z1).mp q)) ?_
      obtain ⟨q4, w3, h⟩ := fx_bd h
      refine gb_bind (gf_72 e1 es w3) ?_
      obtain ⟨z5, h⟩ := fx_gd h
      by_cases c6 : ¬ q4.1 = 0
      · rw [if_pos c6] at h
        refine gb_t ((gc_ne (gr q4.1) kg_0 z5 (by decide)).mpr c6) ?_
        exact gf_70_31 ih _ _ _ e1 _ _ (gr q4.1) _ _ _ e1 _ _ kg_0 _ _ (rfl : _ = gx q4.2) _ g0 h
      · rw [if_neg c6] at h
        refine gb_f (fun q => c6 ((gc_ne (gr q4.1) kg_0 z5 (by decide)).mp q)) ?_
        exact gf_70_31 ih _ _ _ e1 _ _ (gr q4.1) _ _ _ e1 _ _ kg_1 _ _ (rfl : _ = gx q4.2) _ g0 h
def gm_70 (x0 : Nat) (s : gx_S) : Option (gx_S) :=
  if fx_oc x0 7 = true then (
  gm_70_2 100000 x0 0 s) else none
theorem gf_70 {x0 : Nat} {s : gx_S} {σ : fx_S} (es : σ = gx s) {q : gx_S} (h : gm_70 x0 s = some q) : fm_70 x0 σ = some (gx q) := by
  unfold gm_70 at h
  unfold fm_70
  obtain ⟨gg, h⟩ := fx_gd h
  refine gb_t gg ?_
  have g0 := gg
  exact gf_70_2 100000 _ _ _ kg_0 _ _ es _ g0 h

/-! ZoneShares$Table.giveByRests()V -/
def gm_74_38 (k_2 : Nat → Int → gx_S → Option (gx_S)) (x0 : Nat) (x1 : Int) (s : gx_S) : Option (gx_S) :=
  k_2 x0 (x1 + 1) s
theorem gf_74_38 {kf_2 : Nat → Int32 → fx_S → Option (fx_S)} {kg_2 : Nat → Int → gx_S → Option (gx_S)} (hk_2 : ∀ (x0 : Nat) (x1 : Int) (yx1 : Int32) (e1 : yx1 = Int32.ofInt x1) (s : gx_S) (σ : fx_S) (es : σ = gx s) (q : gx_S) (g0 : fx_oc x0 7 = true), kg_2 x0 x1 s = some q → kf_2 x0 yx1 σ = some (gx q)) (x0 : Nat) (x1 : Int) (yx1 : Int32) (e1 : yx1 = Int32.ofInt x1) (s : gx_S) (σ : fx_S) (es : σ = gx s) (q : gx_S) (g0 : fx_oc x0 7 = true) (h : gm_74_38 kg_2 x0 x1 s = some q) : fm_74_38 kf_2 x0 yx1 σ = some (gx q) := by
  unfold gm_74_38 at h
  unfold fm_74_38
  exact hk_2 _ _ _ (ga_add e1 kg_1) _ _ es _ g0 h
def gm_74_16 (k_2 : Nat → Int → gx_S → Option (gx_S)) : Nat → Nat → Int → Int → Int → gx_S → Option (gx_S)
  | 0, _, _, _, _, _ => none
  | n + 1, x0, x1, x2, x3, s =>
    if (-2147483648 ≤ x3 ∧ x3 ≤ 2147483647) then (
    if 9 ≤ x3 then (
      gm_74_38 k_2 x0 x1 s) else (
      if (-2147483648 ≤ x2 ∧ x2 ≤ 2147483647) then (
      if x2 ≤ x3 then (
        gm_74_38 k_2 x0 x1 s) else (
        (gm_75 x0 x1 s).bind fun q6 =>
        gm_74_16 k_2 n x0 x1 x2 (x3 + 1) q6)) else none)) else none
theorem gf_74_16 {kf_2 : Nat → Int32 → fx_S → Option (fx_S)} {kg_2 : Nat → Int → gx_S → Option (gx_S)} (hk_2 : ∀ (x0 : Nat) (x1 : Int) (yx1 : Int32) (e1 : yx1 = Int32.ofInt x1) (s : gx_S) (σ : fx_S) (es : σ = gx s) (q : gx_S) (g0 : fx_oc x0 7 = true), kg_2 x0 x1 s = some q → kf_2 x0 yx1 σ = some (gx q)) : ∀ (n : Nat) (x0 : Nat) (x1 : Int) (yx1 : Int32) (e1 : yx1 = Int32.ofInt x1) (x2 : Int) (yx2 : Int32) (e2 : yx2 = Int32.ofInt x2) (x3 : Int) (yx3 : Int32) (e3 : yx3 = Int32.ofInt x3) (s : gx_S) (σ : fx_S) (es : σ = gx s) (q : gx_S) (g0 : fx_oc x0 7 = true), gm_74_16 kg_2 n x0 x1 x2 x3 s = some q → fm_74_16 kf_2 n x0 yx1 yx2 yx3 σ = some (gx q) := by
  intro n
  induction n with
  | zero =>
    intro x0 x1 yx1 e1 x2 yx2 e2 x3 yx3 e3 s σ es q g0 h
    rw [gm_74_16] at h
    exact fx_no h
  | succ n ih =>
    intro x0 x1 yx1 e1 x2 yx2 e2 x3 yx3 e3 s σ es q g0 h
    rw [gm_74_16] at h
    rw [fm_74_16]
    obtain ⟨z1, h⟩ := fx_gd h
    by_cases c2 : 9 ≤ x3
    · rw [if_pos c2] at h
      refine gb_t ((gc_le kg_9 e3 (by decide) z1).mpr c2) ?_
      exact gf_74_38 hk_2 _ _ _ e1 _ _ es _ g0 h
    · rw [if_neg c2] at h
      refine gb_f (fun q => c2 ((gc_le kg_9 e3 (by decide) z1).mp q)) ?_
      obtain ⟨z3, h⟩ := fx_gd h
      by_cases c4 : x2 ≤ x3
      · rw [if_pos c4] at h
        refine gb_t ((gc_le e2 e3 z3 z1).mpr c4) ?_
        exact gf_74_38 hk_2 _ _ _ e1 _ _ es _ g0 h
      · rw [if_neg c4] at h
        refine gb_f (fun q => c4 ((gc_le e2 e3 z3 z1).mp q)) ?_
        obtain ⟨q6, w5, h⟩ := fx_bd h
        refine gb_bind (gf_75 e1 es w5) ?_
        exact ih _ _ _ e1 _ _ e2 _ _ (ga_add e3 kg_1) _ _ (rfl : _ = gx q6) _ g0 h
def gm_74_2 : Nat → Nat → Int → gx_S → Option (gx_S)
  | 0, _, _, _ => none
  | n + 1, x0, x1, s =>
    if (-2147483648 ≤ x1 ∧ x1 ≤ 2147483647) then (
    if 8 ≤ x1 then (
      some s) else (
      (gm_73 x0 x1 s).bind fun q4 =>
      gm_74_16 (gm_74_2 n) 100000 x0 x1 q4.1 0 q4.2)) else none
theorem gf_74_2 : ∀ (n : Nat) (x0 : Nat) (x1 : Int) (yx1 : Int32) (e1 : yx1 = Int32.ofInt x1) (s : gx_S) (σ : fx_S) (es : σ = gx s) (q : gx_S) (g0 : fx_oc x0 7 = true), gm_74_2 n x0 x1 s = some q → fm_74_2 n x0 yx1 σ = some (gx q) := by
  intro n
  induction n with
  | zero =>
    intro x0 x1 yx1 e1 s σ es q g0 h
    rw [gm_74_2] at h
    exact fx_no h
  | succ n ih =>
    intro x0 x1 yx1 e1 s σ es q g0 h
    rw [gm_74_2] at h
    rw [fm_74_2]
    obtain ⟨z1, h⟩ := fx_gd h
    by_cases c2 : 8 ≤ x1
    · rw [if_pos c2] at h
      refine gb_t ((gc_le kg_8 e1 (by decide) z1).mpr c2) ?_
      have h := Option.some.inj h
      subst h
      exact gretv es
    · rw [if_neg c2] at h
      refine gb_f (fun q => c2 ((gc_le kg_8 e1 (by decide) z1).mp q)) ?_
      obtain ⟨q4, w3, h⟩ := fx_bd h
      refine gb_bind (gf_73 e1 es w3) ?_
      exact gf_74_16 ih 100000 _ _ _ e1 _ _ (gr q4.1) _ _ kg_0 _ _ (rfl : _ = gx q4.2) _ g0 h
def gm_74 (x0 : Nat) (s : gx_S) : Option (gx_S) :=
  if fx_oc x0 7 = true then (
  gm_74_2 100000 x0 0 s) else none
theorem gf_74 {x0 : Nat} {s : gx_S} {σ : fx_S} (es : σ = gx s) {q : gx_S} (h : gm_74 x0 s = some q) : fm_74 x0 σ = some (gx q) := by
  unfold gm_74 at h
  unfold fm_74
  obtain ⟨gg, h⟩ := fx_gd h
  refine gb_t gg ?_
  have g0 := gg
  exact gf_74_2 100000 _ _ _ kg_0 _ _ es _ g0 h

/-! ZoneShares$Table.common()J -/
def gm_78_52 (k_4 : Nat → Int → Int → gx_S → Option (Int × gx_S)) (x0 : Nat) (x1 : Int) (x3 : Int) (s : gx_S) : Option (Int × gx_S) :=
  k_4 x0 x1 (x3 + 1) s
theorem gf_78_52 {kf_4 : Nat → Int64 → Int32 → fx_S → Option (Int64 × fx_S)} {kg_4 : Nat → Int → Int → gx_S → Option (Int × gx_S)} (hk_4 : ∀ (x0 : Nat) (x1 : Int) (yx1 : Int64) (e1 : yx1 = Int64.ofInt x1) (x3 : Int) (yx3 : Int32) (e3 : yx3 = Int32.ofInt x3) (s : gx_S) (σ : fx_S) (es : σ = gx s) (q : Int × gx_S) (g0 : fx_oc x0 7 = true), kg_4 x0 x1 x3 s = some q → kf_4 x0 yx1 yx3 σ = some (Int64.ofInt q.1, gx q.2)) (x0 : Nat) (x1 : Int) (yx1 : Int64) (e1 : yx1 = Int64.ofInt x1) (x3 : Int) (yx3 : Int32) (e3 : yx3 = Int32.ofInt x3) (s : gx_S) (σ : fx_S) (es : σ = gx s) (q : Int × gx_S) (g0 : fx_oc x0 7 = true) (h : gm_78_52 kg_4 x0 x1 x3 s = some q) : fm_78_52 kf_4 x0 yx1 yx3 σ = some (Int64.ofInt q.1, gx q.2) := by
  unfold gm_78_52 at h
  unfold fm_78_52
  exact hk_4 _ _ _ e1 _ _ (ga_add e3 kg_1) _ _ es _ g0 h
def gm_78_4 : Nat → Nat → Int → Int → gx_S → Option (Int × gx_S)
  | 0, _, _, _, _ => none
  | n + 1, x0, x1, x3, s =>
    if (-2147483648 ≤ x3 ∧ x3 ≤ 2147483647) then (
    if 8 ≤ x3 then (
      some (x1, s)) else (
      if 0 ≤ x3 ∧ x3 < 8 then (
      if (-2147483648 ≤ (s.1 (x0 + 2) (x3).toNat) ∧ (s.1 (x0 + 2) (x3).toNat) ≤ 2147483647) then (
      (gm_128 x1 (s.1 (x0 + 2) (x3).toNat) s).bind fun q8 =>
      if (-2147483648 ≤ (q8.2.1 (x0 + 2) (x3).toNat) ∧ (q8.2.1 (x0 + 2) (x3).toNat) ≤ 2147483647) then (
      if (q8.2.1 (x0 + 2) (x3).toNat) ≤ 0 then (
        gm_78_52 (gm_78_4 n) x0 x1 x3 q8.2) else (
        if (-9223372036854775808 ≤ q8.1 ∧ q8.1 ≤ 9223372036854775807) then (
        if q8.1 ≤ 0 then (
          gm_78_52 (gm_78_4 n) x0 x1 x3 q8.2) else (
          if 0 ≤ x1 ∧ x1 ≤ 9223372036854775807 ∧ 0 < q8.1 ∧ q8.1 ≤ 9223372036854775807 then (
          gm_78_52 (gm_78_4 n) x0 ((x1 / q8.1) * (q8.2.1 (x0 + 2) (x3).toNat)) x3 q8.2) else none)) else none)) else none) else none) else none)) else none
theorem gf_78_4 : ∀ (n : Nat) (x0 : Nat) (x1 : Int) (yx1 : Int64) (e1 : yx1 = Int64.ofInt x1) (x3 : Int) (yx3 : Int32) (e3 : yx3 = Int32.ofInt x3) (s : gx_S) (σ : fx_S) (es : σ = gx s) (q : Int × gx_S) (g0 : fx_oc x0 7 = true), gm_78_4 n x0 x1 x3 s = some q → fm_78_4 n x0 yx1 yx3 σ = some (Int64.ofInt q.1, gx q.2) := by
  intro n
  induction n with
  | zero =>
    intro x0 x1 yx1 e1 x3 yx3 e3 s σ es q g0 h
    rw [gm_78_4] at h
    exact fx_no h
  | succ n ih =>
    intro x0 x1 yx1 e1 x3 yx3 e3 s σ es q g0 h
    rw [gm_78_4] at h
    rw [fm_78_4]
    obtain ⟨z1, h⟩ := fx_gd h
    by_cases c2 : 8 ≤ x3
    · rw [if_pos c2] at h
      refine gb_t ((gc_le kg_8 e3 (by decide) z1).mpr c2) ?_
      have h := Option.some.inj h
      subst h
      exact gretl e1 es
    · rw [if_neg c2] at h
      refine gb_f (fun q => c2 ((gc_le kg_8 e3 (by decide) z1).mp q)) ?_
      obtain ⟨z5, h⟩ := fx_gd h
      refine gb_bind (gl_ld es e3 (ga_7_1 g0) z5) ?_
      obtain ⟨z6, h⟩ := fx_gd h
      obtain ⟨q8, w7, h⟩ := fx_bd h
      refine gb_bind (gf_128 e1 (ga_i2l (gr (s.1 (x0 + 2) (x3).toNat)) z6) es w7) ?_
      refine gb_bind (gl_ld (rfl : _ = gx q8.2) e3 (ga_7_1 g0) z5) ?_
      obtain ⟨z11, h⟩ := fx_gd h
      by_cases c12 : (q8.2.1 (x0 + 2) (x3).toNat) ≤ 0
      · rw [if_pos c12] at h
        refine gb_t ((gc_le (gr (q8.2.1 (x0 + 2) (x3).toNat)) kg_0 z11 (by decide)).mpr c12) ?_
        exact gf_78_52 ih _ _ _ e1 _ _ e3 _ _ (rfl : _ = gx q8.2) _ g0 h
      · rw [if_neg c12] at h
        refine gb_f (fun q => c12 ((gc_le (gr (q8.2.1 (x0 + 2) (x3).toNat)) kg_0 z11 (by decide)).mp q)) ?_
        obtain ⟨z13, h⟩ := fx_gd h
        by_cases c14 : q8.1 ≤ 0
        · rw [if_pos c14] at h
          refine gb_t ((gcl_le (gr2 q8.1) kgl_0 z13 (by decide)).mpr c14) ?_
          exact gf_78_52 ih _ _ _ e1 _ _ e3 _ _ (rfl : _ = gx q8.2) _ g0 h
        · rw [if_neg c14] at h
          refine gb_f (fun q => c14 ((gcl_le (gr2 q8.1) kgl_0 z13 (by decide)).mp q)) ?_
          obtain ⟨z15, h⟩ := fx_gd h
          refine gb_t (gcl_nz (gr2 q8.1) z15) ?_
          refine gb_bind (gl_ld (rfl : _ = gx q8.2) e3 (ga_7_1 g0) z5) ?_
          exact gf_78_52 ih _ _ _ (gal_mul (gal_div e1 (gr2 q8.1) z15) (ga_i2l (gr (q8.2.1 (x0 + 2) (x3).toNat)) z11)) _ _ e3 _ _ (rfl : _ = gx q8.2) _ g0 h
def gm_78 (x0 : Nat) (s : gx_S) : Option (Int × gx_S) :=
  if fx_oc x0 7 = true then (
  gm_78_4 100000 x0 1 0 s) else none
theorem gf_78 {x0 : Nat} {s : gx_S} {σ : fx_S} (es : σ = gx s) {q : Int × gx_S} (h : gm_78 x0 s = some q) : fm_78 x0 σ = some (Int64.ofInt q.1, gx q.2) := by
  unfold gm_78 at h
  unfold fm_78
  obtain ⟨gg, h⟩ := fx_gd h
  refine gb_t gg ?_
  have g0 := gg
  exact gf_78_4 100000 _ _ _ kgl_1 _ _ kg_0 _ _ es _ g0 h

/-! ZoneShares.undo()I -/
def gm_94 (s : gx_S) : Option (Int × gx_S) :=
  if (-2147483648 ≤ (s.1 16 2) ∧ (s.1 16 2) ≤ 2147483647) then (
  if ¬ (s.1 16 2) = 0 then (
    (gm_120 s).bind fun q10 =>
    (gm_32 1 q10).bind fun q12 =>
    some ((q12.1 16 2), q12)) else (
    some ((-1), s))) else none
theorem gf_94 {s : gx_S} {σ : fx_S} (es : σ = gx s) {q : Int × gx_S} (h : gm_94 s = some q) : fm_94 σ = some (Int32.ofInt q.1, gx q.2) := by
  unfold gm_94 at h
  unfold fm_94
  obtain ⟨z7, h⟩ := fx_gd h
  by_cases c8 : ¬ (s.1 16 2) = 0
  · rw [if_pos c8] at h
    refine gb_t ((gc_ne (gf1 es 16 2) kg_0 z7 (by decide)).mpr c8) ?_
    obtain ⟨q10, w9, h⟩ := fx_bd h
    refine gb_bind (gf_120 es w9) ?_
    obtain ⟨q12, w11, h⟩ := fx_bd h
    refine gb_bind (gf_32 (rfl : _ = gx q10) w11) ?_
    have h := Option.some.inj h
    subst h
    exact gret (gf1 (rfl : _ = gx q12) 16 2) (rfl : _ = gx q12)
  · rw [if_neg c8] at h
    refine gb_f (fun q => c8 ((gc_ne (gf1 es 16 2) kg_0 z7 (by decide)).mp q)) ?_
    have h := Option.some.inj h
    subst h
    exact gret kg_m1 es

/-! ZoneShares.weight(II)I -/
def gm_112 (x1 : Int) (x2 : Int) (s : gx_S) : Option (Int × gx_S) :=
  (gm_114 x1 s).bind fun q11 =>
  if (gb q11.1) = 0 then (
    some ((-1), q11.2)) else (
    (gm_116 x2 q11.2).bind fun q14 =>
    if (gb q14.1) = 0 then (
      some ((-1), q14.2)) else (
      if 0 ≤ ((x1 * 4) + x2) ∧ ((x1 * 4) + x2) < 12 then (
      some ((q14.2.1 4 (((x1 * 4) + x2)).toNat), q14.2)) else none))
theorem gf_112 {x1 : Int} {yx1 : Int32} (e1 : yx1 = Int32.ofInt x1) {x2 : Int} {yx2 : Int32} (e2 : yx2 = Int32.ofInt x2) {s : gx_S} {σ : fx_S} (es : σ = gx s) {q : Int × gx_S} (h : gm_112 x1 x2 s = some q) : fm_112 yx1 yx2 σ = some (Int32.ofInt q.1, gx q.2) := by
  unfold gm_112 at h
  unfold fm_112
  obtain ⟨q11, w10, h⟩ := fx_bd h
  refine gb_bind (gf_114 e1 es w10) ?_
  by_cases c12 : (gb q11.1) = 0
  · rw [if_pos c12] at h
    refine gb_t ((gc_eq (gb_b q11.1) kg_0 (gb_r _) (by decide)).mpr c12) ?_
    have h := Option.some.inj h
    subst h
    exact gret kg_m1 (rfl : _ = gx q11.2)
  · rw [if_neg c12] at h
    refine gb_f (fun q => c12 ((gc_eq (gb_b q11.1) kg_0 (gb_r _) (by decide)).mp q)) ?_
    obtain ⟨q14, w13, h⟩ := fx_bd h
    refine gb_bind (gf_116 e2 (rfl : _ = gx q11.2) w13) ?_
    by_cases c15 : (gb q14.1) = 0
    · rw [if_pos c15] at h
      refine gb_t ((gc_eq (gb_b q14.1) kg_0 (gb_r _) (by decide)).mpr c15) ?_
      have h := Option.some.inj h
      subst h
      exact gret kg_m1 (rfl : _ = gx q14.2)
    · rw [if_neg c15] at h
      refine gb_f (fun q => c15 ((gc_eq (gb_b q14.1) kg_0 (gb_r _) (by decide)).mp q)) ?_
      obtain ⟨z18, h⟩ := fx_gd h
      refine gb_bind (gl_ld (rfl : _ = gx q14.2) (ga_add (ga_mul e1 kg_4) e2) ga_4 z18) ?_
      have h := Option.some.inj h
      subst h
      exact gret (gr (q14.2.1 4 (((x1 * 4) + x2)).toNat)) (rfl : _ = gx q14.2)

/-! ZoneShares.districtOf(I)I -/
def gm_113 (x1 : Int) (s : gx_S) : Option (Int × gx_S) :=
  (gm_115 x1 s).bind fun q8 =>
  if (gb q8.1) = 0 then (
    some ((-1), q8.2)) else (
    if 0 ≤ x1 ∧ x1 < 8 then (
    some ((q8.2.1 5 (x1).toNat), q8.2)) else none)
theorem gf_113 {x1 : Int} {yx1 : Int32} (e1 : yx1 = Int32.ofInt x1) {s : gx_S} {σ : fx_S} (es : σ = gx s) {q : Int × gx_S} (h : gm_113 x1 s = some q) : fm_113 yx1 σ = some (Int32.ofInt q.1, gx q.2) := by
  unfold gm_113 at h
  unfold fm_113
  obtain ⟨q8, w7, h⟩ := fx_bd h
  refine gb_bind (gf_115 e1 es w7) ?_
  by_cases c9 : (gb q8.1) = 0
  · rw [if_pos c9] at h
    refine gb_t ((gc_eq (gb_b q8.1) kg_0 (gb_r _) (by decide)).mpr c9) ?_
    have h := Option.some.inj h
    subst h
    exact gret kg_m1 (rfl : _ = gx q8.2)
  · rw [if_neg c9] at h
    refine gb_f (fun q => c9 ((gc_eq (gb_b q8.1) kg_0 (gb_r _) (by decide)).mp q)) ?_
    obtain ⟨z12, h⟩ := fx_gd h
    refine gb_bind (gl_ld (rfl : _ = gx q8.2) e1 ga_5 z12) ?_
    have h := Option.some.inj h
    subst h
    exact gret (gr (q8.2.1 5 (x1).toNat)) (rfl : _ = gx q8.2)

/-! ZoneShares.startAct()V -/
def gm_119 (s : gx_S) : Option (gx_S) :=
  (gm_31 1 s).bind fun q6 =>
  (gm_120 q6).bind fun q8 =>
  some q8
theorem gf_119 {s : gx_S} {σ : fx_S} (es : σ = gx s) {q : gx_S} (h : gm_119 s = some q) : fm_119 σ = some (gx q) := by
  unfold gm_119 at h
  unfold fm_119
  obtain ⟨q6, w5, h⟩ := fx_bd h
  refine gb_bind (gf_31 es w5) ?_
  obtain ⟨q8, w7, h⟩ := fx_bd h
  refine gb_bind (gf_120 (rfl : _ = gx q6) w7) ?_
  have h := Option.some.inj h
  subst h
  exact gretv (rfl : _ = gx q8)

/-! ZoneShares.countPieces()I -/
def gm_123_101 (k_20 : Int → Int → Int → gx_S → Option (Int × gx_S)) (x1 : Int) (x2 : Int) (x3 : Int) (s : gx_S) : Option (Int × gx_S) :=
  k_20 x1 x2 (x3 + 1) s
theorem gf_123_101 {kf_20 : Int32 → Int32 → Int32 → fx_S → Option (Int32 × fx_S)} {kg_20 : Int → Int → Int → gx_S → Option (Int × gx_S)} (hk_20 : ∀ (x1 : Int) (yx1 : Int32) (e1 : yx1 = Int32.ofInt x1) (x2 : Int) (yx2 : Int32) (e2 : yx2 = Int32.ofInt x2) (x3 : Int) (yx3 : Int32) (e3 : yx3 = Int32.ofInt x3) (s : gx_S) (σ : fx_S) (es : σ = gx s) (q : Int × gx_S), kg_20 x1 x2 x3 s = some q → kf_20 yx1 yx2 yx3 σ = some (Int32.ofInt q.1, gx q.2)) (x1 : Int) (yx1 : Int32) (e1 : yx1 = Int32.ofInt x1) (x2 : Int) (yx2 : Int32) (e2 : yx2 = Int32.ofInt x2) (x3 : Int) (yx3 : Int32) (e3 : yx3 = Int32.ofInt x3) (s : gx_S) (σ : fx_S) (es : σ = gx s) (q : Int × gx_S) (h : gm_123_101 kg_20 x1 x2 x3 s = some q) : fm_123_101 kf_20 yx1 yx2 yx3 σ = some (Int32.ofInt q.1, gx q.2) := by
  unfold gm_123_101 at h
  unfold fm_123_101
  exact hk_20 _ _ e1 _ _ e2 _ _ (ga_add e3 kg_1) _ _ es _ h
def gm_123_88 (k_20 : Int → Int → Int → gx_S → Option (Int × gx_S)) (x2 : Int) (x3 : Int) (x5 : Int) (s0 : Int) (s1 : Int) (s : gx_S) : Option (Int × gx_S) :=
  if 0 ≤ x5 ∧ x5 < 288 then (
  gm_123_101 k_20 (s0 + s1) x2 x3 (gw1 s 69 (x5).toNat ((s.1 69 (x5).toNat) + 1))) else none
theorem gf_123_88 {kf_20 : Int32 → Int32 → Int32 → fx_S → Option (Int32 × fx_S)} {kg_20 : Int → Int → Int → gx_S → Option (Int × gx_S)} (hk_20 : ∀ (x1 : Int) (yx1 : Int32) (e1 : yx1 = Int32.ofInt x1) (x2 : Int) (yx2 : Int32) (e2 : yx2 = Int32.ofInt x2) (x3 : Int) (yx3 : Int32) (e3 : yx3 = Int32.ofInt x3) (s : gx_S) (σ : fx_S) (es : σ = gx s) (q : Int × gx_S), kg_20 x1 x2 x3 s = some q → kf_20 yx1 yx2 yx3 σ = some (Int32.ofInt q.1, gx q.2)) (x2 : Int) (yx2 : Int32) (e2 : yx2 = Int32.ofInt x2) (x3 : Int) (yx3 : Int32) (e3 : yx3 = Int32.ofInt x3) (x5 : Int) (yx5 : Int32) (e5 : yx5 = Int32.ofInt x5) (s0 : Int) (ys0 : Int32) (es0 : ys0 = Int32.ofInt s0) (s1 : Int) (ys1 : Int32) (es1 : ys1 = Int32.ofInt s1) (s : gx_S) (σ : fx_S) (es : σ = gx s) (q : Int × gx_S) (h : gm_123_88 kg_20 x2 x3 x5 s0 s1 s = some q) : fm_123_88 kf_20 yx2 yx3 yx5 ys0 ys1 σ = some (Int32.ofInt q.1, gx q.2) := by
  unfold gm_123_88 at h
  unfold fm_123_88
  obtain ⟨z3, h⟩ := fx_gd h
  refine gb_bind (gl_ld es e5 ga_69 z3) ?_
  refine gb_bind (gl_st es e5 (ga_add (gr (s.1 69 (x5).toNat)) kg_1) ga_69 z3) ?_
  exact gf_123_101 hk_20 _ _ (ga_add es0 es1) _ _ e2 _ _ e3 _ _ (rfl : _ = gx (gw1 s 69 (x5).toNat ((s.1 69 (x5).toNat) + 1))) _ h
def gm_123_20 : Nat → Int → Int → Int → gx_S → Option (Int × gx_S)
  | 0, _, _, _, _ => none
  | n + 1, x1, x2, x3, s =>
    if (-2147483648 ≤ x3 ∧ x3 ≤ 2147483647) then (
    if (-2147483648 ≤ x2 ∧ x2 ≤ 2147483647) then (
    if x2 ≤ x3 then (
      some (x1, s)) else (
      (gm_60 1 0 x3 s).bind fun q5 =>
      if (-2147483648 ≤ q5.1 ∧ q5.1 ≤ 2147483647) then (
      if 8 ≤ q5.1 then (
        gm_123_101 (gm_123_20 n) x1 x2 x3 q5.2) else (
        (gm_60 1 1 x3 q5.2).bind fun q9 =>
        (gm_60 1 2 x3 q9.2).bind fun q11 =>
        if 0 ≤ ((((q5.1 * 9) + q9.1) * 4) + q11.1) ∧ ((((q5.1 * 9) + q9.1) * 4) + q11.1) < 288 then (
        if (-2147483648 ≤ (q11.2.1 69 (((((q5.1 * 9) + q9.1) * 4) + q11.1)).toNat) ∧ (q11.2.1 69 (((((q5.1 * 9) + q9.1) * 4) + q11.1)).toNat) ≤ 2147483647) then (
        if ¬ (q11.2.1 69 (((((q5.1 * 9) + q9.1) * 4) + q11.1)).toNat) = 0 then (
          gm_123_88 (gm_123_20 n) x2 x3 ((((q5.1 * 9) + q9.1) * 4) + q11.1) x1 0 q11.2) else (
          gm_123_88 (gm_123_20 n) x2 x3 ((((q5.1 * 9) + q9.1) * 4) + q11.1) x1 1 q11.2)) else none) else none)) else none)) else none) else none
theorem gf_123_20 : ∀ (n : Nat) (x1 : Int) (yx1 : Int32) (e1 : yx1 = Int32.ofInt x1) (x2 : Int) (yx2 : Int32) (e2 : yx2 = Int32.ofInt x2) (x3 : Int) (yx3 : Int32) (e3 : yx3 = Int32.ofInt x3) (s : gx_S) (σ : fx_S) (es : σ = gx s) (q : Int × gx_S), gm_123_20 n x1 x2 x3 s = some q → fm_123_20 n yx1 yx2 yx3 σ = some (Int32.ofInt q.1, gx q.2) := by
  intro n
  induction n with
  | zero =>
    intro x1 yx1 e1 x2 yx2 e2 x3 yx3 e3 s σ es q  h
    rw [gm_123_20] at h
    exact fx_no h
  | succ n ih =>
    intro x1 yx1 e1 x2 yx2 e2 x3 yx3 e3 s σ es q  h
    rw [gm_123_20] at h
    rw [fm_123_20]
    obtain ⟨z1, h⟩ := fx_gd h
    obtain ⟨z2, h⟩ := fx_gd h
    by_cases c3 : x2 ≤ x3
    · rw [if_pos c3] at h
      refine gb_t ((gc_le e2 e3 z2 z1).mpr c3) ?_
      have h := Option.some.inj h
      subst h
      exact gret e1 es
    · rw [if_neg c3] at h
      refine gb_f (fun q => c3 ((gc_le e2 e3 z2 z1).mp q)) ?_
      obtain ⟨q5, w4, h⟩ := fx_bd h
      refine gb_bind (gf_60 kg_0 e3 es w4) ?_
      obtain ⟨z6, h⟩ := fx_gd h
      by_cases c7 : 8 ≤ q5.1
      · rw [if_pos c7] at h
        refine gb_t ((gc_le kg_8 (gr q5.1) (by decide) z6).mpr c7) ?_
        exact gf_123_101 ih _ _ e1 _ _ e2 _ _ e3 _ _ (rfl : _ = gx q5.2) _ h
      · rw [if_neg c7] at h
        refine gb_f (fun q => c7 ((gc_le kg_8 (gr q5.1) (by decide) z6).mp q)) ?_
        obtain ⟨q9, w8, h⟩ := fx_bd h
        refine gb_bind (gf_60 kg_1 e3 (rfl : _ = gx q5.2) w8) ?_
        obtain ⟨q11, w10, h⟩ := fx_bd h
        refine gb_bind (gf_60 kg_2 e3 (rfl : _ = gx q9.2) w10) ?_
        obtain ⟨z14, h⟩ := fx_gd h
        refine gb_bind (gl_ld (rfl : _ = gx q11.2) (ga_add (ga_mul (ga_add (ga_mul (gr q5.1) kg_9) (gr q9.1)) kg_4) (gr q11.1)) ga_69 z14) ?_
        obtain ⟨z15, h⟩ := fx_gd h
        by_cases c16 : ¬ (q11.2.1 69 (((((q5.1 * 9) + q9.1) * 4) + q11.1)).toNat) = 0
        · rw [if_pos c16] at h
          refine gb_t ((gc_ne (gr (q11.2.1 69 (((((q5.1 * 9) + q9.1) * 4) + q11.1)).toNat)) kg_0 z15 (by decide)).mpr c16) ?_
          exact gf_123_88 ih _ _ e2 _ _ e3 _ _ (ga_add (ga_mul (ga_add (ga_mul (gr q5.1) kg_9) (gr q9.1)) kg_4) (gr q11.1)) _ _ e1 _ _ kg_0 _ _ (rfl : _ = gx q11.2) _ h
        · rw [if_neg c16] at h
          refine gb_f (fun q => c16 ((gc_ne (gr (q11.2.1 69 (((((q5.1 * 9) + q9.1) * 4) + q11.1)).toNat)) kg_0 z15 (by decide)).mp q)) ?_
          exact gf_123_88 ih _ _ e2 _ _ e3 _ _ (ga_add (ga_mul (ga_add (ga_mul (gr q5.1) kg_9) (gr q9.1)) kg_4) (gr q11.1)) _ _ e1 _ _ kg_1 _ _ (rfl : _ = gx q11.2) _ h
def gm_123 (s : gx_S) : Option (Int × gx_S) :=
  (gm_235 69 0 s).bind fun q43 =>
  (gm_58 1 q43).bind fun q45 =>
  gm_123_20 100000 0 q45.1 0 q45.2
theorem gf_123 {s : gx_S} {σ : fx_S} (es : σ = gx s) {q : Int × gx_S} (h : gm_123 s = some q) : fm_123 σ = some (Int32.ofInt q.1, gx q.2) := by
  unfold gm_123 at h
  unfold fm_123
  obtain ⟨q43, w42, h⟩ := fx_bd h
  refine gb_bind (gf_235 kg_0 es w42) ?_
  obtain ⟨q45, w44, h⟩ := fx_bd h
  refine gb_bind (gf_58 (rfl : _ = gx q43) w44) ?_
  exact gf_123_20 100000 _ _ kg_0 _ _ (gr q45.1) _ _ kg_0 _ _ (rfl : _ = gx q45.2) _ h

/-! ZoneShares.liesApart(II)Z -/
def gm_125_52 : Nat → Int → Int → Int → gx_S → Option (Bool × gx_S)
  | 0, _, _, _, _ => none
  | n + 1, x1, x3, x4, s =>
    if (-2147483648 ≤ x4 ∧ x4 ≤ 2147483647) then (
    if 8 ≤ x4 then (
      some (false, s)) else (
      if (-2147483648 ≤ x3 ∧ x3 ≤ 2147483647) then (
      if (-2147483648 ≤ ((Int32.ofInt 1 <<< (Int32.ofInt x4 &&& 31))).toInt ∧ ((Int32.ofInt 1 <<< (Int32.ofInt x4 &&& 31))).toInt ≤ 2147483647) then (
      if ¬ x3 = ((Int32.ofInt 1 <<< (Int32.ofInt x4 &&& 31))).toInt then (
        gm_125_52 n x1 x3 (x4 + 1) s) else (
        (gm_62 1 1 x4 s).bind fun q7 =>
        (gm_62 1 0 x1 q7.2).bind fun q9 =>
        if (-2147483648 ≤ q7.1 ∧ q7.1 ≤ 2147483647) then (
        if (-2147483648 ≤ q9.1 ∧ q9.1 ≤ 2147483647) then (
        if ¬ q7.1 = q9.1 then (
          some (false, q9.2)) else (
          some (true, q9.2))) else none) else none)) else none) else none)) else none
theorem gf_125_52 : ∀ (n : Nat) (x1 : Int) (yx1 : Int32) (e1 : yx1 = Int32.ofInt x1) (x3 : Int) (yx3 : Int32) (e3 : yx3 = Int32.ofInt x3) (x4 : Int) (yx4 : Int32) (e4 : yx4 = Int32.ofInt x4) (s : gx_S) (σ : fx_S) (es : σ = gx s) (q : Bool × gx_S), gm_125_52 n x1 x3 x4 s = some q → fm_125_52 n yx1 yx3 yx4 σ = some (q.1, gx q.2) := by
  intro n
  induction n with
  | zero =>
    intro x1 yx1 e1 x3 yx3 e3 x4 yx4 e4 s σ es q  h
    rw [gm_125_52] at h
    exact fx_no h
  | succ n ih =>
    intro x1 yx1 e1 x3 yx3 e3 x4 yx4 e4 s σ es q  h
    rw [gm_125_52] at h
    rw [fm_125_52]
    obtain ⟨z1, h⟩ := fx_gd h
    by_cases c2 : 8 ≤ x4
    · rw [if_pos c2] at h
      refine gb_t ((gc_le kg_8 e4 (by decide) z1).mpr c2) ?_
      have h := Option.some.inj h
      subst h
      exact gretb es
    · rw [if_neg c2] at h
      refine gb_f (fun q => c2 ((gc_le kg_8 e4 (by decide) z1).mp q)) ?_
      obtain ⟨z3, h⟩ := fx_gd h
      obtain ⟨z4, h⟩ := fx_gd h
      by_cases c5 : ¬ x3 = ((Int32.ofInt 1 <<< (Int32.ofInt x4 &&& 31))).toInt
      · rw [if_pos c5] at h
        refine gb_t ((gc_ne e3 (ga_o2 (f := (fun a b => (a <<< (b &&& 31)))) kg_1 e4) z3 z4).mpr c5) ?_
        exact ih _ _ e1 _ _ e3 _ _ (ga_add e4 kg_1) _ _ es _ h
      · rw [if_neg c5] at h
        refine gb_f (fun q => c5 ((gc_ne e3 (ga_o2 (f := (fun a b => (a <<< (b &&& 31)))) kg_1 e4) z3 z4).mp q)) ?_
        obtain ⟨q7, w6, h⟩ := fx_bd h
        refine gb_bind (gf_62 kg_1 e4 es w6) ?_
        obtain ⟨q9, w8, h⟩ := fx_bd h
        refine gb_bind (gf_62 kg_0 e1 (rfl : _ = gx q7.2) w8) ?_
        obtain ⟨z10, h⟩ := fx_gd h
        obtain ⟨z11, h⟩ := fx_gd h
        by_cases c12 : ¬ q7.1 = q9.1
        · rw [if_pos c12] at h
          refine gb_t ((gc_ne (gr q7.1) (gr q9.1) z10 z11).mpr c12) ?_
          have h := Option.some.inj h
          subst h
          exact gretb (rfl : _ = gx q9.2)
        · rw [if_neg c12] at h
          refine gb_f (fun q => c12 ((gc_ne (gr q7.1) (gr q9.1) z10 z11).mp q)) ?_
          have h := Option.some.inj h
          subst h
          exact gretb (rfl : _ = gx q9.2)
def gm_125 (x1 : Int) (x2 : Int) (s : gx_S) : Option (Bool × gx_S) :=
  (gm_65 1 x1 s).bind fun q25 =>
  if (-2147483648 ≤ x2 ∧ x2 ≤ 2147483647) then (
  if ¬ x2 = 3 then (
    if ¬ x2 = 2 then (
      gm_125_52 100000 x1 q25.1 0 q25.2) else (
      (gm_230 q25.1 q25.2).bind fun q30 =>
      if (-2147483648 ≤ q30.1 ∧ q30.1 ≤ 2147483647) then (
      if q30.1 ≤ 1 then (
        some (false, q30.2)) else (
        some (true, q30.2))) else none)) else (
    if (-2147483648 ≤ ((Int32.ofInt (((Int32.ofInt q25.1 >>> (Int32.ofInt 8 &&& 31))).toInt) &&& Int32.ofInt 1)).toInt ∧ ((Int32.ofInt (((Int32.ofInt q25.1 >>> (Int32.ofInt 8 &&& 31))).toInt) &&& Int32.ofInt 1)).toInt ≤ 2147483647) then (
    if ¬ ((Int32.ofInt (((Int32.ofInt q25.1 >>> (Int32.ofInt 8 &&& 31))).toInt) &&& Int32.ofInt 1)).toInt = 1 then (
      some (false, q25.2)) else (
      some (true, q25.2))) else none)) else none
theorem gf_125 {x1 : Int} {yx1 : Int32} (e1 : yx1 = Int32.ofInt x1) {x2 : Int} {yx2 : Int32} (e2 : yx2 = Int32.ofInt x2) {s : gx_S} {σ : fx_S} (es : σ = gx s) {q : Bool × gx_S} (h : gm_125 x1 x2 s = some q) : fm_125 yx1 yx2 σ = some (q.1, gx q.2) := by
  unfold gm_125 at h
  unfold fm_125
  obtain ⟨q25, w24, h⟩ := fx_bd h
  refine gb_bind (gf_65 e1 es w24) ?_
  obtain ⟨z26, h⟩ := fx_gd h
  by_cases c27 : ¬ x2 = 3
  · rw [if_pos c27] at h
    refine gb_t ((gc_ne e2 kg_3 z26 (by decide)).mpr c27) ?_
    by_cases c28 : ¬ x2 = 2
    · rw [if_pos c28] at h
      refine gb_t ((gc_ne e2 kg_2 z26 (by decide)).mpr c28) ?_
      exact gf_125_52 100000 _ _ e1 _ _ (gr q25.1) _ _ kg_0 _ _ (rfl : _ = gx q25.2) _ h
    · rw [if_neg c28] at h
      refine gb_f (fun q => c28 ((gc_ne e2 kg_2 z26 (by decide)).mp q)) ?_
      obtain ⟨q30, w29, h⟩ := fx_bd h
      refine gb_bind (gf_230 (gr q25.1) (rfl : _ = gx q25.2) w29) ?_
      obtain ⟨z31, h⟩ := fx_gd h
      by_cases c32 : q30.1 ≤ 1
      · rw [if_pos c32] at h
        refine gb_t ((gc_le (gr q30.1) kg_1 z31 (by decide)).mpr c32) ?_
        have h := Option.some.inj h
        subst h
        exact gretb (rfl : _ = gx q30.2)
      · rw [if_neg c32] at h
        refine gb_f (fun q => c32 ((gc_le (gr q30.1) kg_1 z31 (by decide)).mp q)) ?_
        have h := Option.some.inj h
        subst h
        exact gretb (rfl : _ = gx q30.2)
  · rw [if_neg c27] at h
    refine gb_f (fun q => c27 ((gc_ne e2 kg_3 z26 (by decide)).mp q)) ?_
    obtain ⟨z33, h⟩ := fx_gd h
    by_cases c34 : ¬ ((Int32.ofInt (((Int32.ofInt q25.1 >>> (Int32.ofInt 8 &&& 31))).toInt) &&& Int32.ofInt 1)).toInt = 1
    · rw [if_pos c34] at h
      refine gb_t ((gc_ne (ga_o2 (f := (fun a b => (a &&& b))) (ga_o2 (f := (fun a b => (a >>> (b &&& 31)))) (gr q25.1) kg_8) kg_1) kg_1 z33 (by decide)).mpr c34) ?_
      have h := Option.some.inj h
      subst h
      exact gretb (rfl : _ = gx q25.2)
    · rw [if_neg c34] at h
      refine gb_f (fun q => c34 ((gc_ne (ga_o2 (f := (fun a b => (a &&& b))) (ga_o2 (f := (fun a b => (a >>> (b &&& 31)))) (gr q25.1) kg_8) kg_1) kg_1 z33 (by decide)).mp q)) ?_
      have h := Option.some.inj h
      subst h
      exact gretb (rfl : _ = gx q25.2)

/-! ZoneShares.lowest(JJI)J -/
def gm_127_28 (x5 : Int) (s0 : Int) (s : gx_S) : Option (Int × gx_S) :=
  if 0 ≤ s0 ∧ s0 ≤ 9223372036854775807 ∧ 0 < x5 ∧ x5 ≤ 9223372036854775807 then (
  some ((s0 / x5), s)) else none
theorem gf_127_28 (x5 : Int) (yx5 : Int64) (e5 : yx5 = Int64.ofInt x5) (s0 : Int) (ys0 : Int64) (es0 : ys0 = Int64.ofInt s0) (s : gx_S) (σ : fx_S) (es : σ = gx s) (q : Int × gx_S) (h : gm_127_28 x5 s0 s = some q) : fm_127_28 yx5 ys0 σ = some (Int64.ofInt q.1, gx q.2) := by
  unfold gm_127_28 at h
  unfold fm_127_28
  obtain ⟨z1, h⟩ := fx_gd h
  refine gb_t (gcl_nz e5 z1) ?_
  have h := Option.some.inj h
  subst h
  exact gretl (gal_div es0 e5 z1) es
def gm_127 (x0 : Int) (x2 : Int) (x4 : Int) (s : gx_S) : Option (Int × gx_S) :=
  (gm_128 x0 x2 s).bind fun q10 =>
  if (-9223372036854775808 ≤ q10.1 ∧ q10.1 ≤ 9223372036854775807) then (
  if ¬ q10.1 = 0 then (
    if (-2147483648 ≤ x4 ∧ x4 ≤ 2147483647) then (
    if ¬ x4 = 0 then (
      gm_127_28 q10.1 x2 q10.2) else (
      gm_127_28 q10.1 x0 q10.2)) else none) else (
    some ((-1), q10.2))) else none
theorem gf_127 {x0 : Int} {yx0 : Int64} (e0 : yx0 = Int64.ofInt x0) {x2 : Int} {yx2 : Int64} (e2 : yx2 = Int64.ofInt x2) {x4 : Int} {yx4 : Int32} (e4 : yx4 = Int32.ofInt x4) {s : gx_S} {σ : fx_S} (es : σ = gx s) {q : Int × gx_S} (h : gm_127 x0 x2 x4 s = some q) : fm_127 yx0 yx2 yx4 σ = some (Int64.ofInt q.1, gx q.2) := by
  unfold gm_127 at h
  unfold fm_127
  obtain ⟨q10, w9, h⟩ := fx_bd h
  refine gb_bind (gf_128 e0 e2 es w9) ?_
  obtain ⟨z11, h⟩ := fx_gd h
  by_cases c12 : ¬ q10.1 = 0
  · rw [if_pos c12] at h
    refine gb_t ((gcl_ne (gr2 q10.1) kgl_0 z11 (by decide)).mpr c12) ?_
    obtain ⟨z13, h⟩ := fx_gd h
    by_cases c14 : ¬ x4 = 0
    · rw [if_pos c14] at h
      refine gb_t ((gc_ne e4 kg_0 z13 (by decide)).mpr c14) ?_
      exact gf_127_28 _ _ (gr2 q10.1) _ _ e2 _ _ (rfl : _ = gx q10.2) _ h
    · rw [if_neg c14] at h
      refine gb_f (fun q => c14 ((gc_ne e4 kg_0 z13 (by decide)).mp q)) ?_
      exact gf_127_28 _ _ (gr2 q10.1) _ _ e0 _ _ (rfl : _ = gx q10.2) _ h
  · rw [if_neg c12] at h
    refine gb_f (fun q => c12 ((gcl_ne (gr2 q10.1) kgl_0 z11 (by decide)).mp q)) ?_
    have h := Option.some.inj h
    subst h
    exact gretl kgl_m1 (rfl : _ = gx q10.2)

/-! ZoneSharesModel.feed(IIIII)I -/
def gm_134 (x1 : Int) (x2 : Int) (x3 : Int) (x4 : Int) (x5 : Int) (s : gx_S) : Option (Int × gx_S) :=
  if (-2147483648 ≤ ((s.1 215 4) + 20) ∧ ((s.1 215 4) + 20) ≤ 2147483647) then (
  if ((s.1 215 4) + 20) ≤ 200 then (
    (gm_135 x1 s).bind fun q16 =>
    (gm_135 x2 q16).bind fun q18 =>
    (gm_135 x3 q18).bind fun q20 =>
    (gm_135 x4 q20).bind fun q22 =>
    (gm_135 x5 q22).bind fun q24 =>
    some ((q24.1 215 4), q24)) else (
    some ((-1), s))) else none
theorem gf_134 {x1 : Int} {yx1 : Int32} (e1 : yx1 = Int32.ofInt x1) {x2 : Int} {yx2 : Int32} (e2 : yx2 = Int32.ofInt x2) {x3 : Int} {yx3 : Int32} (e3 : yx3 = Int32.ofInt x3) {x4 : Int} {yx4 : Int32} (e4 : yx4 = Int32.ofInt x4) {x5 : Int} {yx5 : Int32} (e5 : yx5 = Int32.ofInt x5) {s : gx_S} {σ : fx_S} (es : σ = gx s) {q : Int × gx_S} (h : gm_134 x1 x2 x3 x4 x5 s = some q) : fm_134 yx1 yx2 yx3 yx4 yx5 σ = some (Int32.ofInt q.1, gx q.2) := by
  unfold gm_134 at h
  unfold fm_134
  obtain ⟨z13, h⟩ := fx_gd h
  by_cases c14 : ((s.1 215 4) + 20) ≤ 200
  · rw [if_pos c14] at h
    refine gb_t ((gc_le (ga_add (gf1 es 215 4) kg_20) kg_200 z13 (by decide)).mpr c14) ?_
    obtain ⟨q16, w15, h⟩ := fx_bd h
    refine gb_bind (gf_135 e1 es w15) ?_
    obtain ⟨q18, w17, h⟩ := fx_bd h
    refine gb_bind (gf_135 e2 (rfl : _ = gx q16) w17) ?_
    obtain ⟨q20, w19, h⟩ := fx_bd h
    refine gb_bind (gf_135 e3 (rfl : _ = gx q18) w19) ?_
    obtain ⟨q22, w21, h⟩ := fx_bd h
    refine gb_bind (gf_135 e4 (rfl : _ = gx q20) w21) ?_
    obtain ⟨q24, w23, h⟩ := fx_bd h
    refine gb_bind (gf_135 e5 (rfl : _ = gx q22) w23) ?_
    have h := Option.some.inj h
    subst h
    exact gret (gf1 (rfl : _ = gx q24) 215 4) (rfl : _ = gx q24)
  · rw [if_neg c14] at h
    refine gb_f (fun q => c14 ((gc_le (ga_add (gf1 es 215 4) kg_20) kg_200 z13 (by decide)).mp q)) ?_
    have h := Option.some.inj h
    subst h
    exact gret kg_m1 es

/-! ZoneSharesModel.isApart(II)Z -/
def gm_222 (x1 : Int) (x2 : Int) (s : gx_S) : Option (Bool × gx_S) :=
  (gm_221 x1 s).bind fun q28 =>
  if (-2147483648 ≤ x2 ∧ x2 ≤ 2147483647) then (
  if ¬ x2 = 1 then (
    if ¬ x2 = 2 then (
      if (-2147483648 ≤ ((Int32.ofInt (((Int32.ofInt q28.1 >>> (Int32.ofInt 8 &&& 31))).toInt) &&& Int32.ofInt 1)).toInt ∧ ((Int32.ofInt (((Int32.ofInt q28.1 >>> (Int32.ofInt 8 &&& 31))).toInt) &&& Int32.ofInt 1)).toInt ≤ 2147483647) then (
      if ¬ ((Int32.ofInt (((Int32.ofInt q28.1 >>> (Int32.ofInt 8 &&& 31))).toInt) &&& Int32.ofInt 1)).toInt = 1 then (
        some (false, q28.2)) else (
        some (true, q28.2))) else none) else (
      (gm_230 q28.1 q28.2).bind fun q35 =>
      if (-2147483648 ≤ q35.1 ∧ q35.1 ≤ 2147483647) then (
      if q35.1 ≤ 1 then (
        some (false, q35.2)) else (
        some (true, q35.2))) else none)) else (
    (gm_230 q28.1 q28.2).bind fun q39 =>
    if (-2147483648 ≤ q39.1 ∧ q39.1 ≤ 2147483647) then (
    if ¬ q39.1 = 1 then (
      some (false, q39.2)) else (
      if (-2147483648 ≤ ((Int32.ofInt (((Int32.ofInt q28.1 >>> (Int32.ofInt 8 &&& 31))).toInt) &&& Int32.ofInt 1)).toInt ∧ ((Int32.ofInt (((Int32.ofInt q28.1 >>> (Int32.ofInt 8 &&& 31))).toInt) &&& Int32.ofInt 1)).toInt ≤ 2147483647) then (
      if ¬ ((Int32.ofInt (((Int32.ofInt q28.1 >>> (Int32.ofInt 8 &&& 31))).toInt) &&& Int32.ofInt 1)).toInt = 0 then (
        some (false, q39.2)) else (
        (gm_229 q28.1 q39.2).bind fun q45 =>
        (gm_202 q45.1 q45.2).bind fun q47 =>
        (gm_158 x1 q47.2).bind fun q49 =>
        if (-2147483648 ≤ q47.1 ∧ q47.1 ≤ 2147483647) then (
        if (-2147483648 ≤ q49.1 ∧ q49.1 ≤ 2147483647) then (
        if ¬ q47.1 = q49.1 then (
          some (false, q49.2)) else (
          some (true, q49.2))) else none) else none)) else none)) else none)) else none
theorem gf_222 {x1 : Int} {yx1 : Int32} (e1 : yx1 = Int32.ofInt x1) {x2 : Int} {yx2 : Int32} (e2 : yx2 = Int32.ofInt x2) {s : gx_S} {σ : fx_S} (es : σ = gx s) {q : Bool × gx_S} (h : gm_222 x1 x2 s = some q) : fm_222 yx1 yx2 σ = some (q.1, gx q.2) := by
  unfold gm_222 at h
  unfold fm_222
  obtain ⟨q28, w27, h⟩ := fx_bd h
  refine gb_bind (gf_221 e1 es w27) ?_
  obtain ⟨z29, h⟩ := fx_gd h
  by_cases c30 : ¬ x2 = 1
  · rw [if_pos c30] at h
    refine gb_t ((gc_ne e2 kg_1 z29 (by decide)).mpr c30) ?_
    by_cases c31 : ¬ x2 = 2
    · rw [if_pos c31] at h
      refine gb_t ((gc_ne e2 kg_2 z29 (by decide)).mpr c31) ?_
      obtain ⟨z32, h⟩ := fx_gd h
      by_cases c33 : ¬ ((Int32.ofInt (((Int32.ofInt q28.1 >>> (Int32.ofInt 8 &&& 31))).toInt) &&& Int32.ofInt 1)).toInt = 1
      · rw [if_pos c33] at h
        refine gb_t ((gc_ne (ga_o2 (f := (fun a b => (a &&& b))) (ga_o2 (f := (fun a b => (a >>> (b &&& 31)))) (gr q28.1) kg_8) kg_1) kg_1 z32 (by decide)).mpr c33) ?_
        have h := Option.some.inj h
        subst h
        exact gretb (rfl : _ = gx q28.2)
      · rw [if_neg c33] at h
        refine gb_f (fun q => c33 ((gc_ne (ga_o2 (f := (fun a b => (a &&& b))) (ga_o2 (f := (fun a b => (a >>> (b &&& 31)))) (gr q28.1) kg_8) kg_1) kg_1 z32 (by decide)).mp q)) ?_
        have h := Option.some.inj h
        subst h
        exact gretb (rfl : _ = gx q28.2)
    · rw [if_neg c31] at h
      refine gb_f (fun q => c31 ((gc_ne e2 kg_2 z29 (by decide)).mp q)) ?_
      obtain ⟨q35, w34, h⟩ := fx_bd h
      refine gb_bind (gf_230 (gr q28.1) (rfl : _ = gx q28.2) w34) ?_
      obtain ⟨z36, h⟩ := fx_gd h
      by_cases c37 : q35.1 ≤ 1
      · rw [if_pos c37] at h
        refine gb_t ((gc_le (gr q35.1) kg_1 z36 (by decide)).mpr c37) ?_
        have h := Option.some.inj h
        subst h
        exact gretb (rfl : _ = gx q35.2)
      · rw [if_neg c37] at h
        refine gb_f (fun q => c37 ((gc_le (gr q35.1) kg_1 z36 (by decide)).mp q)) ?_
        have h := Option.some.inj h
        subst h
        exact gretb (rfl : _ = gx q35.2)
  · rw [if_neg c30] at h
    refine gb_f (fun q => c30 ((gc_ne e2 kg_1 z29 (by decide)).mp q)) ?_
    obtain ⟨q39, w38, h⟩ := fx_bd h
    refine gb_bind (gf_230 (gr q28.1) (rfl : _ = gx q28.2) w38) ?_
    obtain ⟨z40, h⟩ := fx_gd h
    by_cases c41 : ¬ q39.1 = 1
    · rw [if_pos c41] at h
      refine gb_t ((gc_ne (gr q39.1) kg_1 z40 (by decide)).mpr c41) ?_
      have h := Option.some.inj h
      subst h
      exact gretb (rfl : _ = gx q39.2)
    · rw [if_neg c41] at h
      refine gb_f (fun q => c41 ((gc_ne (gr q39.1) kg_1 z40 (by decide)).mp q)) ?_
      obtain ⟨z42, h⟩ := fx_gd h
      by_cases c43 : ¬ ((Int32.ofInt (((Int32.ofInt q28.1 >>> (Int32.ofInt 8 &&& 31))).toInt) &&& Int32.ofInt 1)).toInt = 0
      · rw [if_pos c43] at h
        refine gb_t ((gc_ne (ga_o2 (f := (fun a b => (a &&& b))) (ga_o2 (f := (fun a b => (a >>> (b &&& 31)))) (gr q28.1) kg_8) kg_1) kg_0 z42 (by decide)).mpr c43) ?_
        have h := Option.some.inj h
        subst h
        exact gretb (rfl : _ = gx q39.2)
      · rw [if_neg c43] at h
        refine gb_f (fun q => c43 ((gc_ne (ga_o2 (f := (fun a b => (a &&& b))) (ga_o2 (f := (fun a b => (a >>> (b &&& 31)))) (gr q28.1) kg_8) kg_1) kg_0 z42 (by decide)).mp q)) ?_
        obtain ⟨q45, w44, h⟩ := fx_bd h
        refine gb_bind (gf_229 (gr q28.1) (rfl : _ = gx q39.2) w44) ?_
        obtain ⟨q47, w46, h⟩ := fx_bd h
        refine gb_bind (gf_202 (gr q45.1) (rfl : _ = gx q45.2) w46) ?_
        obtain ⟨q49, w48, h⟩ := fx_bd h
        refine gb_bind (gf_158 e1 (rfl : _ = gx q47.2) w48) ?_
        obtain ⟨z50, h⟩ := fx_gd h
        obtain ⟨z51, h⟩ := fx_gd h
        by_cases c52 : ¬ q47.1 = q49.1
        · rw [if_pos c52] at h
          refine gb_t ((gc_ne (gr q47.1) (gr q49.1) z50 z51).mpr c52) ?_
          have h := Option.some.inj h
          subst h
          exact gretb (rfl : _ = gx q49.2)
        · rw [if_neg c52] at h
          refine gb_f (fun q => c52 ((gc_ne (gr q47.1) (gr q49.1) z50 z51).mp q)) ?_
          have h := Option.some.inj h
          subst h
          exact gretb (rfl : _ = gx q49.2)

/-! ZoneSharesModel.apart(I)I -/
def gm_223_108 (x2 : Int) (s : gx_S) : Option (Int × gx_S) :=
  some (x2, s)
theorem gf_223_108 (x2 : Int) (yx2 : Int32) (e2 : yx2 = Int32.ofInt x2) (s : gx_S) (σ : fx_S) (es : σ = gx s) (q : Int × gx_S) (h : gm_223_108 x2 s = some q) : fm_223_108 yx2 σ = some (Int32.ofInt q.1, gx q.2) := by
  unfold gm_223_108 at h
  unfold fm_223_108
  have h := Option.some.inj h
  subst h
  exact gret e2 es
def gm_223_80 : Nat → Int → Int → Int → gx_S → Option (Int × gx_S)
  | 0, _, _, _, _ => none
  | n + 1, x1, x2, x3, s =>
    if (-2147483648 ≤ x3 ∧ x3 ≤ 2147483647) then (
    if 8 ≤ x3 then (
      gm_223_108 x2 s) else (
      if (-2147483648 ≤ x1 ∧ x1 ≤ 2147483647) then (
      if x1 ≤ 0 then (
        gm_223_108 x2 s) else (
        (gm_222 x3 x1 s).bind fun q6 =>
        (gm_131 (gb q6.1) q6.2).bind fun q8 =>
        gm_223_80 n x1 (x2 + q8.1) (x3 + 1) q8.2)) else none)) else none
theorem gf_223_80 : ∀ (n : Nat) (x1 : Int) (yx1 : Int32) (e1 : yx1 = Int32.ofInt x1) (x2 : Int) (yx2 : Int32) (e2 : yx2 = Int32.ofInt x2) (x3 : Int) (yx3 : Int32) (e3 : yx3 = Int32.ofInt x3) (s : gx_S) (σ : fx_S) (es : σ = gx s) (q : Int × gx_S), gm_223_80 n x1 x2 x3 s = some q → fm_223_80 n yx1 yx2 yx3 σ = some (Int32.ofInt q.1, gx q.2) := by
  intro n
  induction n with
  | zero =>
    intro x1 yx1 e1 x2 yx2 e2 x3 yx3 e3 s σ es q  h
    rw [gm_223_80] at h
    exact fx_no h
  | succ n ih =>
    intro x1 yx1 e1 x2 yx2 e2 x3 yx3 e3 s σ es q  h
    rw [gm_223_80] at h
    rw [fm_223_80]
    obtain ⟨z1, h⟩ := fx_gd h
    by_cases c2 : 8 ≤ x3
    · rw [if_pos c2] at h
      refine gb_t ((gc_le kg_8 e3 (by decide) z1).mpr c2) ?_
      exact gf_223_108 _ _ e2 _ _ es _ h
    · rw [if_neg c2] at h
      refine gb_f (fun q => c2 ((gc_le kg_8 e3 (by decide) z1).mp q)) ?_
      obtain ⟨z3, h⟩ := fx_gd h
      by_cases c4 : x1 ≤ 0
      · rw [if_pos c4] at h
        refine gb_t ((gc_le e1 kg_0 z3 (by decide)).mpr c4) ?_
        exact gf_223_108 _ _ e2 _ _ es _ h
      · rw [if_neg c4] at h
        refine gb_f (fun q => c4 ((gc_le e1 kg_0 z3 (by decide)).mp q)) ?_
        obtain ⟨q6, w5, h⟩ := fx_bd h
        refine gb_bind (gf_222 e3 e1 es w5) ?_
        obtain ⟨q8, w7, h⟩ := fx_bd h
        refine gb_bind (gf_131 (gb_b q6.1) (rfl : _ = gx q6.2) w7) ?_
        exact ih _ _ e1 _ _ (ga_add e2 (gr q8.1)) _ _ (ga_add e3 kg_1) _ _ (rfl : _ = gx q8.2) _ h
def gm_223_78 (x1 : Int) (x2 : Int) (s : gx_S) : Option (Int × gx_S) :=
  gm_223_80 100000 x1 x2 0 s
theorem gf_223_78 (x1 : Int) (yx1 : Int32) (e1 : yx1 = Int32.ofInt x1) (x2 : Int) (yx2 : Int32) (e2 : yx2 = Int32.ofInt x2) (s : gx_S) (σ : fx_S) (es : σ = gx s) (q : Int × gx_S) (h : gm_223_78 x1 x2 s = some q) : fm_223_78 yx1 yx2 σ = some (Int32.ofInt q.1, gx q.2) := by
  unfold gm_223_78 at h
  unfold fm_223_78
  exact gf_223_80 100000 _ _ e1 _ _ e2 _ _ kg_0 _ _ es _ h
def gm_223_67 (k_34 : Int → Int → Int → gx_S → Option (Int × gx_S)) (x1 : Int) (x3 : Int) (s0 : Int) (s1 : Int) (s : gx_S) : Option (Int × gx_S) :=
  (gm_131 s1 s).bind fun q2 =>
  k_34 x1 (s0 + q2.1) (x3 + 1) q2.2
theorem gf_223_67 {kf_34 : Int32 → Int32 → Int32 → fx_S → Option (Int32 × fx_S)} {kg_34 : Int → Int → Int → gx_S → Option (Int × gx_S)} (hk_34 : ∀ (x1 : Int) (yx1 : Int32) (e1 : yx1 = Int32.ofInt x1) (x2 : Int) (yx2 : Int32) (e2 : yx2 = Int32.ofInt x2) (x3 : Int) (yx3 : Int32) (e3 : yx3 = Int32.ofInt x3) (s : gx_S) (σ : fx_S) (es : σ = gx s) (q : Int × gx_S), kg_34 x1 x2 x3 s = some q → kf_34 yx1 yx2 yx3 σ = some (Int32.ofInt q.1, gx q.2)) (x1 : Int) (yx1 : Int32) (e1 : yx1 = Int32.ofInt x1) (x3 : Int) (yx3 : Int32) (e3 : yx3 = Int32.ofInt x3) (s0 : Int) (ys0 : Int32) (es0 : ys0 = Int32.ofInt s0) (s1 : Int) (ys1 : Int32) (es1 : ys1 = Int32.ofInt s1) (s : gx_S) (σ : fx_S) (es : σ = gx s) (q : Int × gx_S) (h : gm_223_67 kg_34 x1 x3 s0 s1 s = some q) : fm_223_67 kf_34 yx1 yx3 ys0 ys1 σ = some (Int32.ofInt q.1, gx q.2) := by
  unfold gm_223_67 at h
  unfold fm_223_67
  obtain ⟨q2, w1, h⟩ := fx_bd h
  refine gb_bind (gf_131 es1 es w1) ?_
  exact hk_34 _ _ e1 _ _ (ga_add es0 (gr q2.1)) _ _ (ga_add e3 kg_1) _ _ (rfl : _ = gx q2.2) _ h
def gm_223_34 : Nat → Int → Int → Int → gx_S → Option (Int × gx_S)
  | 0, _, _, _, _ => none
  | n + 1, x1, x2, x3, s =>
    (gm_151 s).bind fun q2 =>
    if (-2147483648 ≤ x3 ∧ x3 ≤ 2147483647) then (
    if (-2147483648 ≤ q2.1 ∧ q2.1 ≤ 2147483647) then (
    if q2.1 ≤ x3 then (
      gm_223_78 x1 x2 q2.2) else (
      if (-2147483648 ≤ x1 ∧ x1 ≤ 2147483647) then (
      if ¬ x1 = 0 then (
        gm_223_78 x1 x2 q2.2) else (
        (gm_152 0 x3 q2.2).bind fun q9 =>
        (gm_152 1 x3 q9.2).bind fun q11 =>
        if (-2147483648 ≤ q9.1 ∧ q9.1 ≤ 2147483647) then (
        if (-2147483648 ≤ q11.1 ∧ q11.1 ≤ 2147483647) then (
        if q9.1 = q11.1 then (
          gm_223_67 (gm_223_34 n) x1 x3 x2 0 q11.2) else (
          gm_223_67 (gm_223_34 n) x1 x3 x2 1 q11.2)) else none) else none)) else none)) else none) else none
theorem gf_223_34 : ∀ (n : Nat) (x1 : Int) (yx1 : Int32) (e1 : yx1 = Int32.ofInt x1) (x2 : Int) (yx2 : Int32) (e2 : yx2 = Int32.ofInt x2) (x3 : Int) (yx3 : Int32) (e3 : yx3 = Int32.ofInt x3) (s : gx_S) (σ : fx_S) (es : σ = gx s) (q : Int × gx_S), gm_223_34 n x1 x2 x3 s = some q → fm_223_34 n yx1 yx2 yx3 σ = some (Int32.ofInt q.1, gx q.2) := by
  intro n
  induction n with
  | zero =>
    intro x1 yx1 e1 x2 yx2 e2 x3 yx3 e3 s σ es q  h
    rw [gm_223_34] at h
    exact fx_no h
  | succ n ih =>
    intro x1 yx1 e1 x2 yx2 e2 x3 yx3 e3 s σ es q  h
    rw [gm_223_34] at h
    rw [fm_223_34]
    obtain ⟨q2, w1, h⟩ := fx_bd h
    refine gb_bind (gf_151 es w1) ?_
    obtain ⟨z3, h⟩ := fx_gd h
    obtain ⟨z4, h⟩ := fx_gd h
    by_cases c5 : q2.1 ≤ x3
    · rw [if_pos c5] at h
      refine gb_t ((gc_le (gr q2.1) e3 z4 z3).mpr c5) ?_
      exact gf_223_78 _ _ e1 _ _ e2 _ _ (rfl : _ = gx q2.2) _ h
    · rw [if_neg c5] at h
      refine gb_f (fun q => c5 ((gc_le (gr q2.1) e3 z4 z3).mp q)) ?_
      obtain ⟨z6, h⟩ := fx_gd h
      by_cases c7 : ¬ x1 = 0
      · rw [if_pos c7] at h
        refine gb_t ((gc_ne e1 kg_0 z6 (by decide)).mpr c7) ?_
        exact gf_223_78 _ _ e1 _ _ e2 _ _ (rfl : _ = gx q2.2) _ h
      · rw [if_neg c7] at h
        refine gb_f (fun q => c7 ((gc_ne e1 kg_0 z6 (by decide)).mp q)) ?_
        obtain ⟨q9, w8, h⟩ := fx_bd h
        refine gb_bind (gf_152 kg_0 e3 (rfl : _ = gx q2.2) w8) ?_
        obtain ⟨q11, w10, h⟩ := fx_bd h
        refine gb_bind (gf_152 kg_1 e3 (rfl : _ = gx q9.2) w10) ?_
        obtain ⟨z12, h⟩ := fx_gd h
        obtain ⟨z13, h⟩ := fx_gd h
        by_cases c14 : q9.1 = q11.1
        · rw [if_pos c14] at h
          refine gb_t ((gc_eq (gr q9.1) (gr q11.1) z12 z13).mpr c14) ?_
          exact gf_223_67 ih _ _ e1 _ _ e3 _ _ e2 _ _ kg_0 _ _ (rfl : _ = gx q11.2) _ h
        · rw [if_neg c14] at h
          refine gb_f (fun q => c14 ((gc_eq (gr q9.1) (gr q11.1) z12 z13).mp q)) ?_
          exact gf_223_67 ih _ _ e1 _ _ e3 _ _ e2 _ _ kg_1 _ _ (rfl : _ = gx q11.2) _ h
def gm_223 (x1 : Int) (s : gx_S) : Option (Int × gx_S) :=
  if (-2147483648 ≤ x1 ∧ x1 ≤ 2147483647) then (
  (gm_130 x1 0 3 s).bind fun q37 =>
  if (gb q37.1) = 0 then (
    some ((-1), q37.2)) else (
    (gm_144 0 q37.2).bind fun q40 =>
    if (gb q40.1) = 0 then (
      some ((-1), q40.2)) else (
      (gm_144 1 q40.2).bind fun q43 =>
      if ¬ (gb q43.1) = 0 then (
        gm_223_34 100000 x1 0 0 q43.2) else (
        some ((-1), q43.2))))) else none
theorem gf_223 {x1 : Int} {yx1 : Int32} (e1 : yx1 = Int32.ofInt x1) {s : gx_S} {σ : fx_S} (es : σ = gx s) {q : Int × gx_S} (h : gm_223 x1 s = some q) : fm_223 yx1 σ = some (Int32.ofInt q.1, gx q.2) := by
  unfold gm_223 at h
  unfold fm_223
  obtain ⟨z35, h⟩ := fx_gd h
  obtain ⟨q37, w36, h⟩ := fx_bd h
  refine gb_bind (gf_130 (ga_i2l e1 z35) kgl_0 kgl_3 es w36) ?_
  by_cases c38 : (gb q37.1) = 0
  · rw [if_pos c38] at h
    refine gb_t ((gc_eq (gb_b q37.1) kg_0 (gb_r _) (by decide)).mpr c38) ?_
    have h := Option.some.inj h
    subst h
    exact gret kg_m1 (rfl : _ = gx q37.2)
  · rw [if_neg c38] at h
    refine gb_f (fun q => c38 ((gc_eq (gb_b q37.1) kg_0 (gb_r _) (by decide)).mp q)) ?_
    obtain ⟨q40, w39, h⟩ := fx_bd h
    refine gb_bind (gf_144 kg_0 (rfl : _ = gx q37.2) w39) ?_
    by_cases c41 : (gb q40.1) = 0
    · rw [if_pos c41] at h
      refine gb_t ((gc_eq (gb_b q40.1) kg_0 (gb_r _) (by decide)).mpr c41) ?_
      have h := Option.some.inj h
      subst h
      exact gret kg_m1 (rfl : _ = gx q40.2)
    · rw [if_neg c41] at h
      refine gb_f (fun q => c41 ((gc_eq (gb_b q40.1) kg_0 (gb_r _) (by decide)).mp q)) ?_
      obtain ⟨q43, w42, h⟩ := fx_bd h
      refine gb_bind (gf_144 kg_1 (rfl : _ = gx q40.2) w42) ?_
      by_cases c44 : ¬ (gb q43.1) = 0
      · rw [if_pos c44] at h
        refine gb_t ((gc_ne (gb_b q43.1) kg_0 (gb_r _) (by decide)).mpr c44) ?_
        exact gf_223_34 100000 _ _ e1 _ _ kg_0 _ _ kg_0 _ _ (rfl : _ = gx q43.2) _ h
      · rw [if_neg c44] at h
        refine gb_f (fun q => c44 ((gc_ne (gb_b q43.1) kg_0 (gb_r _) (by decide)).mp q)) ?_
        have h := Option.some.inj h
        subst h
        exact gret kg_m1 (rfl : _ = gx q43.2)

/-! ZoneShares$CountsText.wrongPart(LZoneShares$Tape;)I -/
def gm_5 (s : gx_S) : Option (Int × gx_S) :=
  (gm_83 (s.1 60 2) s).bind fun q28 =>
  (gm_7 q28.1 q28.2).bind fun q30 =>
  if (-2147483648 ≤ q30.1 ∧ q30.1 ≤ 2147483647) then (
  if ¬ q30.1 = (-1) then (
    if (-2147483648 ≤ ((Int32.ofInt (((Int32.ofInt (q30.2.1 60 1) >>> (Int32.ofInt q30.1 &&& 31))).toInt) &&& Int32.ofInt 1)).toInt ∧ ((Int32.ofInt (((Int32.ofInt (q30.2.1 60 1) >>> (Int32.ofInt q30.1 &&& 31))).toInt) &&& Int32.ofInt 1)).toInt ≤ 2147483647) then (
    if ¬ ((Int32.ofInt (((Int32.ofInt (q30.2.1 60 1) >>> (Int32.ofInt q30.1 &&& 31))).toInt) &&& Int32.ofInt 1)).toInt = 1 then (
      (gm_83 ((gw1 (gw1 q30.2 60 1 (((Int32.ofInt (q30.2.1 60 1) ||| Int32.ofInt (((Int32.ofInt 1 <<< (Int32.ofInt q30.1 &&& 31))).toInt))).toInt)) 60 2 (((gw1 q30.2 60 1 (((Int32.ofInt (q30.2.1 60 1) ||| Int32.ofInt (((Int32.ofInt 1 <<< (Int32.ofInt q30.1 &&& 31))).toInt))).toInt)).1 60 2) + 1)).1 60 2) (gw1 (gw1 q30.2 60 1 (((Int32.ofInt (q30.2.1 60 1) ||| Int32.ofInt (((Int32.ofInt 1 <<< (Int32.ofInt q30.1 &&& 31))).toInt))).toInt)) 60 2 (((gw1 q30.2 60 1 (((Int32.ofInt (q30.2.1 60 1) ||| Int32.ofInt (((Int32.ofInt 1 <<< (Int32.ofInt q30.1 &&& 31))).toInt))).toInt)).1 60 2) + 1))).bind fun q36 =>
      if (-2147483648 ≤ q36.1 ∧ q36.1 ≤ 2147483647) then (
      if q36.1 = 61 then (
        (gm_83 ((gw1 q36.2 60 2 ((q36.2.1 60 2) + 1)).1 60 2) (gw1 q36.2 60 2 ((q36.2.1 60 2) + 1))).bind fun q40 =>
        (gm_8 q40.1 q40.2).bind fun q42 =>
        if ¬ (gb q42.1) = 0 then (
          (gm_6 q42.2).bind fun q45 =>
          if 0 ≤ q30.1 ∧ q30.1 < 9 then (
          if (-2147483648 ≤ ((gw1 q45.2 61 (q30.1).toNat q45.1).1 61 (q30.1).toNat) ∧ ((gw1 q45.2 61 (q30.1).toNat q45.1).1 61 (q30.1).toNat) ≤ 2147483647) then (
          if ((gw1 q45.2 61 (q30.1).toNat q45.1).1 61 (q30.1).toNat) ≤ 9999 then (
            some (0, (gw1 q45.2 61 (q30.1).toNat q45.1))) else (
            some (2, (gw1 (gw1 q45.2 61 (q30.1).toNat q45.1) 60 2 (q42.2.1 60 2))))) else none) else none) else (
          some (1, q42.2))) else (
        some (1, q36.2))) else none) else (
      some (3, q30.2))) else none) else (
    some (1, q30.2))) else none
theorem gf_5 {s : gx_S} {σ : fx_S} (es : σ = gx s) {q : Int × gx_S} (h : gm_5 s = some q) : fm_5 σ = some (Int32.ofInt q.1, gx q.2) := by
  unfold gm_5 at h
  unfold fm_5
  obtain ⟨q28, w27, h⟩ := fx_bd h
  refine gb_bind (gf_83 (gf1 es 60 2) es w27) ?_
  obtain ⟨q30, w29, h⟩ := fx_bd h
  refine gb_bind (gf_7 (gr q28.1) (rfl : _ = gx q28.2) w29) ?_
  obtain ⟨z31, h⟩ := fx_gd h
  by_cases c32 : ¬ q30.1 = (-1)
  · rw [if_pos c32] at h
    refine gb_t ((gc_ne (gr q30.1) kg_m1 z31 (by decide)).mpr c32) ?_
    obtain ⟨z33, h⟩ := fx_gd h
    by_cases c34 : ¬ ((Int32.ofInt (((Int32.ofInt (q30.2.1 60 1) >>> (Int32.ofInt q30.1 &&& 31))).toInt) &&& Int32.ofInt 1)).toInt = 1
    · rw [if_pos c34] at h
      refine gb_t ((gc_ne (ga_o2 (f := (fun a b => (a &&& b))) (ga_o2 (f := (fun a b => (a >>> (b &&& 31)))) (gf1 (rfl : _ = gx q30.2) 60 1) (gr q30.1)) kg_1) kg_1 z33 (by decide)).mpr c34) ?_
      obtain ⟨q36, w35, h⟩ := fx_bd h
      refine gb_bind (gf_83 (gf1 (gx_w1 (gx_w1 (rfl : _ = gx q30.2) (ga_o2 (f := (fun a b => (a ||| b))) (gf1 (rfl : _ = gx q30.2) 60 1) (ga_o2 (f := (fun a b => (a <<< (b &&& 31)))) kg_1 (gr q30.1)))) (ga_add (gf1 (gx_w1 (rfl : _ = gx q30.2) (ga_o2 (f := (fun a b => (a ||| b))) (gf1 (rfl : _ = gx q30.2) 60 1) (ga_o2 (f := (fun a b => (a <<< (b &&& 31)))) kg_1 (gr q30.1)))) 60 2) kg_1)) 60 2) (gx_w1 (gx_w1 (rfl : _ = gx q30.2) (ga_o2 (f := (fun a b => (a ||| b))) (gf1 (rfl : _ = gx q30.2) 60 1) (ga_o2 (f := (fun a b => (a <<< (b &&& 31)))) kg_1 (gr q30.1)))) (ga_add (gf1 (gx_w1 (rfl : _ = gx q30.2) (ga_o2 (f := (fun a b => (a ||| b))) (gf1 (rfl : _ = gx q30.2) 60 1) (ga_o2 (f := (fun a b => (a <<< (b &&& 31)))) kg_1 (gr q30.1)))) 60 2) kg_1)) w35) ?_
      obtain ⟨z37, h⟩ := fx_gd h
      by_cases c38 : q36.1 = 61
      · rw [if_pos c38] at h
        refine gb_t ((gc_eq (gr q36.1) kg_61 z37 (by decide)).mpr c38) ?_
        obtain ⟨q40, w39, h⟩ := fx_bd h
        refine gb_bind (gf_83 (gf1 (gx_w1 (rfl : _ = gx q36.2) (ga_add (gf1 (rfl : _ = gx q36.2) 60 2) kg_1)) 60 2) (gx_w1 (rfl : _ = gx q36.2) (ga_add (gf1 (rfl : _ = gx q36.2) 60 2) kg_1)) w39) ?_
        obtain ⟨q42, w41, h⟩ := fx_bd h
        refine gb_bind (gf_8 (gr q40.1) (rfl : _ = gx q40.2) w41) ?_
        by_cases c43 : ¬ (gb q42.1) = 0
        · rw [if_pos c43] at h
          refine gb_t ((gc_ne (gb_b q42.1) kg_0 (gb_r _) (by decide)).mpr c43) ?_
          obtain ⟨q45, w44, h⟩ := fx_bd h
          refine gb_bind (gf_6 (rfl : _ = gx q42.2) w44) ?_
          obtain ⟨z48, h⟩ := fx_gd h
          refine gb_bind (gl_st (rfl : _ = gx q45.2) (gr q30.1) (gr q45.1) ga_61 z48) ?_
          refine gb_bind (gl_ld (rfl : _ = gx (gw1 q45.2 61 (q30.1).toNat q45.1)) (gr q30.1) ga_61 z48) ?_
          obtain ⟨z51, h⟩ := fx_gd h
          by_cases c52 : ((gw1 q45.2 61 (q30.1).toNat q45.1).1 61 (q30.1).toNat) ≤ 9999
          · rw [if_pos c52] at h
            refine gb_t ((gc_le (gr ((gw1 q45.2 61 (q30.1).toNat q45.1).1 61 (q30.1).toNat)) kg_9999 z51 (by decide)).mpr c52) ?_
            have h := Option.some.inj h
            subst h
            exact gret kg_0 (rfl : _ = gx (gw1 q45.2 61 (q30.1).toNat q45.1))
          · rw [if_neg c52] at h
            refine gb_f (fun q => c52 ((gc_le (gr ((gw1 q45.2 61 (q30.1).toNat q45.1).1 61 (q30.1).toNat)) kg_9999 z51 (by decide)).mp q)) ?_
            have h := Option.some.inj h
            subst h
            exact gret kg_2 (gx_w1 (rfl : _ = gx (gw1 q45.2 61 (q30.1).toNat q45.1)) (gf1 (rfl : _ = gx q42.2) 60 2))
        · rw [if_neg c43] at h
          refine gb_f (fun q => c43 ((gc_ne (gb_b q42.1) kg_0 (gb_r _) (by decide)).mp q)) ?_
          have h := Option.some.inj h
          subst h
          exact gret kg_1 (rfl : _ = gx q42.2)
      · rw [if_neg c38] at h
        refine gb_f (fun q => c38 ((gc_eq (gr q36.1) kg_61 z37 (by decide)).mp q)) ?_
        have h := Option.some.inj h
        subst h
        exact gret kg_1 (rfl : _ = gx q36.2)
    · rw [if_neg c34] at h
      refine gb_f (fun q => c34 ((gc_ne (ga_o2 (f := (fun a b => (a &&& b))) (ga_o2 (f := (fun a b => (a >>> (b &&& 31)))) (gf1 (rfl : _ = gx q30.2) 60 1) (gr q30.1)) kg_1) kg_1 z33 (by decide)).mp q)) ?_
      have h := Option.some.inj h
      subst h
      exact gret kg_3 (rfl : _ = gx q30.2)
  · rw [if_neg c32] at h
    refine gb_f (fun q => c32 ((gc_ne (gr q30.1) kg_m1 z31 (by decide)).mp q)) ?_
    have h := Option.some.inj h
    subst h
    exact gret kg_1 (rfl : _ = gx q30.2)

/-! ZoneShares$Fitter.look(LZoneShares$State;I)V -/
def gm_10_98 (k_28 : Nat → Int → Int → gx_S → Option (gx_S)) (x1 : Nat) (x2 : Int) (x3 : Int) (s : gx_S) : Option (gx_S) :=
  k_28 x1 x2 (x3 + 1) s
theorem gf_10_98 {kf_28 : Nat → Int32 → Int32 → fx_S → Option (fx_S)} {kg_28 : Nat → Int → Int → gx_S → Option (gx_S)} (hk_28 : ∀ (x1 : Nat) (x2 : Int) (yx2 : Int32) (e2 : yx2 = Int32.ofInt x2) (x3 : Int) (yx3 : Int32) (e3 : yx3 = Int32.ofInt x3) (s : gx_S) (σ : fx_S) (es : σ = gx s) (q : gx_S) (g1 : fx_oc x1 6 = true), kg_28 x1 x2 x3 s = some q → kf_28 x1 yx2 yx3 σ = some (gx q)) (x1 : Nat) (x2 : Int) (yx2 : Int32) (e2 : yx2 = Int32.ofInt x2) (x3 : Int) (yx3 : Int32) (e3 : yx3 = Int32.ofInt x3) (s : gx_S) (σ : fx_S) (es : σ = gx s) (q : gx_S) (g1 : fx_oc x1 6 = true) (h : gm_10_98 kg_28 x1 x2 x3 s = some q) : fm_10_98 kf_28 x1 yx2 yx3 σ = some (gx q) := by
  unfold gm_10_98 at h
  unfold fm_10_98
  exact hk_28 _ _ _ e2 _ _ (ga_add e3 kg_1) _ _ es _ g1 h
def gm_10_28 : Nat → Nat → Int → Int → gx_S → Option (gx_S)
  | 0, _, _, _, _ => none
  | n + 1, x1, x2, x3, s =>
    if (-2147483648 ≤ x3 ∧ x3 ≤ 2147483647) then (
    if 8 ≤ x3 then (
      if 0 ≤ ((x2 * 4) : Int) ∧ 0 ≤ (0 : Int) ∧ 0 ≤ (4 : Int) ∧ ((x2 * 4) : Int) + 4 ≤ 12 ∧ (0 : Int) + 4 ≤ 4 then (
      some (gcp s (x1 + 3) ((x2 * 4)).toNat 63 0 4)) else none) else (
      (gm_62 x1 0 x3 s).bind fun q7 =>
      if (-2147483648 ≤ q7.1 ∧ q7.1 ≤ 2147483647) then (
      if q7.1 ≤ 0 then (
        gm_10_98 (gm_10_28 n) x1 x2 x3 q7.2) else (
        (gm_11 x1 x3 q7.2).bind fun q11 =>
        if 0 ≤ ((x2 * 9) + x3) ∧ ((x2 * 9) + x3) < 27 then (
        if 0 ≤ (q11.1 62 2) ∧ (q11.1 62 2) < 8 then (
        if 0 ≤ ((gw1 q11 64 ((q11.1 62 2)).toNat (q11.1 (x1 + 2) (((x2 * 9) + x3)).toNat)).1 62 2) ∧ ((gw1 q11 64 ((q11.1 62 2)).toNat (q11.1 (x1 + 2) (((x2 * 9) + x3)).toNat)).1 62 2) < 8 then (
        if (-2147483648 ≤ ((gw1 q11 64 ((q11.1 62 2)).toNat (q11.1 (x1 + 2) (((x2 * 9) + x3)).toNat)).1 64 (((gw1 q11 64 ((q11.1 62 2)).toNat (q11.1 (x1 + 2) (((x2 * 9) + x3)).toNat)).1 62 2)).toNat) ∧ ((gw1 q11 64 ((q11.1 62 2)).toNat (q11.1 (x1 + 2) (((x2 * 9) + x3)).toNat)).1 64 (((gw1 q11 64 ((q11.1 62 2)).toNat (q11.1 (x1 + 2) (((x2 * 9) + x3)).toNat)).1 62 2)).toNat) ≤ 2147483647) then (
        gm_10_98 (gm_10_28 n) x1 x2 x3 (gw1 (gw2 (gw1 q11 64 ((q11.1 62 2)).toNat (q11.1 (x1 + 2) (((x2 * 9) + x3)).toNat)) 62 1 (((gw1 q11 64 ((q11.1 62 2)).toNat (q11.1 (x1 + 2) (((x2 * 9) + x3)).toNat)).2 62 1) + ((gw1 q11 64 ((q11.1 62 2)).toNat (q11.1 (x1 + 2) (((x2 * 9) + x3)).toNat)).1 64 (((gw1 q11 64 ((q11.1 62 2)).toNat (q11.1 (x1 + 2) (((x2 * 9) + x3)).toNat)).1 62 2)).toNat))) 62 2 (((gw2 (gw1 q11 64 ((q11.1 62 2)).toNat (q11.1 (x1 + 2) (((x2 * 9) + x3)).toNat)) 62 1 (((gw1 q11 64 ((q11.1 62 2)).toNat (q11.1 (x1 + 2) (((x2 * 9) + x3)).toNat)).2 62 1) + ((gw1 q11 64 ((q11.1 62 2)).toNat (q11.1 (x1 + 2) (((x2 * 9) + x3)).toNat)).1 64 (((gw1 q11 64 ((q11.1 62 2)).toNat (q11.1 (x1 + 2) (((x2 * 9) + x3)).toNat)).1 62 2)).toNat))).1 62 2) + 1))) else none) else none) else none) else none)) else none)) else none
theorem gf_10_28 : ∀ (n : Nat) (x1 : Nat) (x2 : Int) (yx2 : Int32) (e2 : yx2 = Int32.ofInt x2) (x3 : Int) (yx3 : Int32) (e3 : yx3 = Int32.ofInt x3) (s : gx_S) (σ : fx_S) (es : σ = gx s) (q : gx_S) (g1 : fx_oc x1 6 = true), gm_10_28 n x1 x2 x3 s = some q → fm_10_28 n x1 yx2 yx3 σ = some (gx q) := by
  intro n
  induction n with
  | zero =>
    intro x1 x2 yx2 e2 x3 yx3 e3 s σ es q g1 h
    rw [gm_10_28] at h
    exact fx_no h
  | succ n ih =>
    intro x1 x2 yx2 e2 x3 yx3 e3 s σ es q g1 h
    rw [gm_10_28] at h
    rw [fm_10_28]
    obtain ⟨z1, h⟩ := fx_gd h
    by_cases c2 : 8 ≤ x3
    · rw [if_pos c2] at h
      refine gb_t ((gc_le kg_8 e3 (by decide) z1).mpr c2) ?_
      obtain ⟨z5, h⟩ := fx_gd h
      refine gb_bind (gl_cpy es (ga_mul e2 kg_4) kg_0 kg_4 (ga_6_2 g1) ga_63 z5) ?_
      have h := Option.some.inj h
      subst h
      exact gretv (rfl : _ = gx (gcp s (x1 + 3) ((x2 * 4)).toNat 63 0 4))
    · rw [if_neg c2] at h
      refine gb_f (fun q => c2 ((gc_le kg_8 e3 (by decide) z1).mp q)) ?_
      obtain ⟨q7, w6, h⟩ := fx_bd h
      refine gb_bind (gf_62 kg_0 e3 es w6) ?_
      obtain ⟨z8, h⟩ := fx_gd h
      by_cases c9 : q7.1 ≤ 0
      · rw [if_pos c9] at h
        refine gb_t ((gc_le (gr q7.1) kg_0 z8 (by decide)).mpr c9) ?_
        exact gf_10_98 ih _ _ _ e2 _ _ e3 _ _ (rfl : _ = gx q7.2) _ g1 h
      · rw [if_neg c9] at h
        refine gb_f (fun q => c9 ((gc_le (gr q7.1) kg_0 z8 (by decide)).mp q)) ?_
        obtain ⟨q11, w10, h⟩ := fx_bd h
        refine gb_bind (gf_11 e3 (rfl : _ = gx q7.2) w10) ?_
        obtain ⟨z14, h⟩ := fx_gd h
        refine gb_bind (gl_ld (rfl : _ = gx q11) (ga_add (ga_mul e2 kg_9) e3) (ga_6_1 g1) z14) ?_
        obtain ⟨z17, h⟩ := fx_gd h
        refine gb_bind (gl_st (rfl : _ = gx q11) (gf1 (rfl : _ = gx q11) 62 2) (gr (q11.1 (x1 + 2) (((x2 * 9) + x3)).toNat)) ga_64 z17) ?_
        obtain ⟨z20, h⟩ := fx_gd h
        refine gb_bind (gl_ld (rfl : _ = gx (gw1 q11 64 ((q11.1 62 2)).toNat (q11.1 (x1 + 2) (((x2 * 9) + x3)).toNat))) (gf1 (rfl : _ = gx (gw1 q11 64 ((q11.1 62 2)).toNat (q11.1 (x1 + 2) (((x2 * 9) + x3)).toNat))) 62 2) ga_64 z20) ?_
        obtain ⟨z21, h⟩ := fx_gd h
        exact gf_10_98 ih _ _ _ e2 _ _ e3 _ _ (gx_w1 (gx_w2 (rfl : _ = gx (gw1 q11 64 ((q11.1 62 2)).toNat (q11.1 (x1 + 2) (((x2 * 9) + x3)).toNat))) (gal_add (gf2 (rfl : _ = gx (gw1 q11 64 ((q11.1 62 2)).toNat (q11.1 (x1 + 2) (((x2 * 9) + x3)).toNat))) 62 1) (ga_i2l (gr ((gw1 q11 64 ((q11.1 62 2)).toNat (q11.1 (x1 + 2) (((x2 * 9) + x3)).toNat)).1 64 (((gw1 q11 64 ((q11.1 62 2)).toNat (q11.1 (x1 + 2) (((x2 * 9) + x3)).toNat)).1 62 2)).toNat)) z21))) (ga_add (gf1 (gx_w2 (rfl : _ = gx (gw1 q11 64 ((q11.1 62 2)).toNat (q11.1 (x1 + 2) (((x2 * 9) + x3)).toNat))) (gal_add (gf2 (rfl : _ = gx (gw1 q11 64 ((q11.1 62 2)).toNat (q11.1 (x1 + 2) (((x2 * 9) + x3)).toNat))) 62 1) (ga_i2l (gr ((gw1 q11 64 ((q11.1 62 2)).toNat (q11.1 (x1 + 2) (((x2 * 9) + x3)).toNat)).1 64 (((gw1 q11 64 ((q11.1 62 2)).toNat (q11.1 (x1 + 2) (((x2 * 9) + x3)).toNat)).1 62 2)).toNat)) z21))) 62 2) kg_1)) _ g1 h
def gm_10 (x1 : Nat) (x2 : Int) (s : gx_S) : Option (gx_S) :=
  if fx_oc x1 6 = true then (
  (gm_235 65 0 s).bind fun q27 =>
  (gm_235 66 0 q27).bind fun q29 =>
  gm_10_28 100000 x1 x2 0 (gw2 (gw1 q29 62 2 0) 62 1 0)) else none
theorem gf_10 {x1 : Nat} {x2 : Int} {yx2 : Int32} (e2 : yx2 = Int32.ofInt x2) {s : gx_S} {σ : fx_S} (es : σ = gx s) {q : gx_S} (h : gm_10 x1 x2 s = some q) : fm_10 x1 yx2 σ = some (gx q) := by
  unfold gm_10 at h
  unfold fm_10
  obtain ⟨gg, h⟩ := fx_gd h
  refine gb_t gg ?_
  have g1 := gg
  obtain ⟨q27, w26, h⟩ := fx_bd h
  refine gb_bind (gf_235 kg_0 es w26) ?_
  obtain ⟨q29, w28, h⟩ := fx_bd h
  refine gb_bind (gf_235 kg_0 (rfl : _ = gx q27) w28) ?_
  exact gf_10_28 100000 _ _ _ e2 _ _ kg_0 _ _ (gx_w2 (gx_w1 (rfl : _ = gx q29) kg_0) kgl_0) _ g1 h

/-! ZoneShares$Group.shareUnknown()V -/
def gm_22_176 : Nat → Nat → Int → gx_S → Option (gx_S)
  | 0, _, _, _ => none
  | n + 1, x0, x3, s =>
    if (-2147483648 ≤ x3 ∧ x3 ≤ 2147483647) then (
    if 8 ≤ x3 then (
      some s) else (
      if 0 ≤ x3 ∧ x3 < 8 then (
      if 0 ≤ x3 ∧ x3 < 72 then (
      gm_22_176 n x0 (x3 + 1) (gw1 s (x0 + 1) (x3).toNat ((s.1 (x0 + 1) (x3).toNat) + (s.1 ((x0 + 39) + 8) (x3).toNat)))) else none) else none)) else none
theorem gf_22_176 : ∀ (n : Nat) (x0 : Nat) (x3 : Int) (yx3 : Int32) (e3 : yx3 = Int32.ofInt x3) (s : gx_S) (σ : fx_S) (es : σ = gx s) (q : gx_S) (g0 : fx_oc x0 2 = true), gm_22_176 n x0 x3 s = some q → fm_22_176 n x0 yx3 σ = some (gx q) := by
  intro n
  induction n with
  | zero =>
    intro x0 x3 yx3 e3 s σ es q g0 h
    rw [gm_22_176] at h
    exact fx_no h
  | succ n ih =>
    intro x0 x3 yx3 e3 s σ es q g0 h
    rw [gm_22_176] at h
    rw [fm_22_176]
    obtain ⟨z1, h⟩ := fx_gd h
    by_cases c2 : 8 ≤ x3
    · rw [if_pos c2] at h
      refine gb_t ((gc_le kg_8 e3 (by decide) z1).mpr c2) ?_
      have h := Option.some.inj h
      subst h
      exact gretv es
    · rw [if_neg c2] at h
      refine gb_f (fun q => c2 ((gc_le kg_8 e3 (by decide) z1).mp q)) ?_
      obtain ⟨z5, h⟩ := fx_gd h
      refine gb_bind (gl_ld es e3 (ga_2_0 g0) z5) ?_
      obtain ⟨z8, h⟩ := fx_gd h
      refine gb_bind (gl_ld es e3 (ga_7_7 (fg_2_12 g0)) z8) ?_
      refine gb_bind (gl_st es e3 (ga_add (gr (s.1 (x0 + 1) (x3).toNat)) (gr (s.1 ((x0 + 39) + 8) (x3).toNat))) (ga_2_0 g0) z5) ?_
      exact ih _ _ _ (ga_add e3 kg_1) _ _ (rfl : _ = gx (gw1 s (x0 + 1) (x3).toNat ((s.1 (x0 + 1) (x3).toNat) + (s.1 ((x0 + 39) + 8) (x3).toNat)))) _ g0 h
def gm_22_139 (x0 : Nat) (s0 : Nat) (s1 : Int) (s : gx_S) : Option (gx_S) :=
  (gm_70 (x0 + 39) (gw1 (gw1 s s0 7 s1) ((x0 + 39) + 1) 0 (((gw1 s s0 7 s1).1 x0 6) - ((gw1 s s0 7 s1).1 x0 7)))).bind fun q4 =>
  (gm_74 (x0 + 39) q4).bind fun q6 =>
  gm_22_176 100000 x0 0 q6
theorem gf_22_139 (x0 : Nat) (s0 : Nat) (s1 : Int) (ys1 : Int32) (es1 : ys1 = Int32.ofInt s1) (s : gx_S) (σ : fx_S) (es : σ = gx s) (q : gx_S) (g0 : fx_oc x0 2 = true) (gs0 : fx_oc s0 2 = true) (h : gm_22_139 x0 s0 s1 s = some q) : fm_22_139 x0 s0 ys1 σ = some (gx q) := by
  unfold gm_22_139 at h
  unfold fm_22_139
  refine gb_bind (gl_st (gx_w1 es es1) kg_0 (ga_sub (gf1 (gx_w1 es es1) x0 6) (gf1 (gx_w1 es es1) x0 7)) (ga_7_0 (fg_2_12 g0)) (by decide)) ?_
  obtain ⟨q4, w3, h⟩ := fx_bd h
  refine gb_bind (gf_70 (rfl : _ = gx (gw1 (gw1 s s0 7 s1) ((x0 + 39) + 1) 0 (((gw1 s s0 7 s1).1 x0 6) - ((gw1 s s0 7 s1).1 x0 7)))) w3) ?_
  obtain ⟨q6, w5, h⟩ := fx_bd h
  refine gb_bind (gf_74 (rfl : _ = gx q4) w5) ?_
  exact gf_22_176 100000 _ _ _ kg_0 _ _ (rfl : _ = gx q6) _ g0 h
def gm_22_131 (x0 : Nat) (s0 : Nat) (s : gx_S) : Option (gx_S) :=
  gm_22_139 x0 s0 (s.1 x0 6) s
theorem gf_22_131 (x0 : Nat) (s0 : Nat) (s : gx_S) (σ : fx_S) (es : σ = gx s) (q : gx_S) (g0 : fx_oc x0 2 = true) (gs0 : fx_oc s0 2 = true) (h : gm_22_131 x0 s0 s = some q) : fm_22_131 x0 s0 σ = some (gx q) := by
  unfold gm_22_131 at h
  unfold fm_22_131
  exact gf_22_139 _ _ _ _ (gf1 es x0 6) _ _ es _ g0 gs0 h
def gm_22_61 (k_13 : Nat → Int → Int → Int → gx_S → Option (gx_S)) (x0 : Nat) (x1 : Int) (x2 : Int) (x3 : Int) (x4 : Int) (s0 : Nat) (s1 : Int) (s2 : Int) (s : gx_S) : Option (gx_S) :=
  if gx_p s0 = true then (
  if 0 ≤ s1 ∧ s1 < ((fx_sh s0).2 : Int) then (
  if 0 ≤ x3 ∧ x3 < 8 then (
  (gm_69 (x0 + 39) 0 x3 ((gw1 s s0 (s1).toNat s2).1 (x0 + 1) (x3).toNat) x4 (gw1 s s0 (s1).toNat s2)).bind fun q9 =>
  k_13 x0 (x1 + (q9.1 (x0 + 1) (x3).toNat)) (x2 + x4) (x3 + 1) q9) else none) else none) else none
theorem gf_22_61 {kf_13 : Nat → Int32 → Int32 → Int32 → fx_S → Option (fx_S)} {kg_13 : Nat → Int → Int → Int → gx_S → Option (gx_S)} (hk_13 : ∀ (x0 : Nat) (x1 : Int) (yx1 : Int32) (e1 : yx1 = Int32.ofInt x1) (x2 : Int) (yx2 : Int32) (e2 : yx2 = Int32.ofInt x2) (x3 : Int) (yx3 : Int32) (e3 : yx3 = Int32.ofInt x3) (s : gx_S) (σ : fx_S) (es : σ = gx s) (q : gx_S) (g0 : fx_oc x0 2 = true), kg_13 x0 x1 x2 x3 s = some q → kf_13 x0 yx1 yx2 yx3 σ = some (gx q)) (x0 : Nat) (x1 : Int) (yx1 : Int32) (e1 : yx1 = Int32.ofInt x1) (x2 : Int) (yx2 : Int32) (e2 : yx2 = Int32.ofInt x2) (x3 : Int) (yx3 : Int32) (e3 : yx3 = Int32.ofInt x3) (x4 : Int) (yx4 : Int32) (e4 : yx4 = Int32.ofInt x4) (s0 : Nat) (s1 : Int) (ys1 : Int32) (es1 : ys1 = Int32.ofInt s1) (s2 : Int) (ys2 : Int32) (es2 : ys2 = Int32.ofInt s2) (s : gx_S) (σ : fx_S) (es : σ = gx s) (q : gx_S) (g0 : fx_oc x0 2 = true) (h : gm_22_61 kg_13 x0 x1 x2 x3 x4 s0 s1 s2 s = some q) : fm_22_61 kf_13 x0 yx1 yx2 yx3 yx4 s0 ys1 ys2 σ = some (gx q) := by
  unfold gm_22_61 at h
  unfold fm_22_61
  obtain ⟨z3, h⟩ := fx_gd h
  obtain ⟨z4, h⟩ := fx_gd h
  refine gb_bind (gl_st es es1 es2 z3 z4) ?_
  obtain ⟨z7, h⟩ := fx_gd h
  refine gb_bind (gl_ld (rfl : _ = gx (gw1 s s0 (s1).toNat s2)) e3 (ga_2_0 g0) z7) ?_
  obtain ⟨q9, w8, h⟩ := fx_bd h
  refine gb_bind (gf_69 kg_0 e3 (gr ((gw1 s s0 (s1).toNat s2).1 (x0 + 1) (x3).toNat)) e4 (rfl : _ = gx (gw1 s s0 (s1).toNat s2)) w8) ?_
  refine gb_bind (gl_ld (rfl : _ = gx q9) e3 (ga_2_0 g0) z7) ?_
  exact hk_13 _ _ _ (ga_add e1 (gr (q9.1 (x0 + 1) (x3).toNat))) _ _ (ga_add e2 e4) _ _ (ga_add e3 kg_1) _ _ (rfl : _ = gx q9) _ g0 h
def gm_22_13 : Nat → Nat → Int → Int → Int → gx_S → Option (gx_S)
  | 0, _, _, _, _, _ => none
  | n + 1, x0, x1, x2, x3, s =>
    if (-2147483648 ≤ x3 ∧ x3 ≤ 2147483647) then (
    if 8 ≤ x3 then (
      (gm_66 1 (s.1 x0 9) s).bind fun q4 =>
      if (-2147483648 ≤ ((gw1 q4.2 x0 6 (q4.1 - x1)).1 1 8) ∧ ((gw1 q4.2 x0 6 (q4.1 - x1)).1 1 8) ≤ 2147483647) then (
      if ((gw1 q4.2 x0 6 (q4.1 - x1)).1 1 8) = 0 then (
        gm_22_131 x0 x0 (gw1 q4.2 x0 6 (q4.1 - x1))) else (
        if (-2147483648 ≤ x2 ∧ x2 ≤ 2147483647) then (
        if ¬ x2 = 0 then (
          gm_22_139 x0 x0 0 (gw1 q4.2 x0 6 (q4.1 - x1))) else (
          gm_22_131 x0 x0 (gw1 q4.2 x0 6 (q4.1 - x1)))) else none)) else none) else (
      (gm_62 1 0 x3 s).bind fun q10 =>
      if (-2147483648 ≤ q10.1 ∧ q10.1 ≤ 2147483647) then (
      if q10.1 ≤ 0 then (
        gm_22_61 (gm_22_13 n) x0 x1 x2 x3 q10.1 (x0 + 1) x3 0 q10.2) else (
        if 0 ≤ (((q10.2.1 x0 9) * 9) + x3) ∧ (((q10.2.1 x0 9) * 9) + x3) < 27 then (
        gm_22_61 (gm_22_13 n) x0 x1 x2 x3 q10.1 (x0 + 1) x3 (q10.2.1 3 ((((q10.2.1 x0 9) * 9) + x3)).toNat) q10.2) else none)) else none)) else none
theorem gf_22_13 : ∀ (n : Nat) (x0 : Nat) (x1 : Int) (yx1 : Int32) (e1 : yx1 = Int32.ofInt x1) (x2 : Int) (yx2 : Int32) (e2 : yx2 = Int32.ofInt x2) (x3 : Int) (yx3 : Int32) (e3 : yx3 = Int32.ofInt x3) (s : gx_S) (σ : fx_S) (es : σ = gx s) (q : gx_S) (g0 : fx_oc x0 2 = true), gm_22_13 n x0 x1 x2 x3 s = some q → fm_22_13 n x0 yx1 yx2 yx3 σ = some (gx q) := by
  intro n
  induction n with
  | zero =>
    intro x0 x1 yx1 e1 x2 yx2 e2 x3 yx3 e3 s σ es q g0 h
    rw [gm_22_13] at h
    exact fx_no h
  | succ n ih =>
    intro x0 x1 yx1 e1 x2 yx2 e2 x3 yx3 e3 s σ es q g0 h
    rw [gm_22_13] at h
    rw [fm_22_13]
    obtain ⟨z1, h⟩ := fx_gd h
    by_cases c2 : 8 ≤ x3
    · rw [if_pos c2] at h
      refine gb_t ((gc_le kg_8 e3 (by decide) z1).mpr c2) ?_
      obtain ⟨q4, w3, h⟩ := fx_bd h
      refine gb_bind (gf_66 (gf1 es x0 9) es w3) ?_
      obtain ⟨z5, h⟩ := fx_gd h
      by_cases c6 : ((gw1 q4.2 x0 6 (q4.1 - x1)).1 1 8) = 0
      · rw [if_pos c6] at h
        refine gb_t ((gc_eq (gf1 (gx_w1 (rfl : _ = gx q4.2) (ga_sub (gr q4.1) e1)) 1 8) kg_0 z5 (by decide)).mpr c6) ?_
        exact gf_22_131 _ _ _ _ (gx_w1 (rfl : _ = gx q4.2) (ga_sub (gr q4.1) e1)) _ g0 g0 h
      · rw [if_neg c6] at h
        refine gb_f (fun q => c6 ((gc_eq (gf1 (gx_w1 (rfl : _ = gx q4.2) (ga_sub (gr q4.1) e1)) 1 8) kg_0 z5 (by decide)).mp q)) ?_
        obtain ⟨z7, h⟩ := fx_gd h
        by_cases c8 : ¬ x2 = 0
        · rw [if_pos c8] at h
          refine gb_t ((gc_ne e2 kg_0 z7 (by decide)).mpr c8) ?_
          exact gf_22_139 _ _ _ _ kg_0 _ _ (gx_w1 (rfl : _ = gx q4.2) (ga_sub (gr q4.1) e1)) _ g0 g0 h
        · rw [if_neg c8] at h
          refine gb_f (fun q => c8 ((gc_ne e2 kg_0 z7 (by decide)).mp q)) ?_
          exact gf_22_131 _ _ _ _ (gx_w1 (rfl : _ = gx q4.2) (ga_sub (gr q4.1) e1)) _ g0 g0 h
    · rw [if_neg c2] at h
      refine gb_f (fun q => c2 ((gc_le kg_8 e3 (by decide) z1).mp q)) ?_
      obtain ⟨q10, w9, h⟩ := fx_bd h
      refine gb_bind (gf_62 kg_0 e3 es w9) ?_
      obtain ⟨z11, h⟩ := fx_gd h
      by_cases c12 : q10.1 ≤ 0
      · rw [if_pos c12] at h
        refine gb_t ((gc_le (gr q10.1) kg_0 z11 (by decide)).mpr c12) ?_
        exact gf_22_61 ih _ _ _ e1 _ _ e2 _ _ e3 _ _ (gr q10.1) _ _ _ e3 _ _ kg_0 _ _ (rfl : _ = gx q10.2) _ g0 h
      · rw [if_neg c12] at h
        refine gb_f (fun q => c12 ((gc_le (gr q10.1) kg_0 z11 (by decide)).mp q)) ?_
        obtain ⟨z15, h⟩ := fx_gd h
        refine gb_bind (gl_ld (rfl : _ = gx q10.2) (ga_add (ga_mul (gf1 (rfl : _ = gx q10.2) x0 9) kg_9) e3) ga_3 z15) ?_
        exact gf_22_61 ih _ _ _ e1 _ _ e2 _ _ e3 _ _ (gr q10.1) _ _ _ e3 _ _ (gr (q10.2.1 3 ((((q10.2.1 x0 9) * 9) + x3)).toNat)) _ _ (rfl : _ = gx q10.2) _ g0 h
def gm_22 (x0 : Nat) (s : gx_S) : Option (gx_S) :=
  if fx_oc x0 2 = true then (
  (gm_68 (x0 + 39) s).bind fun q67 =>
  gm_22_13 100000 x0 0 0 0 q67) else none
theorem gf_22 {x0 : Nat} {s : gx_S} {σ : fx_S} (es : σ = gx s) {q : gx_S} (h : gm_22 x0 s = some q) : fm_22 x0 σ = some (gx q) := by
  unfold gm_22 at h
  unfold fm_22
  obtain ⟨gg, h⟩ := fx_gd h
  refine gb_t gg ?_
  have g0 := gg
  obtain ⟨q67, w66, h⟩ := fx_bd h
  refine gb_bind (gf_68 es w66) ?_
  exact gf_22_13 100000 _ _ _ kg_0 _ _ kg_0 _ _ kg_0 _ _ (rfl : _ = gx q67) _ g0 h

/-! ZoneShares$Group.fillMoves()V -/
def gm_23_86 (k_35 : Nat → Int → Int → gx_S → Option (gx_S)) (x0 : Nat) (x1 : Int) (x2 : Int) (s : gx_S) : Option (gx_S) :=
  k_35 x0 x1 (x2 + 1) s
theorem gf_23_86 {kf_35 : Nat → Int32 → Int32 → fx_S → Option (fx_S)} {kg_35 : Nat → Int → Int → gx_S → Option (gx_S)} (hk_35 : ∀ (x0 : Nat) (x1 : Int) (yx1 : Int32) (e1 : yx1 = Int32.ofInt x1) (x2 : Int) (yx2 : Int32) (e2 : yx2 = Int32.ofInt x2) (s : gx_S) (σ : fx_S) (es : σ = gx s) (q : gx_S) (g0 : fx_oc x0 2 = true), kg_35 x0 x1 x2 s = some q → kf_35 x0 yx1 yx2 σ = some (gx q)) (x0 : Nat) (x1 : Int) (yx1 : Int32) (e1 : yx1 = Int32.ofInt x1) (x2 : Int) (yx2 : Int32) (e2 : yx2 = Int32.ofInt x2) (s : gx_S) (σ : fx_S) (es : σ = gx s) (q : gx_S) (g0 : fx_oc x0 2 = true) (h : gm_23_86 kg_35 x0 x1 x2 s = some q) : fm_23_86 kf_35 x0 yx1 yx2 σ = some (gx q) := by
  unfold gm_23_86 at h
  unfold fm_23_86
  exact hk_35 _ _ _ e1 _ _ (ga_add e2 kg_1) _ _ es _ g0 h
def gm_23_35 : Nat → Nat → Int → Int → gx_S → Option (gx_S)
  | 0, _, _, _, _ => none
  | n + 1, x0, x1, x2, s =>
    if (-2147483648 ≤ x2 ∧ x2 ≤ 2147483647) then (
    if (-2147483648 ≤ x1 ∧ x1 ≤ 2147483647) then (
    if x1 ≤ x2 then (
      some s) else (
      (gm_60 1 0 x2 s).bind fun q5 =>
      if (-2147483648 ≤ q5.1 ∧ q5.1 ≤ 2147483647) then (
      if 8 ≤ q5.1 then (
        gm_23_86 (gm_23_35 n) x0 x1 x2 q5.2) else (
        (gm_60 1 1 x2 q5.2).bind fun q9 =>
        (gm_61 1 (q9.2.1 x0 9) x2 q9.2).bind fun q11 =>
        (gm_69 (x0 + 3) q5.1 q9.1 q11.1 1 q11.2).bind fun q13 =>
        gm_23_86 (gm_23_35 n) x0 x1 x2 q13)) else none)) else none) else none
theorem gf_23_35 : ∀ (n : Nat) (x0 : Nat) (x1 : Int) (yx1 : Int32) (e1 : yx1 = Int32.ofInt x1) (x2 : Int) (yx2 : Int32) (e2 : yx2 = Int32.ofInt x2) (s : gx_S) (σ : fx_S) (es : σ = gx s) (q : gx_S) (g0 : fx_oc x0 2 = true), gm_23_35 n x0 x1 x2 s = some q → fm_23_35 n x0 yx1 yx2 σ = some (gx q) := by
  intro n
  induction n with
  | zero =>
    intro x0 x1 yx1 e1 x2 yx2 e2 s σ es q g0 h
    rw [gm_23_35] at h
    exact fx_no h
  | succ n ih =>
    intro x0 x1 yx1 e1 x2 yx2 e2 s σ es q g0 h
    rw [gm_23_35] at h
    rw [fm_23_35]
    obtain ⟨z1, h⟩ := fx_gd h
    obtain ⟨z2, h⟩ := fx_gd h
    by_cases c3 : x1 ≤ x2
    · rw [if_pos c3] at h
      refine gb_t ((gc_le e1 e2 z2 z1).mpr c3) ?_
      have h := Option.some.inj h
      subst h
      exact gretv es
    · rw [if_neg c3] at h
      refine gb_f (fun q => c3 ((gc_le e1 e2 z2 z1).mp q)) ?_
      obtain ⟨q5, w4, h⟩ := fx_bd h
      refine gb_bind (gf_60 kg_0 e2 es w4) ?_
      obtain ⟨z6, h⟩ := fx_gd h
      by_cases c7 : 8 ≤ q5.1
      · rw [if_pos c7] at h
        refine gb_t ((gc_le kg_8 (gr q5.1) (by decide) z6).mpr c7) ?_
        exact gf_23_86 ih _ _ _ e1 _ _ e2 _ _ (rfl : _ = gx q5.2) _ g0 h
      · rw [if_neg c7] at h
        refine gb_f (fun q => c7 ((gc_le kg_8 (gr q5.1) (by decide) z6).mp q)) ?_
        obtain ⟨q9, w8, h⟩ := fx_bd h
        refine gb_bind (gf_60 kg_1 e2 (rfl : _ = gx q5.2) w8) ?_
        obtain ⟨q11, w10, h⟩ := fx_bd h
        refine gb_bind (gf_61 (gf1 (rfl : _ = gx q9.2) x0 9) e2 (rfl : _ = gx q9.2) w10) ?_
        obtain ⟨q13, w12, h⟩ := fx_bd h
        refine gb_bind (gf_69 (gr q5.1) (gr q9.1) (gr q11.1) kg_1 (rfl : _ = gx q11.2) w12) ?_
        exact gf_23_86 ih _ _ _ e1 _ _ e2 _ _ (rfl : _ = gx q13) _ g0 h
def gm_23 (x0 : Nat) (s : gx_S) : Option (gx_S) :=
  if fx_oc x0 2 = true then (
  (gm_68 (x0 + 3) s).bind fun q34 =>
  (gm_58 1 (gcp q34 (x0 + 1) 0 ((x0 + 3) + 1) 0 8)).bind fun q38 =>
  gm_23_35 100000 x0 q38.1 0 q38.2) else none
theorem gf_23 {x0 : Nat} {s : gx_S} {σ : fx_S} (es : σ = gx s) {q : gx_S} (h : gm_23 x0 s = some q) : fm_23 x0 σ = some (gx q) := by
  unfold gm_23 at h
  unfold fm_23
  obtain ⟨gg, h⟩ := fx_gd h
  refine gb_t gg ?_
  have g0 := gg
  obtain ⟨q34, w33, h⟩ := fx_bd h
  refine gb_bind (gf_68 es w33) ?_
  refine gb_bind (gl_cpy (rfl : _ = gx q34) kg_0 kg_0 kg_8 (ga_2_0 g0) (ga_7_0 (fg_2_2 g0)) (by decide)) ?_
  obtain ⟨q38, w37, h⟩ := fx_bd h
  refine gb_bind (gf_58 (rfl : _ = gx (gcp q34 (x0 + 1) 0 ((x0 + 3) + 1) 0 8)) w37) ?_
  exact gf_23_35 100000 _ _ _ (gr q38.1) _ _ kg_0 _ _ (rfl : _ = gx q38.2) _ g0 h
end
section
/-! ZoneShares$Group.fillBack()V -/
def gm_24_76 : Nat → Nat → Int → gx_S → Option (gx_S)
  | 0, _, _, _ => none
  | n + 1, x0, x2, s =>
    if (-2147483648 ≤ x2 ∧ x2 ≤ 2147483647) then (
    if 8 ≤ x2 then (
      some s) else (
      (gm_76 (x0 + 3) x2 s).bind fun q4 =>
      if 0 ≤ x2 ∧ x2 < 8 then (
      gm_24_76 n x0 (x2 + 1) (gw1 q4.2 ((x0 + 12) + 1) (x2).toNat q4.1)) else none)) else none
theorem gf_24_76 : ∀ (n : Nat) (x0 : Nat) (x2 : Int) (yx2 : Int32) (e2 : yx2 = Int32.ofInt x2) (s : gx_S) (σ : fx_S) (es : σ = gx s) (q : gx_S) (g0 : fx_oc x0 2 = true), gm_24_76 n x0 x2 s = some q → fm_24_76 n x0 yx2 σ = some (gx q) := by
  intro n
  induction n with
  | zero =>
    intro x0 x2 yx2 e2 s σ es q g0 h
    rw [gm_24_76] at h
    exact fx_no h
  | succ n ih =>
    intro x0 x2 yx2 e2 s σ es q g0 h
    rw [gm_24_76] at h
    rw [fm_24_76]
    obtain ⟨z1, h⟩ := fx_gd h
    by_cases c2 : 8 ≤ x2
    · rw [if_pos c2] at h
      refine gb_t ((gc_le kg_8 e2 (by decide) z1).mpr c2) ?_
      have h := Option.some.inj h
      subst h
      exact gretv es
    · rw [if_neg c2] at h
      refine gb_f (fun q => c2 ((gc_le kg_8 e2 (by decide) z1).mp q)) ?_
      obtain ⟨q4, w3, h⟩ := fx_bd h
      refine gb_bind (gf_76 e2 es w3) ?_
      obtain ⟨z7, h⟩ := fx_gd h
      refine gb_bind (gl_st (rfl : _ = gx q4.2) e2 (gr q4.1) (ga_7_0 (fg_2_3 g0)) z7) ?_
      exact ih _ _ _ (ga_add e2 kg_1) _ _ (rfl : _ = gx (gw1 q4.2 ((x0 + 12) + 1) (x2).toNat q4.1)) _ g0 h
def gm_24_68 (k_17 : Nat → Int → Int → gx_S → Option (gx_S)) (x0 : Nat) (x1 : Int) (x2 : Int) (s : gx_S) : Option (gx_S) :=
  k_17 x0 x1 (x2 + 1) s
theorem gf_24_68 {kf_17 : Nat → Int32 → Int32 → fx_S → Option (fx_S)} {kg_17 : Nat → Int → Int → gx_S → Option (gx_S)} (hk_17 : ∀ (x0 : Nat) (x1 : Int) (yx1 : Int32) (e1 : yx1 = Int32.ofInt x1) (x2 : Int) (yx2 : Int32) (e2 : yx2 = Int32.ofInt x2) (s : gx_S) (σ : fx_S) (es : σ = gx s) (q : gx_S) (g0 : fx_oc x0 2 = true), kg_17 x0 x1 x2 s = some q → kf_17 x0 yx1 yx2 σ = some (gx q)) (x0 : Nat) (x1 : Int) (yx1 : Int32) (e1 : yx1 = Int32.ofInt x1) (x2 : Int) (yx2 : Int32) (e2 : yx2 = Int32.ofInt x2) (s : gx_S) (σ : fx_S) (es : σ = gx s) (q : gx_S) (g0 : fx_oc x0 2 = true) (h : gm_24_68 kg_17 x0 x1 x2 s = some q) : fm_24_68 kf_17 x0 yx1 yx2 σ = some (gx q) := by
  unfold gm_24_68 at h
  unfold fm_24_68
  exact hk_17 _ _ _ e1 _ _ (ga_add e2 kg_1) _ _ es _ g0 h
def gm_24_17 : Nat → Nat → Int → Int → gx_S → Option (gx_S)
  | 0, _, _, _, _ => none
  | n + 1, x0, x1, x2, s =>
    if (-2147483648 ≤ x2 ∧ x2 ≤ 2147483647) then (
    if (-2147483648 ≤ x1 ∧ x1 ≤ 2147483647) then (
    if x1 ≤ x2 then (
      gm_24_76 100000 x0 0 s) else (
      (gm_60 1 1 x2 s).bind fun q5 =>
      if (-2147483648 ≤ q5.1 ∧ q5.1 ≤ 2147483647) then (
      if 8 ≤ q5.1 then (
        gm_24_68 (gm_24_17 n) x0 x1 x2 q5.2) else (
        (gm_60 1 0 x2 q5.2).bind fun q9 =>
        (gm_61 1 (q9.2.1 x0 9) x2 q9.2).bind fun q11 =>
        (gm_69 (x0 + 12) q5.1 q9.1 q11.1 1 q11.2).bind fun q13 =>
        gm_24_68 (gm_24_17 n) x0 x1 x2 q13)) else none)) else none) else none
theorem gf_24_17 : ∀ (n : Nat) (x0 : Nat) (x1 : Int) (yx1 : Int32) (e1 : yx1 = Int32.ofInt x1) (x2 : Int) (yx2 : Int32) (e2 : yx2 = Int32.ofInt x2) (s : gx_S) (σ : fx_S) (es : σ = gx s) (q : gx_S) (g0 : fx_oc x0 2 = true), gm_24_17 n x0 x1 x2 s = some q → fm_24_17 n x0 yx1 yx2 σ = some (gx q) := by
  intro n
  induction n with
  | zero =>
    intro x0 x1 yx1 e1 x2 yx2 e2 s σ es q g0 h
    rw [gm_24_17] at h
    exact fx_no h
  | succ n ih =>
    intro x0 x1 yx1 e1 x2 yx2 e2 s σ es q g0 h
    rw [gm_24_17] at h
    rw [fm_24_17]
    obtain ⟨z1, h⟩ := fx_gd h
    obtain ⟨z2, h⟩ := fx_gd h
    by_cases c3 : x1 ≤ x2
    · rw [if_pos c3] at h
      refine gb_t ((gc_le e1 e2 z2 z1).mpr c3) ?_
      exact gf_24_76 100000 _ _ _ kg_0 _ _ es _ g0 h
    · rw [if_neg c3] at h
      refine gb_f (fun q => c3 ((gc_le e1 e2 z2 z1).mp q)) ?_
      obtain ⟨q5, w4, h⟩ := fx_bd h
      refine gb_bind (gf_60 kg_1 e2 es w4) ?_
      obtain ⟨z6, h⟩ := fx_gd h
      by_cases c7 : 8 ≤ q5.1
      · rw [if_pos c7] at h
        refine gb_t ((gc_le kg_8 (gr q5.1) (by decide) z6).mpr c7) ?_
        exact gf_24_68 ih _ _ _ e1 _ _ e2 _ _ (rfl : _ = gx q5.2) _ g0 h
      · rw [if_neg c7] at h
        refine gb_f (fun q => c7 ((gc_le kg_8 (gr q5.1) (by decide) z6).mp q)) ?_
        obtain ⟨q9, w8, h⟩ := fx_bd h
        refine gb_bind (gf_60 kg_0 e2 (rfl : _ = gx q5.2) w8) ?_
        obtain ⟨q11, w10, h⟩ := fx_bd h
        refine gb_bind (gf_61 (gf1 (rfl : _ = gx q9.2) x0 9) e2 (rfl : _ = gx q9.2) w10) ?_
        obtain ⟨q13, w12, h⟩ := fx_bd h
        refine gb_bind (gf_69 (gr q5.1) (gr q9.1) (gr q11.1) kg_1 (rfl : _ = gx q11.2) w12) ?_
        exact gf_24_68 ih _ _ _ e1 _ _ e2 _ _ (rfl : _ = gx q13) _ g0 h
def gm_24 (x0 : Nat) (s : gx_S) : Option (gx_S) :=
  if fx_oc x0 2 = true then (
  (gm_68 (x0 + 12) s).bind fun q46 =>
  (gm_58 1 q46).bind fun q48 =>
  gm_24_17 100000 x0 q48.1 0 q48.2) else none
theorem gf_24 {x0 : Nat} {s : gx_S} {σ : fx_S} (es : σ = gx s) {q : gx_S} (h : gm_24 x0 s = some q) : fm_24 x0 σ = some (gx q) := by
  unfold gm_24 at h
  unfold fm_24
  obtain ⟨gg, h⟩ := fx_gd h
  refine gb_t gg ?_
  have g0 := gg
  obtain ⟨q46, w45, h⟩ := fx_bd h
  refine gb_bind (gf_68 es w45) ?_
  obtain ⟨q48, w47, h⟩ := fx_bd h
  refine gb_bind (gf_58 (rfl : _ = gx q46) w47) ?_
  exact gf_24_17 100000 _ _ _ (gr q48.1) _ _ kg_0 _ _ (rfl : _ = gx q48.2) _ g0 h

/-! ZoneShares$Group.fillCoarse()V -/
def gm_25_113 (k_35 : Nat → Int → Int → gx_S → Option (gx_S)) (x0 : Nat) (x1 : Int) (x2 : Int) (s : gx_S) : Option (gx_S) :=
  k_35 x0 x1 (x2 + 1) s
theorem gf_25_113 {kf_35 : Nat → Int32 → Int32 → fx_S → Option (fx_S)} {kg_35 : Nat → Int → Int → gx_S → Option (gx_S)} (hk_35 : ∀ (x0 : Nat) (x1 : Int) (yx1 : Int32) (e1 : yx1 = Int32.ofInt x1) (x2 : Int) (yx2 : Int32) (e2 : yx2 = Int32.ofInt x2) (s : gx_S) (σ : fx_S) (es : σ = gx s) (q : gx_S) (g0 : fx_oc x0 2 = true), kg_35 x0 x1 x2 s = some q → kf_35 x0 yx1 yx2 σ = some (gx q)) (x0 : Nat) (x1 : Int) (yx1 : Int32) (e1 : yx1 = Int32.ofInt x1) (x2 : Int) (yx2 : Int32) (e2 : yx2 = Int32.ofInt x2) (s : gx_S) (σ : fx_S) (es : σ = gx s) (q : gx_S) (g0 : fx_oc x0 2 = true) (h : gm_25_113 kg_35 x0 x1 x2 s = some q) : fm_25_113 kf_35 x0 yx1 yx2 σ = some (gx q) := by
  unfold gm_25_113 at h
  unfold fm_25_113
  exact hk_35 _ _ _ e1 _ _ (ga_add e2 kg_1) _ _ es _ g0 h
def gm_25_88 (k_35 : Nat → Int → Int → gx_S → Option (gx_S)) (x0 : Nat) (x1 : Int) (x2 : Int) (x3 : Int) (s0 : Int) (s : gx_S) : Option (gx_S) :=
  (gm_61 1 (s.1 x0 9) x2 s).bind fun q2 =>
  (gm_69 (x0 + 21) x3 s0 q2.1 1 q2.2).bind fun q4 =>
  gm_25_113 k_35 x0 x1 x2 q4
theorem gf_25_88 {kf_35 : Nat → Int32 → Int32 → fx_S → Option (fx_S)} {kg_35 : Nat → Int → Int → gx_S → Option (gx_S)} (hk_35 : ∀ (x0 : Nat) (x1 : Int) (yx1 : Int32) (e1 : yx1 = Int32.ofInt x1) (x2 : Int) (yx2 : Int32) (e2 : yx2 = Int32.ofInt x2) (s : gx_S) (σ : fx_S) (es : σ = gx s) (q : gx_S) (g0 : fx_oc x0 2 = true), kg_35 x0 x1 x2 s = some q → kf_35 x0 yx1 yx2 σ = some (gx q)) (x0 : Nat) (x1 : Int) (yx1 : Int32) (e1 : yx1 = Int32.ofInt x1) (x2 : Int) (yx2 : Int32) (e2 : yx2 = Int32.ofInt x2) (x3 : Int) (yx3 : Int32) (e3 : yx3 = Int32.ofInt x3) (s0 : Int) (ys0 : Int32) (es0 : ys0 = Int32.ofInt s0) (s : gx_S) (σ : fx_S) (es : σ = gx s) (q : gx_S) (g0 : fx_oc x0 2 = true) (h : gm_25_88 kg_35 x0 x1 x2 x3 s0 s = some q) : fm_25_88 kf_35 x0 yx1 yx2 yx3 ys0 σ = some (gx q) := by
  unfold gm_25_88 at h
  unfold fm_25_88
  obtain ⟨q2, w1, h⟩ := fx_bd h
  refine gb_bind (gf_61 (gf1 es x0 9) e2 es w1) ?_
  obtain ⟨q4, w3, h⟩ := fx_bd h
  refine gb_bind (gf_69 e3 es0 (gr q2.1) kg_1 (rfl : _ = gx q2.2) w3) ?_
  exact gf_25_113 hk_35 _ _ _ e1 _ _ e2 _ _ (rfl : _ = gx q4) _ g0 h
def gm_25_35 : Nat → Nat → Int → Int → gx_S → Option (gx_S)
  | 0, _, _, _, _ => none
  | n + 1, x0, x1, x2, s =>
    if (-2147483648 ≤ x2 ∧ x2 ≤ 2147483647) then (
    if (-2147483648 ≤ x1 ∧ x1 ≤ 2147483647) then (
    if x1 ≤ x2 then (
      some s) else (
      (gm_60 1 0 x2 s).bind fun q5 =>
      (gm_60 1 1 x2 q5.2).bind fun q7 =>
      if (-2147483648 ≤ q5.1 ∧ q5.1 ≤ 2147483647) then (
      if 8 ≤ q5.1 then (
        gm_25_113 (gm_25_35 n) x0 x1 x2 q7.2) else (
        if (-2147483648 ≤ q7.1 ∧ q7.1 ≤ 2147483647) then (
        if 8 ≤ q7.1 then (
          gm_25_88 (gm_25_35 n) x0 x1 x2 q5.1 4 q7.2) else (
          if 0 ≤ q7.1 ∧ q7.1 < 8 then (
          gm_25_88 (gm_25_35 n) x0 x1 x2 q5.1 (q7.2.1 5 (q7.1).toNat) q7.2) else none)) else none)) else none)) else none) else none
theorem gf_25_35 : ∀ (n : Nat) (x0 : Nat) (x1 : Int) (yx1 : Int32) (e1 : yx1 = Int32.ofInt x1) (x2 : Int) (yx2 : Int32) (e2 : yx2 = Int32.ofInt x2) (s : gx_S) (σ : fx_S) (es : σ = gx s) (q : gx_S) (g0 : fx_oc x0 2 = true), gm_25_35 n x0 x1 x2 s = some q → fm_25_35 n x0 yx1 yx2 σ = some (gx q) := by
  intro n
  induction n with
  | zero =>
    intro x0 x1 yx1 e1 x2 yx2 e2 s σ es q g0 h
    rw [gm_25_35] at h
    exact fx_no h
  | succ n ih =>
    intro x0 x1 yx1 e1 x2 yx2 e2 s σ es q g0 h
    rw [gm_25_35] at h
    rw [fm_25_35]
    obtain ⟨z1, h⟩ := fx_gd h
    obtain ⟨z2, h⟩ := fx_gd h
    by_cases c3 : x1 ≤ x2
    · rw [if_pos c3] at h
      refine gb_t ((gc_le e1 e2 z2 z1).mpr c3) ?_
      have h := Option.some.inj h
      subst h
      exact gretv es
    · rw [if_neg c3] at h
      refine gb_f (fun q => c3 ((gc_le e1 e2 z2 z1).mp q)) ?_
      obtain ⟨q5, w4, h⟩ := fx_bd h
      refine gb_bind (gf_60 kg_0 e2 es w4) ?_
      obtain ⟨q7, w6, h⟩ := fx_bd h
      refine gb_bind (gf_60 kg_1 e2 (rfl : _ = gx q5.2) w6) ?_
      obtain ⟨z8, h⟩ := fx_gd h
      by_cases c9 : 8 ≤ q5.1
      · rw [if_pos c9] at h
        refine gb_t ((gc_le kg_8 (gr q5.1) (by decide) z8).mpr c9) ?_
        exact gf_25_113 ih _ _ _ e1 _ _ e2 _ _ (rfl : _ = gx q7.2) _ g0 h
      · rw [if_neg c9] at h
        refine gb_f (fun q => c9 ((gc_le kg_8 (gr q5.1) (by decide) z8).mp q)) ?_
        obtain ⟨z10, h⟩ := fx_gd h
        by_cases c11 : 8 ≤ q7.1
        · rw [if_pos c11] at h
          refine gb_t ((gc_le kg_8 (gr q7.1) (by decide) z10).mpr c11) ?_
          exact gf_25_88 ih _ _ _ e1 _ _ e2 _ _ (gr q5.1) _ _ kg_4 _ _ (rfl : _ = gx q7.2) _ g0 h
        · rw [if_neg c11] at h
          refine gb_f (fun q => c11 ((gc_le kg_8 (gr q7.1) (by decide) z10).mp q)) ?_
          obtain ⟨z14, h⟩ := fx_gd h
          refine gb_bind (gl_ld (rfl : _ = gx q7.2) (gr q7.1) ga_5 z14) ?_
          exact gf_25_88 ih _ _ _ e1 _ _ e2 _ _ (gr q5.1) _ _ (gr (q7.2.1 5 (q7.1).toNat)) _ _ (rfl : _ = gx q7.2) _ g0 h
def gm_25 (x0 : Nat) (s : gx_S) : Option (gx_S) :=
  if fx_oc x0 2 = true then (
  (gm_68 (x0 + 21) s).bind fun q44 =>
  (gm_58 1 (gcp q44 (x0 + 1) 0 ((x0 + 21) + 1) 0 8)).bind fun q48 =>
  gm_25_35 100000 x0 q48.1 0 q48.2) else none
theorem gf_25 {x0 : Nat} {s : gx_S} {σ : fx_S} (es : σ = gx s) {q : gx_S} (h : gm_25 x0 s = some q) : fm_25 x0 σ = some (gx q) := by
  unfold gm_25 at h
  unfold fm_25
  obtain ⟨gg, h⟩ := fx_gd h
  refine gb_t gg ?_
  have g0 := gg
  obtain ⟨q44, w43, h⟩ := fx_bd h
  refine gb_bind (gf_68 es w43) ?_
  refine gb_bind (gl_cpy (rfl : _ = gx q44) kg_0 kg_0 kg_8 (ga_2_0 g0) (ga_7_0 (fg_2_4 g0)) (by decide)) ?_
  obtain ⟨q48, w47, h⟩ := fx_bd h
  refine gb_bind (gf_58 (rfl : _ = gx (gcp q44 (x0 + 1) 0 ((x0 + 21) + 1) 0 8)) w47) ?_
  exact gf_25_35 100000 _ _ _ (gr q48.1) _ _ kg_0 _ _ (rfl : _ = gx q48.2) _ g0 h

/-! ZoneShares$Group.fillWay()V -/
def gm_26_76 : Nat → Nat → Int → gx_S → Option (gx_S)
  | 0, _, _, _ => none
  | n + 1, x0, x2, s =>
    if (-2147483648 ≤ x2 ∧ x2 ≤ 2147483647) then (
    if 4 ≤ x2 then (
      some s) else (
      (gm_76 (x0 + 21) x2 s).bind fun q4 =>
      if 0 ≤ x2 ∧ x2 < 8 then (
      gm_26_76 n x0 (x2 + 1) (gw1 q4.2 ((x0 + 30) + 1) (x2).toNat q4.1)) else none)) else none
theorem gf_26_76 : ∀ (n : Nat) (x0 : Nat) (x2 : Int) (yx2 : Int32) (e2 : yx2 = Int32.ofInt x2) (s : gx_S) (σ : fx_S) (es : σ = gx s) (q : gx_S) (g0 : fx_oc x0 2 = true), gm_26_76 n x0 x2 s = some q → fm_26_76 n x0 yx2 σ = some (gx q) := by
  intro n
  induction n with
  | zero =>
    intro x0 x2 yx2 e2 s σ es q g0 h
    rw [gm_26_76] at h
    exact fx_no h
  | succ n ih =>
    intro x0 x2 yx2 e2 s σ es q g0 h
    rw [gm_26_76] at h
    rw [fm_26_76]
    obtain ⟨z1, h⟩ := fx_gd h
    by_cases c2 : 4 ≤ x2
    · rw [if_pos c2] at h
      refine gb_t ((gc_le kg_4 e2 (by decide) z1).mpr c2) ?_
      have h := Option.some.inj h
      subst h
      exact gretv es
    · rw [if_neg c2] at h
      refine gb_f (fun q => c2 ((gc_le kg_4 e2 (by decide) z1).mp q)) ?_
      obtain ⟨q4, w3, h⟩ := fx_bd h
      refine gb_bind (gf_76 e2 es w3) ?_
      obtain ⟨z7, h⟩ := fx_gd h
      refine gb_bind (gl_st (rfl : _ = gx q4.2) e2 (gr q4.1) (ga_7_0 (fg_2_5 g0)) z7) ?_
      exact ih _ _ _ (ga_add e2 kg_1) _ _ (rfl : _ = gx (gw1 q4.2 ((x0 + 30) + 1) (x2).toNat q4.1)) _ g0 h
def gm_26_68 (k_17 : Nat → Int → Int → gx_S → Option (gx_S)) (x0 : Nat) (x1 : Int) (x2 : Int) (s : gx_S) : Option (gx_S) :=
  k_17 x0 x1 (x2 + 1) s
theorem gf_26_68 {kf_17 : Nat → Int32 → Int32 → fx_S → Option (fx_S)} {kg_17 : Nat → Int → Int → gx_S → Option (gx_S)} (hk_17 : ∀ (x0 : Nat) (x1 : Int) (yx1 : Int32) (e1 : yx1 = Int32.ofInt x1) (x2 : Int) (yx2 : Int32) (e2 : yx2 = Int32.ofInt x2) (s : gx_S) (σ : fx_S) (es : σ = gx s) (q : gx_S) (g0 : fx_oc x0 2 = true), kg_17 x0 x1 x2 s = some q → kf_17 x0 yx1 yx2 σ = some (gx q)) (x0 : Nat) (x1 : Int) (yx1 : Int32) (e1 : yx1 = Int32.ofInt x1) (x2 : Int) (yx2 : Int32) (e2 : yx2 = Int32.ofInt x2) (s : gx_S) (σ : fx_S) (es : σ = gx s) (q : gx_S) (g0 : fx_oc x0 2 = true) (h : gm_26_68 kg_17 x0 x1 x2 s = some q) : fm_26_68 kf_17 x0 yx1 yx2 σ = some (gx q) := by
  unfold gm_26_68 at h
  unfold fm_26_68
  exact hk_17 _ _ _ e1 _ _ (ga_add e2 kg_1) _ _ es _ g0 h
def gm_26_17 : Nat → Nat → Int → Int → gx_S → Option (gx_S)
  | 0, _, _, _, _ => none
  | n + 1, x0, x1, x2, s =>
    if (-2147483648 ≤ x2 ∧ x2 ≤ 2147483647) then (
    if (-2147483648 ≤ x1 ∧ x1 ≤ 2147483647) then (
    if x1 ≤ x2 then (
      gm_26_76 100000 x0 0 s) else (
      (gm_60 1 1 x2 s).bind fun q5 =>
      if (-2147483648 ≤ q5.1 ∧ q5.1 ≤ 2147483647) then (
      if 8 ≤ q5.1 then (
        gm_26_68 (gm_26_17 n) x0 x1 x2 q5.2) else (
        if 0 ≤ q5.1 ∧ q5.1 < 8 then (
        (gm_61 1 (q5.2.1 x0 9) x2 q5.2).bind fun q12 =>
        (gm_69 (x0 + 30) (q5.2.1 5 (q5.1).toNat) q5.1 q12.1 1 q12.2).bind fun q14 =>
        gm_26_68 (gm_26_17 n) x0 x1 x2 q14) else none)) else none)) else none) else none
theorem gf_26_17 : ∀ (n : Nat) (x0 : Nat) (x1 : Int) (yx1 : Int32) (e1 : yx1 = Int32.ofInt x1) (x2 : Int) (yx2 : Int32) (e2 : yx2 = Int32.ofInt x2) (s : gx_S) (σ : fx_S) (es : σ = gx s) (q : gx_S) (g0 : fx_oc x0 2 = true), gm_26_17 n x0 x1 x2 s = some q → fm_26_17 n x0 yx1 yx2 σ = some (gx q) := by
  intro n
  induction n with
  | zero =>
    intro x0 x1 yx1 e1 x2 yx2 e2 s σ es q g0 h
    rw [gm_26_17] at h
    exact fx_no h
  | succ n ih =>
    intro x0 x1 yx1 e1 x2 yx2 e2 s σ es q g0 h
    rw [gm_26_17] at h
    rw [fm_26_17]
    obtain ⟨z1, h⟩ := fx_gd h
    obtain ⟨z2, h⟩ := fx_gd h
    by_cases c3 : x1 ≤ x2
    · rw [if_pos c3] at h
      refine gb_t ((gc_le e1 e2 z2 z1).mpr c3) ?_
      exact gf_26_76 100000 _ _ _ kg_0 _ _ es _ g0 h
    · rw [if_neg c3] at h
      refine gb_f (fun q => c3 ((gc_le e1 e2 z2 z1).mp q)) ?_
      obtain ⟨q5, w4, h⟩ := fx_bd h
      refine gb_bind (gf_60 kg_1 e2 es w4) ?_
      obtain ⟨z6, h⟩ := fx_gd h
      by_cases c7 : 8 ≤ q5.1
      · rw [if_pos c7] at h
        refine gb_t ((gc_le kg_8 (gr q5.1) (by decide) z6).mpr c7) ?_
        exact gf_26_68 ih _ _ _ e1 _ _ e2 _ _ (rfl : _ = gx q5.2) _ g0 h
      · rw [if_neg c7] at h
        refine gb_f (fun q => c7 ((gc_le kg_8 (gr q5.1) (by decide) z6).mp q)) ?_
        obtain ⟨z10, h⟩ := fx_gd h
        refine gb_bind (gl_ld (rfl : _ = gx q5.2) (gr q5.1) ga_5 z10) ?_
        obtain ⟨q12, w11, h⟩ := fx_bd h
        refine gb_bind (gf_61 (gf1 (rfl : _ = gx q5.2) x0 9) e2 (rfl : _ = gx q5.2) w11) ?_
        obtain ⟨q14, w13, h⟩ := fx_bd h
        refine gb_bind (gf_69 (gr (q5.2.1 5 (q5.1).toNat)) (gr q5.1) (gr q12.1) kg_1 (rfl : _ = gx q12.2) w13) ?_
        exact gf_26_68 ih _ _ _ e1 _ _ e2 _ _ (rfl : _ = gx q14) _ g0 h
def gm_26 (x0 : Nat) (s : gx_S) : Option (gx_S) :=
  if fx_oc x0 2 = true then (
  (gm_68 (x0 + 30) s).bind fun q48 =>
  (gm_58 1 q48).bind fun q50 =>
  gm_26_17 100000 x0 q50.1 0 q50.2) else none
theorem gf_26 {x0 : Nat} {s : gx_S} {σ : fx_S} (es : σ = gx s) {q : gx_S} (h : gm_26 x0 s = some q) : fm_26 x0 σ = some (gx q) := by
  unfold gm_26 at h
  unfold fm_26
  obtain ⟨gg, h⟩ := fx_gd h
  refine gb_t gg ?_
  have g0 := gg
  obtain ⟨q48, w47, h⟩ := fx_bd h
  refine gb_bind (gf_68 es w47) ?_
  obtain ⟨q50, w49, h⟩ := fx_bd h
  refine gb_bind (gf_58 (rfl : _ = gx q48) w49) ?_
  exact gf_26_17 100000 _ _ _ (gr q50.1) _ _ kg_0 _ _ (rfl : _ = gx q50.2) _ g0 h

/-! ZoneShares$Rounder.open(LZoneShares$Table;)V -/
def gm_42_115 (k_54 : Nat → Int → Int → gx_S → Option (gx_S)) (x1 : Nat) (x2 : Int) (x4 : Int) (s1 : Int) (s2 : Int) (s3 : Int) (s : gx_S) : Option (gx_S) :=
  if 0 ≤ s1 ∧ s1 < 9 then (
  if 0 ≤ x4 ∧ x4 < 9 then (
  k_54 x1 x2 (x4 + 1) (gw1 (gw1 s 10 (s1).toNat (s2 + s3)) 11 (x4).toNat 0)) else none) else none
theorem gf_42_115 {kf_54 : Nat → Int64 → Int32 → fx_S → Option (fx_S)} {kg_54 : Nat → Int → Int → gx_S → Option (gx_S)} (hk_54 : ∀ (x1 : Nat) (x2 : Int) (yx2 : Int64) (e2 : yx2 = Int64.ofInt x2) (x4 : Int) (yx4 : Int32) (e4 : yx4 = Int32.ofInt x4) (s : gx_S) (σ : fx_S) (es : σ = gx s) (q : gx_S) (g1 : fx_oc x1 7 = true), kg_54 x1 x2 x4 s = some q → kf_54 x1 yx2 yx4 σ = some (gx q)) (x1 : Nat) (x2 : Int) (yx2 : Int64) (e2 : yx2 = Int64.ofInt x2) (x4 : Int) (yx4 : Int32) (e4 : yx4 = Int32.ofInt x4) (s1 : Int) (ys1 : Int32) (es1 : ys1 = Int32.ofInt s1) (s2 : Int) (ys2 : Int32) (es2 : ys2 = Int32.ofInt s2) (s3 : Int) (ys3 : Int32) (es3 : ys3 = Int32.ofInt s3) (s : gx_S) (σ : fx_S) (es : σ = gx s) (q : gx_S) (g1 : fx_oc x1 7 = true) (h : gm_42_115 kg_54 x1 x2 x4 s1 s2 s3 s = some q) : fm_42_115 kf_54 x1 yx2 yx4 ys1 ys2 ys3 σ = some (gx q) := by
  unfold gm_42_115 at h
  unfold fm_42_115
  obtain ⟨z3, h⟩ := fx_gd h
  refine gb_bind (gl_st es es1 (ga_add es2 es3) ga_10 z3) ?_
  obtain ⟨z6, h⟩ := fx_gd h
  refine gb_bind (gl_st (rfl : _ = gx (gw1 s 10 (s1).toNat (s2 + s3))) e4 kg_0 ga_11 z6) ?_
  exact hk_54 _ _ _ e2 _ _ (ga_add e4 kg_1) _ _ (rfl : _ = gx (gw1 (gw1 s 10 (s1).toNat (s2 + s3)) 11 (x4).toNat 0)) _ g1 h
def gm_42_54 : Nat → Nat → Int → Int → gx_S → Option (gx_S)
  | 0, _, _, _, _ => none
  | n + 1, x1, x2, x4, s =>
    if (-2147483648 ≤ x4 ∧ x4 ≤ 2147483647) then (
    if 9 ≤ x4 then (
      some s) else (
      if (-9223372036854775808 ≤ x2 ∧ x2 ≤ 9223372036854775807) then (
      if x2 ≤ 0 then (
        some s) else (
        (gm_79 x1 x4 x2 s).bind fun q6 =>
        if 0 ≤ q6.1 ∧ q6.1 ≤ 9223372036854775807 ∧ 0 < x2 ∧ x2 ≤ 9223372036854775807 then (
        if 0 ≤ x4 ∧ x4 < 9 then (
        if (-9223372036854775808 ≤ (q6.1 % x2) ∧ (q6.1 % x2) ≤ 9223372036854775807) then (
        if ¬ (q6.1 % x2) = 0 then (
          gm_42_115 (gm_42_54 n) x1 x2 x4 x4 ((gw1 q6.2 9 (x4).toNat (q6.1 / x2)).1 9 (x4).toNat) 1 (gw1 q6.2 9 (x4).toNat (q6.1 / x2))) else (
          gm_42_115 (gm_42_54 n) x1 x2 x4 x4 ((gw1 q6.2 9 (x4).toNat (q6.1 / x2)).1 9 (x4).toNat) 0 (gw1 q6.2 9 (x4).toNat (q6.1 / x2)))) else none) else none) else none)) else none)) else none
theorem gf_42_54 : ∀ (n : Nat) (x1 : Nat) (x2 : Int) (yx2 : Int64) (e2 : yx2 = Int64.ofInt x2) (x4 : Int) (yx4 : Int32) (e4 : yx4 = Int32.ofInt x4) (s : gx_S) (σ : fx_S) (es : σ = gx s) (q : gx_S) (g1 : fx_oc x1 7 = true), gm_42_54 n x1 x2 x4 s = some q → fm_42_54 n x1 yx2 yx4 σ = some (gx q) := by
  intro n
  induction n with
  | zero =>
    intro x1 x2 yx2 e2 x4 yx4 e4 s σ es q g1 h
    rw [gm_42_54] at h
    exact fx_no h
  | succ n ih =>
    intro x1 x2 yx2 e2 x4 yx4 e4 s σ es q g1 h
    rw [gm_42_54] at h
    rw [fm_42_54]
    obtain ⟨z1, h⟩ := fx_gd h
    by_cases c2 : 9 ≤ x4
    · rw [if_pos c2] at h
      refine gb_t ((gc_le kg_9 e4 (by decide) z1).mpr c2) ?_
      have h := Option.some.inj h
      subst h
      exact gretv es
    · rw [if_neg c2] at h
      refine gb_f (fun q => c2 ((gc_le kg_9 e4 (by decide) z1).mp q)) ?_
      obtain ⟨z3, h⟩ := fx_gd h
      by_cases c4 : x2 ≤ 0
      · rw [if_pos c4] at h
        refine gb_t ((gcl_le e2 kgl_0 z3 (by decide)).mpr c4) ?_
        have h := Option.some.inj h
        subst h
        exact gretv es
      · rw [if_neg c4] at h
        refine gb_f (fun q => c4 ((gcl_le e2 kgl_0 z3 (by decide)).mp q)) ?_
        obtain ⟨q6, w5, h⟩ := fx_bd h
        refine gb_bind (gf_79 e4 e2 es w5) ?_
        obtain ⟨z7, h⟩ := fx_gd h
        refine gb_t (gcl_nz e2 z7) ?_
        obtain ⟨z11, h⟩ := fx_gd h
        refine gb_bind (gl_st (rfl : _ = gx q6.2) e4 (ga_l2i (gal_div (gr2 q6.1) e2 z7)) ga_9 z11) ?_
        refine gb_bind (gl_ld (rfl : _ = gx (gw1 q6.2 9 (x4).toNat (q6.1 / x2))) e4 ga_9 z11) ?_
        refine gb_t (gcl_nz e2 z7) ?_
        obtain ⟨z15, h⟩ := fx_gd h
        by_cases c16 : ¬ (q6.1 % x2) = 0
        · rw [if_pos c16] at h
          refine gb_t ((gcl_ne (gal_rem (gr2 q6.1) e2 z7) kgl_0 z15 (by decide)).mpr c16) ?_
          exact gf_42_115 ih _ _ _ e2 _ _ e4 _ _ e4 _ _ (gr ((gw1 q6.2 9 (x4).toNat (q6.1 / x2)).1 9 (x4).toNat)) _ _ kg_1 _ _ (rfl : _ = gx (gw1 q6.2 9 (x4).toNat (q6.1 / x2))) _ g1 h
        · rw [if_neg c16] at h
          refine gb_f (fun q => c16 ((gcl_ne (gal_rem (gr2 q6.1) e2 z7) kgl_0 z15 (by decide)).mp q)) ?_
          exact gf_42_115 ih _ _ _ e2 _ _ e4 _ _ e4 _ _ (gr ((gw1 q6.2 9 (x4).toNat (q6.1 / x2)).1 9 (x4).toNat)) _ _ kg_0 _ _ (rfl : _ = gx (gw1 q6.2 9 (x4).toNat (q6.1 / x2))) _ g1 h
def gm_42_36 (k_8 : Nat → Int → Int → gx_S → Option (gx_S)) (x1 : Nat) (x2 : Int) (x4 : Int) (s1 : Int) (s2 : Int) (s : gx_S) : Option (gx_S) :=
  if 0 ≤ s1 ∧ s1 < 72 then (
  if 0 ≤ x4 ∧ x4 < 72 then (
  k_8 x1 x2 (x4 + 1) (gw1 (gw1 s 7 (s1).toNat s2) 8 (x4).toNat 0)) else none) else none
theorem gf_42_36 {kf_8 : Nat → Int64 → Int32 → fx_S → Option (fx_S)} {kg_8 : Nat → Int → Int → gx_S → Option (gx_S)} (hk_8 : ∀ (x1 : Nat) (x2 : Int) (yx2 : Int64) (e2 : yx2 = Int64.ofInt x2) (x4 : Int) (yx4 : Int32) (e4 : yx4 = Int32.ofInt x4) (s : gx_S) (σ : fx_S) (es : σ = gx s) (q : gx_S) (g1 : fx_oc x1 7 = true), kg_8 x1 x2 x4 s = some q → kf_8 x1 yx2 yx4 σ = some (gx q)) (x1 : Nat) (x2 : Int) (yx2 : Int64) (e2 : yx2 = Int64.ofInt x2) (x4 : Int) (yx4 : Int32) (e4 : yx4 = Int32.ofInt x4) (s1 : Int) (ys1 : Int32) (es1 : ys1 = Int32.ofInt s1) (s2 : Int) (ys2 : Int32) (es2 : ys2 = Int32.ofInt s2) (s : gx_S) (σ : fx_S) (es : σ = gx s) (q : gx_S) (g1 : fx_oc x1 7 = true) (h : gm_42_36 kg_8 x1 x2 x4 s1 s2 s = some q) : fm_42_36 kf_8 x1 yx2 yx4 ys1 ys2 σ = some (gx q) := by
  unfold gm_42_36 at h
  unfold fm_42_36
  obtain ⟨z3, h⟩ := fx_gd h
  refine gb_bind (gl_st es es1 es2 ga_7 z3) ?_
  obtain ⟨z6, h⟩ := fx_gd h
  refine gb_bind (gl_st (rfl : _ = gx (gw1 s 7 (s1).toNat s2)) e4 kg_0 ga_8 z6) ?_
  exact hk_8 _ _ _ e2 _ _ (ga_add e4 kg_1) _ _ (rfl : _ = gx (gw1 (gw1 s 7 (s1).toNat s2) 8 (x4).toNat 0)) _ g1 h
def gm_42_8 : Nat → Nat → Int → Int → gx_S → Option (gx_S)
  | 0, _, _, _, _ => none
  | n + 1, x1, x2, x4, s =>
    if (-2147483648 ≤ x4 ∧ x4 ≤ 2147483647) then (
    if 72 ≤ x4 then (
      gm_42_54 100000 x1 x2 0 s) else (
      if 0 ≤ x4 ∧ x4 < 72 then (
      if (-2147483648 ≤ (s.1 (x1 + 7) (x4).toNat) ∧ (s.1 (x1 + 7) (x4).toNat) ≤ 2147483647) then (
      if (s.1 (x1 + 7) (x4).toNat) ≤ 0 then (
        gm_42_36 (gm_42_8 n) x1 x2 x4 x4 0 s) else (
        gm_42_36 (gm_42_8 n) x1 x2 x4 x4 1 s)) else none) else none)) else none
theorem gf_42_8 : ∀ (n : Nat) (x1 : Nat) (x2 : Int) (yx2 : Int64) (e2 : yx2 = Int64.ofInt x2) (x4 : Int) (yx4 : Int32) (e4 : yx4 = Int32.ofInt x4) (s : gx_S) (σ : fx_S) (es : σ = gx s) (q : gx_S) (g1 : fx_oc x1 7 = true), gm_42_8 n x1 x2 x4 s = some q → fm_42_8 n x1 yx2 yx4 σ = some (gx q) := by
  intro n
  induction n with
  | zero =>
    intro x1 x2 yx2 e2 x4 yx4 e4 s σ es q g1 h
    rw [gm_42_8] at h
    exact fx_no h
  | succ n ih =>
    intro x1 x2 yx2 e2 x4 yx4 e4 s σ es q g1 h
    rw [gm_42_8] at h
    rw [fm_42_8]
    obtain ⟨z1, h⟩ := fx_gd h
    by_cases c2 : 72 ≤ x4
    · rw [if_pos c2] at h
      refine gb_t ((gc_le kg_72 e4 (by decide) z1).mpr c2) ?_
      exact gf_42_54 100000 _ _ _ e2 _ _ kg_0 _ _ es _ g1 h
    · rw [if_neg c2] at h
      refine gb_f (fun q => c2 ((gc_le kg_72 e4 (by decide) z1).mp q)) ?_
      obtain ⟨z5, h⟩ := fx_gd h
      refine gb_bind (gl_ld es e4 (ga_7_6 g1) z5) ?_
      obtain ⟨z6, h⟩ := fx_gd h
      by_cases c7 : (s.1 (x1 + 7) (x4).toNat) ≤ 0
      · rw [if_pos c7] at h
        refine gb_t ((gc_le (gr (s.1 (x1 + 7) (x4).toNat)) kg_0 z6 (by decide)).mpr c7) ?_
        exact gf_42_36 ih _ _ _ e2 _ _ e4 _ _ e4 _ _ kg_0 _ _ es _ g1 h
      · rw [if_neg c7] at h
        refine gb_f (fun q => c7 ((gc_le (gr (s.1 (x1 + 7) (x4).toNat)) kg_0 z6 (by decide)).mp q)) ?_
        exact gf_42_36 ih _ _ _ e2 _ _ e4 _ _ e4 _ _ kg_1 _ _ es _ g1 h
def gm_42 (x1 : Nat) (s : gx_S) : Option (gx_S) :=
  if fx_oc x1 7 = true then (
  (gm_78 x1 s).bind fun q55 =>
  gm_42_8 100000 x1 q55.1 0 q55.2) else none
theorem gf_42 {x1 : Nat} {s : gx_S} {σ : fx_S} (es : σ = gx s) {q : gx_S} (h : gm_42 x1 s = some q) : fm_42 x1 σ = some (gx q) := by
  unfold gm_42 at h
  unfold fm_42
  obtain ⟨gg, h⟩ := fx_gd h
  refine gb_t gg ?_
  have g1 := gg
  obtain ⟨q55, w54, h⟩ := fx_bd h
  refine gb_bind (gf_78 es w54) ?_
  exact gf_42_8 100000 _ _ _ (gr2 q55.1) _ _ kg_0 _ _ (rfl : _ = gx q55.2) _ g1 h

/-! ZoneShares$Rounder.fillRow(II)V -/
def gm_43_30 (k_2 : Int → Int → Int → gx_S → Option (gx_S)) (x1 : Int) (x2 : Int) (x3 : Int) (s : gx_S) : Option (gx_S) :=
  k_2 x1 x2 (x3 + 1) s
theorem gf_43_30 {kf_2 : Int32 → Int32 → Int32 → fx_S → Option (fx_S)} {kg_2 : Int → Int → Int → gx_S → Option (gx_S)} (hk_2 : ∀ (x1 : Int) (yx1 : Int32) (e1 : yx1 = Int32.ofInt x1) (x2 : Int) (yx2 : Int32) (e2 : yx2 = Int32.ofInt x2) (x3 : Int) (yx3 : Int32) (e3 : yx3 = Int32.ofInt x3) (s : gx_S) (σ : fx_S) (es : σ = gx s) (q : gx_S), kg_2 x1 x2 x3 s = some q → kf_2 yx1 yx2 yx3 σ = some (gx q)) (x1 : Int) (yx1 : Int32) (e1 : yx1 = Int32.ofInt x1) (x2 : Int) (yx2 : Int32) (e2 : yx2 = Int32.ofInt x2) (x3 : Int) (yx3 : Int32) (e3 : yx3 = Int32.ofInt x3) (s : gx_S) (σ : fx_S) (es : σ = gx s) (q : gx_S) (h : gm_43_30 kg_2 x1 x2 x3 s = some q) : fm_43_30 kf_2 yx1 yx2 yx3 σ = some (gx q) := by
  unfold gm_43_30 at h
  unfold fm_43_30
  exact hk_2 _ _ e1 _ _ e2 _ _ (ga_add e3 kg_1) _ _ es _ h
def gm_43_2 : Nat → Int → Int → Int → gx_S → Option (gx_S)
  | 0, _, _, _, _ => none
  | n + 1, x1, x2, x3, s =>
    if (-2147483648 ≤ x3 ∧ x3 ≤ 2147483647) then (
    if (-2147483648 ≤ x2 ∧ x2 ≤ 2147483647) then (
    if x2 ≤ x3 then (
      some s) else (
      if 9 ≤ x3 then (
        some s) else (
        (gm_46 x1 17 s).bind fun q6 =>
        if (gb q6.1) = 0 then (
          gm_43_30 (gm_43_2 n) x1 x2 x3 q6.2) else (
          (gm_51 x1 17 q6.2).bind fun q9 =>
          gm_43_30 (gm_43_2 n) x1 x2 x3 q9)))) else none) else none
theorem gf_43_2 : ∀ (n : Nat) (x1 : Int) (yx1 : Int32) (e1 : yx1 = Int32.ofInt x1) (x2 : Int) (yx2 : Int32) (e2 : yx2 = Int32.ofInt x2) (x3 : Int) (yx3 : Int32) (e3 : yx3 = Int32.ofInt x3) (s : gx_S) (σ : fx_S) (es : σ = gx s) (q : gx_S), gm_43_2 n x1 x2 x3 s = some q → fm_43_2 n yx1 yx2 yx3 σ = some (gx q) := by
  intro n
  induction n with
  | zero =>
    intro x1 yx1 e1 x2 yx2 e2 x3 yx3 e3 s σ es q  h
    rw [gm_43_2] at h
    exact fx_no h
  | succ n ih =>
    intro x1 yx1 e1 x2 yx2 e2 x3 yx3 e3 s σ es q  h
    rw [gm_43_2] at h
    rw [fm_43_2]
    obtain ⟨z1, h⟩ := fx_gd h
    obtain ⟨z2, h⟩ := fx_gd h
    by_cases c3 : x2 ≤ x3
    · rw [if_pos c3] at h
      refine gb_t ((gc_le e2 e3 z2 z1).mpr c3) ?_
      have h := Option.some.inj h
      subst h
      exact gretv es
    · rw [if_neg c3] at h
      refine gb_f (fun q => c3 ((gc_le e2 e3 z2 z1).mp q)) ?_
      by_cases c4 : 9 ≤ x3
      · rw [if_pos c4] at h
        refine gb_t ((gc_le kg_9 e3 (by decide) z1).mpr c4) ?_
        have h := Option.some.inj h
        subst h
        exact gretv es
      · rw [if_neg c4] at h
        refine gb_f (fun q => c4 ((gc_le kg_9 e3 (by decide) z1).mp q)) ?_
        obtain ⟨q6, w5, h⟩ := fx_bd h
        refine gb_bind (gf_46 e1 kg_17 es w5) ?_
        by_cases c7 : (gb q6.1) = 0
        · rw [if_pos c7] at h
          refine gb_t ((gc_eq (gb_b q6.1) kg_0 (gb_r _) (by decide)).mpr c7) ?_
          exact gf_43_30 ih _ _ e1 _ _ e2 _ _ e3 _ _ (rfl : _ = gx q6.2) _ h
        · rw [if_neg c7] at h
          refine gb_f (fun q => c7 ((gc_eq (gb_b q6.1) kg_0 (gb_r _) (by decide)).mp q)) ?_
          obtain ⟨q9, w8, h⟩ := fx_bd h
          refine gb_bind (gf_51 e1 kg_17 (rfl : _ = gx q6.2) w8) ?_
          exact gf_43_30 ih _ _ e1 _ _ e2 _ _ e3 _ _ (rfl : _ = gx q9) _ h
def gm_43 (x1 : Int) (x2 : Int) (s : gx_S) : Option (gx_S) :=
  gm_43_2 100000 x1 x2 0 s
theorem gf_43 {x1 : Int} {yx1 : Int32} (e1 : yx1 = Int32.ofInt x1) {x2 : Int} {yx2 : Int32} (e2 : yx2 = Int32.ofInt x2) {s : gx_S} {σ : fx_S} (es : σ = gx s) {q : gx_S} (h : gm_43 x1 x2 s = some q) : fm_43 yx1 yx2 σ = some (gx q) := by
  unfold gm_43 at h
  unfold fm_43
  exact gf_43_2 100000 _ _ e1 _ _ e2 _ _ kg_0 _ _ es _ h

/-! ZoneShares$Rounder.fillColumn(I)V -/
def gm_44_56 (k_2 : Int → Int → gx_S → Option (gx_S)) (x1 : Int) (x2 : Int) (s : gx_S) : Option (gx_S) :=
  k_2 x1 (x2 + 1) s
theorem gf_44_56 {kf_2 : Int32 → Int32 → fx_S → Option (fx_S)} {kg_2 : Int → Int → gx_S → Option (gx_S)} (hk_2 : ∀ (x1 : Int) (yx1 : Int32) (e1 : yx1 = Int32.ofInt x1) (x2 : Int) (yx2 : Int32) (e2 : yx2 = Int32.ofInt x2) (s : gx_S) (σ : fx_S) (es : σ = gx s) (q : gx_S), kg_2 x1 x2 s = some q → kf_2 yx1 yx2 σ = some (gx q)) (x1 : Int) (yx1 : Int32) (e1 : yx1 = Int32.ofInt x1) (x2 : Int) (yx2 : Int32) (e2 : yx2 = Int32.ofInt x2) (s : gx_S) (σ : fx_S) (es : σ = gx s) (q : gx_S) (h : gm_44_56 kg_2 x1 x2 s = some q) : fm_44_56 kf_2 yx1 yx2 σ = some (gx q) := by
  unfold gm_44_56 at h
  unfold fm_44_56
  exact hk_2 _ _ e1 _ _ (ga_add e2 kg_1) _ _ es _ h
def gm_44_2 : Nat → Int → Int → gx_S → Option (gx_S)
  | 0, _, _, _ => none
  | n + 1, x1, x2, s =>
    if (-2147483648 ≤ x2 ∧ x2 ≤ 2147483647) then (
    if 8 ≤ x2 then (
      some s) else (
      if 0 ≤ x1 ∧ x1 < 9 then (
      if (-2147483648 ≤ (s.1 11 (x1).toNat) ∧ (s.1 11 (x1).toNat) ≤ 2147483647) then (
      if (-2147483648 ≤ (s.1 9 (x1).toNat) ∧ (s.1 9 (x1).toNat) ≤ 2147483647) then (
      if (s.1 9 (x1).toNat) ≤ (s.1 11 (x1).toNat) then (
        some s) else (
        (gm_46 17 (8 + x1) s).bind fun q12 =>
        if (gb q12.1) = 0 then (
          gm_44_56 (gm_44_2 n) x1 x2 q12.2) else (
          (gm_51 17 (8 + x1) q12.2).bind fun q15 =>
          gm_44_56 (gm_44_2 n) x1 x2 (gw1 q15 11 (x1).toNat ((q15.1 11 (x1).toNat) + 1))))) else none) else none) else none)) else none
theorem gf_44_2 : ∀ (n : Nat) (x1 : Int) (yx1 : Int32) (e1 : yx1 = Int32.ofInt x1) (x2 : Int) (yx2 : Int32) (e2 : yx2 = Int32.ofInt x2) (s : gx_S) (σ : fx_S) (es : σ = gx s) (q : gx_S), gm_44_2 n x1 x2 s = some q → fm_44_2 n yx1 yx2 σ = some (gx q) := by
  intro n
  induction n with
  | zero =>
    intro x1 yx1 e1 x2 yx2 e2 s σ es q  h
    rw [gm_44_2] at h
    exact fx_no h
  | succ n ih =>
    intro x1 yx1 e1 x2 yx2 e2 s σ es q  h
    rw [gm_44_2] at h
    rw [fm_44_2]
    obtain ⟨z1, h⟩ := fx_gd h
    by_cases c2 : 8 ≤ x2
    · rw [if_pos c2] at h
      refine gb_t ((gc_le kg_8 e2 (by decide) z1).mpr c2) ?_
      have h := Option.some.inj h
      subst h
      exact gretv es
    · rw [if_neg c2] at h
      refine gb_f (fun q => c2 ((gc_le kg_8 e2 (by decide) z1).mp q)) ?_
      obtain ⟨z5, h⟩ := fx_gd h
      refine gb_bind (gl_ld es e1 ga_11 z5) ?_
      refine gb_bind (gl_ld es e1 ga_9 z5) ?_
      obtain ⟨z8, h⟩ := fx_gd h
      obtain ⟨z9, h⟩ := fx_gd h
      by_cases c10 : (s.1 9 (x1).toNat) ≤ (s.1 11 (x1).toNat)
      · rw [if_pos c10] at h
        refine gb_t ((gc_le (gr (s.1 9 (x1).toNat)) (gr (s.1 11 (x1).toNat)) z9 z8).mpr c10) ?_
        have h := Option.some.inj h
        subst h
        exact gretv es
      · rw [if_neg c10] at h
        refine gb_f (fun q => c10 ((gc_le (gr (s.1 9 (x1).toNat)) (gr (s.1 11 (x1).toNat)) z9 z8).mp q)) ?_
        obtain ⟨q12, w11, h⟩ := fx_bd h
        refine gb_bind (gf_46 kg_17 (ga_add kg_8 e1) es w11) ?_
        by_cases c13 : (gb q12.1) = 0
        · rw [if_pos c13] at h
          refine gb_t ((gc_eq (gb_b q12.1) kg_0 (gb_r _) (by decide)).mpr c13) ?_
          exact gf_44_56 ih _ _ e1 _ _ e2 _ _ (rfl : _ = gx q12.2) _ h
        · rw [if_neg c13] at h
          refine gb_f (fun q => c13 ((gc_eq (gb_b q12.1) kg_0 (gb_r _) (by decide)).mp q)) ?_
          obtain ⟨q15, w14, h⟩ := fx_bd h
          refine gb_bind (gf_51 kg_17 (ga_add kg_8 e1) (rfl : _ = gx q12.2) w14) ?_
          refine gb_bind (gl_ld (rfl : _ = gx q15) e1 ga_11 z5) ?_
          refine gb_bind (gl_st (rfl : _ = gx q15) e1 (ga_add (gr (q15.1 11 (x1).toNat)) kg_1) ga_11 z5) ?_
          exact gf_44_56 ih _ _ e1 _ _ e2 _ _ (rfl : _ = gx (gw1 q15 11 (x1).toNat ((q15.1 11 (x1).toNat) + 1))) _ h
def gm_44 (x1 : Int) (s : gx_S) : Option (gx_S) :=
  gm_44_2 100000 x1 0 s
theorem gf_44 {x1 : Int} {yx1 : Int32} (e1 : yx1 = Int32.ofInt x1) {s : gx_S} {σ : fx_S} (es : σ = gx s) {q : gx_S} (h : gm_44 x1 s = some q) : fm_44 yx1 σ = some (gx q) := by
  unfold gm_44 at h
  unfold fm_44
  exact gf_44_2 100000 _ _ e1 _ _ kg_0 _ _ es _ h

/-! ZoneShares$Rounder.fix(I)V -/
def gm_45 (x1 : Int) (s : gx_S) : Option (gx_S) :=
  if 0 ≤ x1 ∧ x1 < 72 then (
  if 0 ≤ x1 ∧ x1 ≤ 2147483647 then (
  if (-2147483648 ≤ ((gw1 s 7 (x1).toNat 0).1 8 (x1).toNat) ∧ ((gw1 s 7 (x1).toNat 0).1 8 (x1).toNat) ≤ 2147483647) then (
  if ¬ ((gw1 s 7 (x1).toNat 0).1 8 (x1).toNat) = 0 then (
    some (gw1 s 7 (x1).toNat 0)) else (
    (gm_46 (8 + (x1 % 9)) (x1 / 9) (gw1 s 7 (x1).toNat 0)).bind fun q25 =>
    if (gb q25.1) = 0 then (
      some q25.2) else (
      (gm_51 (8 + (x1 % 9)) (x1 / 9) q25.2).bind fun q28 =>
      some (gw1 q28 8 (x1).toNat 1)))) else none) else none) else none
theorem gf_45 {x1 : Int} {yx1 : Int32} (e1 : yx1 = Int32.ofInt x1) {s : gx_S} {σ : fx_S} (es : σ = gx s) {q : gx_S} (h : gm_45 x1 s = some q) : fm_45 yx1 σ = some (gx q) := by
  unfold gm_45 at h
  unfold fm_45
  obtain ⟨z18, h⟩ := fx_gd h
  refine gb_bind (gl_st es e1 kg_0 ga_7 z18) ?_
  obtain ⟨z19, h⟩ := fx_gd h
  refine gb_bind (gl_ld (rfl : _ = gx (gw1 s 7 (x1).toNat 0)) e1 ga_8 z18) ?_
  obtain ⟨z22, h⟩ := fx_gd h
  by_cases c23 : ¬ ((gw1 s 7 (x1).toNat 0).1 8 (x1).toNat) = 0
  · rw [if_pos c23] at h
    refine gb_t ((gc_ne (gr ((gw1 s 7 (x1).toNat 0).1 8 (x1).toNat)) kg_0 z22 (by decide)).mpr c23) ?_
    have h := Option.some.inj h
    subst h
    exact gretv (rfl : _ = gx (gw1 s 7 (x1).toNat 0))
  · rw [if_neg c23] at h
    refine gb_f (fun q => c23 ((gc_ne (gr ((gw1 s 7 (x1).toNat 0).1 8 (x1).toNat)) kg_0 z22 (by decide)).mp q)) ?_
    obtain ⟨q25, w24, h⟩ := fx_bd h
    refine gb_bind (gf_46 (ga_add kg_8 (ga_rem e1 kg_9 ⟨z19.1, z19.2, by decide, by decide⟩)) (ga_div e1 kg_9 ⟨z19.1, z19.2, by decide, by decide⟩) (rfl : _ = gx (gw1 s 7 (x1).toNat 0)) w24) ?_
    by_cases c26 : (gb q25.1) = 0
    · rw [if_pos c26] at h
      refine gb_t ((gc_eq (gb_b q25.1) kg_0 (gb_r _) (by decide)).mpr c26) ?_
      have h := Option.some.inj h
      subst h
      exact gretv (rfl : _ = gx q25.2)
    · rw [if_neg c26] at h
      refine gb_f (fun q => c26 ((gc_eq (gb_b q25.1) kg_0 (gb_r _) (by decide)).mp q)) ?_
      obtain ⟨q28, w27, h⟩ := fx_bd h
      refine gb_bind (gf_51 (ga_add kg_8 (ga_rem e1 kg_9 ⟨z19.1, z19.2, by decide, by decide⟩)) (ga_div e1 kg_9 ⟨z19.1, z19.2, by decide, by decide⟩) (rfl : _ = gx q25.2) w27) ?_
      refine gb_bind (gl_st (rfl : _ = gx q28) e1 kg_1 ga_8 z18) ?_
      have h := Option.some.inj h
      subst h
      exact gretv (rfl : _ = gx (gw1 q28 8 (x1).toNat 1))

/-! ZoneShares.layer(I)I -/
def gm_87_26 (x1 : Int) (s : gx_S) : Option (Int × gx_S) :=
  (gm_34 x1 1 s).bind fun q2 =>
  if (-2147483648 ≤ q2.1 ∧ q2.1 ≤ 2147483647) then (
  if q2.1 = (-1) then (
    (gm_119 (gw1 q2.2 14 1 0)).bind fun q6 =>
    (gm_55 1 x1 q6).bind fun q8 =>
    (gm_58 1 q8).bind fun q10 =>
    some (q10.1, q10.2)) else (
    some (((-2) - q2.1), (gw1 q2.2 14 1 0)))) else none
theorem gf_87_26 (x1 : Int) (yx1 : Int32) (e1 : yx1 = Int32.ofInt x1) (s : gx_S) (σ : fx_S) (es : σ = gx s) (q : Int × gx_S) (h : gm_87_26 x1 s = some q) : fm_87_26 yx1 σ = some (Int32.ofInt q.1, gx q.2) := by
  unfold gm_87_26 at h
  unfold fm_87_26
  obtain ⟨q2, w1, h⟩ := fx_bd h
  refine gb_bind (gf_34 e1 es w1) ?_
  obtain ⟨z3, h⟩ := fx_gd h
  by_cases c4 : q2.1 = (-1)
  · rw [if_pos c4] at h
    refine gb_t ((gc_eq (gr q2.1) kg_m1 z3 (by decide)).mpr c4) ?_
    obtain ⟨q6, w5, h⟩ := fx_bd h
    refine gb_bind (gf_119 (gx_w1 (rfl : _ = gx q2.2) kg_0) w5) ?_
    obtain ⟨q8, w7, h⟩ := fx_bd h
    refine gb_bind (gf_55 e1 (rfl : _ = gx q6) w7) ?_
    obtain ⟨q10, w9, h⟩ := fx_bd h
    refine gb_bind (gf_58 (rfl : _ = gx q8) w9) ?_
    have h := Option.some.inj h
    subst h
    exact gret (gr q10.1) (rfl : _ = gx q10.2)
  · rw [if_neg c4] at h
    refine gb_f (fun q => c4 ((gc_eq (gr q2.1) kg_m1 z3 (by decide)).mp q)) ?_
    have h := Option.some.inj h
    subst h
    exact gret (ga_sub kg_m2 (gr q2.1)) (gx_w1 (rfl : _ = gx q2.2) kg_0)
def gm_87 (x1 : Int) (s : gx_S) : Option (Int × gx_S) :=
  if (-2147483648 ≤ x1 ∧ x1 ≤ 2147483647) then (
  if x1 < 0 then (
    some ((-1), s)) else (
    if 2 < x1 then (
      some ((-1), s)) else (
      if x1 = 0 then (
        gm_87_26 x1 s) else (
        (gm_56 1 0 s).bind fun q23 =>
        if ¬ (gb q23.1) = 0 then (
          gm_87_26 x1 q23.2) else (
          some ((-1), q23.2)))))) else none
theorem gf_87 {x1 : Int} {yx1 : Int32} (e1 : yx1 = Int32.ofInt x1) {s : gx_S} {σ : fx_S} (es : σ = gx s) {q : Int × gx_S} (h : gm_87 x1 s = some q) : fm_87 yx1 σ = some (Int32.ofInt q.1, gx q.2) := by
  unfold gm_87 at h
  unfold fm_87
  obtain ⟨z18, h⟩ := fx_gd h
  by_cases c19 : x1 < 0
  · rw [if_pos c19] at h
    refine gb_t ((gc_lt e1 kg_0 z18 (by decide)).mpr c19) ?_
    have h := Option.some.inj h
    subst h
    exact gret kg_m1 es
  · rw [if_neg c19] at h
    refine gb_f (fun q => c19 ((gc_lt e1 kg_0 z18 (by decide)).mp q)) ?_
    by_cases c20 : 2 < x1
    · rw [if_pos c20] at h
      refine gb_t ((gc_lt kg_2 e1 (by decide) z18).mpr c20) ?_
      have h := Option.some.inj h
      subst h
      exact gret kg_m1 es
    · rw [if_neg c20] at h
      refine gb_f (fun q => c20 ((gc_lt kg_2 e1 (by decide) z18).mp q)) ?_
      by_cases c21 : x1 = 0
      · rw [if_pos c21] at h
        refine gb_t ((gc_eq e1 kg_0 z18 (by decide)).mpr c21) ?_
        exact gf_87_26 _ _ e1 _ _ es _ h
      · rw [if_neg c21] at h
        refine gb_f (fun q => c21 ((gc_eq e1 kg_0 z18 (by decide)).mp q)) ?_
        obtain ⟨q23, w22, h⟩ := fx_bd h
        refine gb_bind (gf_56 kg_0 es w22) ?_
        by_cases c24 : ¬ (gb q23.1) = 0
        · rw [if_pos c24] at h
          refine gb_t ((gc_ne (gb_b q23.1) kg_0 (gb_r _) (by decide)).mpr c24) ?_
          exact gf_87_26 _ _ e1 _ _ (rfl : _ = gx q23.2) _ h
        · rw [if_neg c24] at h
          refine gb_f (fun q => c24 ((gc_ne (gb_b q23.1) kg_0 (gb_r _) (by decide)).mp q)) ?_
          have h := Option.some.inj h
          subst h
          exact gret kg_m1 (rfl : _ = gx q23.2)

/-! ZoneShares.weigh(III)I -/
def gm_89_137 : Nat → Int → Int → Int → Int → Int → gx_S → Option (Int × gx_S)
  | 0, _, _, _, _, _, _ => none
  | n + 1, x2, x3, x5, x7, x8, s =>
    if (-2147483648 ≤ x8 ∧ x8 ≤ 2147483647) then (
    if (-2147483648 ≤ x5 ∧ x5 ≤ 2147483647) then (
    if x5 < x8 then (
      some (x7, s)) else (
      if 0 ≤ ((x8 * 4) + x2) ∧ ((x8 * 4) + x2) < 12 then (
      gm_89_137 n x2 x3 x5 x7 (x8 + 1) (gw1 s 4 (((x8 * 4) + x2)).toNat x3)) else none)) else none) else none
theorem gf_89_137 : ∀ (n : Nat) (x2 : Int) (yx2 : Int32) (e2 : yx2 = Int32.ofInt x2) (x3 : Int) (yx3 : Int32) (e3 : yx3 = Int32.ofInt x3) (x5 : Int) (yx5 : Int32) (e5 : yx5 = Int32.ofInt x5) (x7 : Int) (yx7 : Int32) (e7 : yx7 = Int32.ofInt x7) (x8 : Int) (yx8 : Int32) (e8 : yx8 = Int32.ofInt x8) (s : gx_S) (σ : fx_S) (es : σ = gx s) (q : Int × gx_S), gm_89_137 n x2 x3 x5 x7 x8 s = some q → fm_89_137 n yx2 yx3 yx5 yx7 yx8 σ = some (Int32.ofInt q.1, gx q.2) := by
  intro n
  induction n with
  | zero =>
    intro x2 yx2 e2 x3 yx3 e3 x5 yx5 e5 x7 yx7 e7 x8 yx8 e8 s σ es q  h
    rw [gm_89_137] at h
    exact fx_no h
  | succ n ih =>
    intro x2 yx2 e2 x3 yx3 e3 x5 yx5 e5 x7 yx7 e7 x8 yx8 e8 s σ es q  h
    rw [gm_89_137] at h
    rw [fm_89_137]
    obtain ⟨z1, h⟩ := fx_gd h
    obtain ⟨z2, h⟩ := fx_gd h
    by_cases c3 : x5 < x8
    · rw [if_pos c3] at h
      refine gb_t ((gc_lt e5 e8 z2 z1).mpr c3) ?_
      have h := Option.some.inj h
      subst h
      exact gret e7 es
    · rw [if_neg c3] at h
      refine gb_f (fun q => c3 ((gc_lt e5 e8 z2 z1).mp q)) ?_
      obtain ⟨z6, h⟩ := fx_gd h
      refine gb_bind (gl_st es (ga_add (ga_mul e8 kg_4) e2) e3 ga_4 z6) ?_
      exact ih _ _ e2 _ _ e3 _ _ e5 _ _ e7 _ _ (ga_add e8 kg_1) _ _ (rfl : _ = gx (gw1 s 4 (((x8 * 4) + x2)).toNat x3)) _ h
def gm_89_97 (k_62 : Int → Int → Int → Int → Int → Int → gx_S → Option (Int × gx_S)) (x2 : Int) (x3 : Int) (x4 : Int) (x5 : Int) (x7 : Int) (s0 : Int) (s : gx_S) : Option (Int × gx_S) :=
  k_62 x2 x3 x4 x5 s0 (x7 + 1) s
theorem gf_89_97 {kf_62 : Int32 → Int32 → Int32 → Int32 → Int32 → Int32 → fx_S → Option (Int32 × fx_S)} {kg_62 : Int → Int → Int → Int → Int → Int → gx_S → Option (Int × gx_S)} (hk_62 : ∀ (x2 : Int) (yx2 : Int32) (e2 : yx2 = Int32.ofInt x2) (x3 : Int) (yx3 : Int32) (e3 : yx3 = Int32.ofInt x3) (x4 : Int) (yx4 : Int32) (e4 : yx4 = Int32.ofInt x4) (x5 : Int) (yx5 : Int32) (e5 : yx5 = Int32.ofInt x5) (x6 : Int) (yx6 : Int32) (e6 : yx6 = Int32.ofInt x6) (x7 : Int) (yx7 : Int32) (e7 : yx7 = Int32.ofInt x7) (s : gx_S) (σ : fx_S) (es : σ = gx s) (q : Int × gx_S), kg_62 x2 x3 x4 x5 x6 x7 s = some q → kf_62 yx2 yx3 yx4 yx5 yx6 yx7 σ = some (Int32.ofInt q.1, gx q.2)) (x2 : Int) (yx2 : Int32) (e2 : yx2 = Int32.ofInt x2) (x3 : Int) (yx3 : Int32) (e3 : yx3 = Int32.ofInt x3) (x4 : Int) (yx4 : Int32) (e4 : yx4 = Int32.ofInt x4) (x5 : Int) (yx5 : Int32) (e5 : yx5 = Int32.ofInt x5) (x7 : Int) (yx7 : Int32) (e7 : yx7 = Int32.ofInt x7) (s0 : Int) (ys0 : Int32) (es0 : ys0 = Int32.ofInt s0) (s : gx_S) (σ : fx_S) (es : σ = gx s) (q : Int × gx_S) (h : gm_89_97 kg_62 x2 x3 x4 x5 x7 s0 s = some q) : fm_89_97 kf_62 yx2 yx3 yx4 yx5 yx7 ys0 σ = some (Int32.ofInt q.1, gx q.2) := by
  unfold gm_89_97 at h
  unfold fm_89_97
  exact hk_62 _ _ e2 _ _ e3 _ _ e4 _ _ e5 _ _ es0 _ _ (ga_add e7 kg_1) _ _ es _ h
def gm_89_62 : Nat → Int → Int → Int → Int → Int → Int → gx_S → Option (Int × gx_S)
  | 0, _, _, _, _, _, _, _ => none
  | n + 1, x2, x3, x4, x5, x6, x7, s =>
    if (-2147483648 ≤ x7 ∧ x7 ≤ 2147483647) then (
    if (-2147483648 ≤ x5 ∧ x5 ≤ 2147483647) then (
    if x5 < x7 then (
      if (-2147483648 ≤ x6 ∧ x6 ≤ 2147483647) then (
      if x6 = 0 then (
        if 0 ≤ ((x4 * 4) + x2) ∧ ((x4 * 4) + x2) < 12 then (
        (gm_119 s).bind fun q10 =>
        gm_89_137 100000 x2 x3 x5 (s.1 4 (((x4 * 4) + x2)).toNat) x4 q10) else none) else (
        some ((-2), s))) else none) else (
      if (-2147483648 ≤ x6 ∧ x6 ≤ 2147483647) then (
      if x6 = 0 then (
        gm_89_97 (gm_89_62 n) x2 x3 x4 x5 x7 0 s) else (
        if 0 ≤ ((x7 * 4) + x2) ∧ ((x7 * 4) + x2) < 12 then (
        if (-2147483648 ≤ (s.1 4 (((x7 * 4) + x2)).toNat) ∧ (s.1 4 (((x7 * 4) + x2)).toNat) ≤ 2147483647) then (
        if (-2147483648 ≤ x3 ∧ x3 ≤ 2147483647) then (
        if ¬ (s.1 4 (((x7 * 4) + x2)).toNat) = x3 then (
          gm_89_97 (gm_89_62 n) x2 x3 x4 x5 x7 0 s) else (
          gm_89_97 (gm_89_62 n) x2 x3 x4 x5 x7 1 s)) else none) else none) else none)) else none)) else none) else none
theorem gf_89_62 : ∀ (n : Nat) (x2 : Int) (yx2 : Int32) (e2 : yx2 = Int32.ofInt x2) (x3 : Int) (yx3 : Int32) (e3 : yx3 = Int32.ofInt x3) (x4 : Int) (yx4 : Int32) (e4 : yx4 = Int32.ofInt x4) (x5 : Int) (yx5 : Int32) (e5 : yx5 = Int32.ofInt x5) (x6 : Int) (yx6 : Int32) (e6 : yx6 = Int32.ofInt x6) (x7 : Int) (yx7 : Int32) (e7 : yx7 = Int32.ofInt x7) (s : gx_S) (σ : fx_S) (es : σ = gx s) (q : Int × gx_S), gm_89_62 n x2 x3 x4 x5 x6 x7 s = some q → fm_89_62 n yx2 yx3 yx4 yx5 yx6 yx7 σ = some (Int32.ofInt q.1, gx q.2) := by
  intro n
  induction n with
  | zero =>
    intro x2 yx2 e2 x3 yx3 e3 x4 yx4 e4 x5 yx5 e5 x6 yx6 e6 x7 yx7 e7 s σ es q  h
    rw [gm_89_62] at h
    exact fx_no h
  | succ n ih =>
    intro x2 yx2 e2 x3 yx3 e3 x4 yx4 e4 x5 yx5 e5 x6 yx6 e6 x7 yx7 e7 s σ es q  h
    rw [gm_89_62] at h
    rw [fm_89_62]
    obtain ⟨z1, h⟩ := fx_gd h
    obtain ⟨z2, h⟩ := fx_gd h
    by_cases c3 : x5 < x7
    · rw [if_pos c3] at h
      refine gb_t ((gc_lt e5 e7 z2 z1).mpr c3) ?_
      obtain ⟨z4, h⟩ := fx_gd h
      by_cases c5 : x6 = 0
      · rw [if_pos c5] at h
        refine gb_t ((gc_eq e6 kg_0 z4 (by decide)).mpr c5) ?_
        obtain ⟨z8, h⟩ := fx_gd h
        refine gb_bind (gl_ld es (ga_add (ga_mul e4 kg_4) e2) ga_4 z8) ?_
        obtain ⟨q10, w9, h⟩ := fx_bd h
        refine gb_bind (gf_119 es w9) ?_
        exact gf_89_137 100000 _ _ e2 _ _ e3 _ _ e5 _ _ (gr (s.1 4 (((x4 * 4) + x2)).toNat)) _ _ e4 _ _ (rfl : _ = gx q10) _ h
      · rw [if_neg c5] at h
        refine gb_f (fun q => c5 ((gc_eq e6 kg_0 z4 (by decide)).mp q)) ?_
        have h := Option.some.inj h
        subst h
        exact gret kg_m2 es
    · rw [if_neg c3] at h
      refine gb_f (fun q => c3 ((gc_lt e5 e7 z2 z1).mp q)) ?_
      obtain ⟨z11, h⟩ := fx_gd h
      by_cases c12 : x6 = 0
      · rw [if_pos c12] at h
        refine gb_t ((gc_eq e6 kg_0 z11 (by decide)).mpr c12) ?_
        exact gf_89_97 ih _ _ e2 _ _ e3 _ _ e4 _ _ e5 _ _ e7 _ _ kg_0 _ _ es _ h
      · rw [if_neg c12] at h
        refine gb_f (fun q => c12 ((gc_eq e6 kg_0 z11 (by decide)).mp q)) ?_
        obtain ⟨z15, h⟩ := fx_gd h
        refine gb_bind (gl_ld es (ga_add (ga_mul e7 kg_4) e2) ga_4 z15) ?_
        obtain ⟨z16, h⟩ := fx_gd h
        obtain ⟨z17, h⟩ := fx_gd h
        by_cases c18 : ¬ (s.1 4 (((x7 * 4) + x2)).toNat) = x3
        · rw [if_pos c18] at h
          refine gb_t ((gc_ne (gr (s.1 4 (((x7 * 4) + x2)).toNat)) e3 z16 z17).mpr c18) ?_
          exact gf_89_97 ih _ _ e2 _ _ e3 _ _ e4 _ _ e5 _ _ e7 _ _ kg_0 _ _ es _ h
        · rw [if_neg c18] at h
          refine gb_f (fun q => c18 ((gc_ne (gr (s.1 4 (((x7 * 4) + x2)).toNat)) e3 z16 z17).mp q)) ?_
          exact gf_89_97 ih _ _ e2 _ _ e3 _ _ e4 _ _ e5 _ _ e7 _ _ kg_1 _ _ es _ h
def gm_89_53 (x2 : Int) (x3 : Int) (x4 : Int) (s0 : Int) (s : gx_S) : Option (Int × gx_S) :=
  gm_89_62 100000 x2 x3 x4 s0 1 x4 s
theorem gf_89_53 (x2 : Int) (yx2 : Int32) (e2 : yx2 = Int32.ofInt x2) (x3 : Int) (yx3 : Int32) (e3 : yx3 = Int32.ofInt x3) (x4 : Int) (yx4 : Int32) (e4 : yx4 = Int32.ofInt x4) (s0 : Int) (ys0 : Int32) (es0 : ys0 = Int32.ofInt s0) (s : gx_S) (σ : fx_S) (es : σ = gx s) (q : Int × gx_S) (h : gm_89_53 x2 x3 x4 s0 s = some q) : fm_89_53 yx2 yx3 yx4 ys0 σ = some (Int32.ofInt q.1, gx q.2) := by
  unfold gm_89_53 at h
  unfold fm_89_53
  exact gf_89_62 100000 _ _ e2 _ _ e3 _ _ e4 _ _ es0 _ _ kg_1 _ _ e4 _ _ es _ h
def gm_89_41 (x1 : Int) (x2 : Int) (x3 : Int) (s0 : Int) (s : gx_S) : Option (Int × gx_S) :=
  if (-2147483648 ≤ x1 ∧ x1 ≤ 2147483647) then (
  if ¬ x1 = (-1) then (
    gm_89_53 x2 x3 s0 x1 s) else (
    gm_89_53 x2 x3 s0 2 s)) else none
theorem gf_89_41 (x1 : Int) (yx1 : Int32) (e1 : yx1 = Int32.ofInt x1) (x2 : Int) (yx2 : Int32) (e2 : yx2 = Int32.ofInt x2) (x3 : Int) (yx3 : Int32) (e3 : yx3 = Int32.ofInt x3) (s0 : Int) (ys0 : Int32) (es0 : ys0 = Int32.ofInt s0) (s : gx_S) (σ : fx_S) (es : σ = gx s) (q : Int × gx_S) (h : gm_89_41 x1 x2 x3 s0 s = some q) : fm_89_41 yx1 yx2 yx3 ys0 σ = some (Int32.ofInt q.1, gx q.2) := by
  unfold gm_89_41 at h
  unfold fm_89_41
  obtain ⟨z1, h⟩ := fx_gd h
  by_cases c2 : ¬ x1 = (-1)
  · rw [if_pos c2] at h
    refine gb_t ((gc_ne e1 kg_m1 z1 (by decide)).mpr c2) ?_
    exact gf_89_53 _ _ e2 _ _ e3 _ _ es0 _ _ e1 _ _ es _ h
  · rw [if_neg c2] at h
    refine gb_f (fun q => c2 ((gc_ne e1 kg_m1 z1 (by decide)).mp q)) ?_
    exact gf_89_53 _ _ e2 _ _ e3 _ _ es0 _ _ kg_2 _ _ es _ h
def gm_89_12 (x1 : Int) (x2 : Int) (x3 : Int) (s : gx_S) : Option (Int × gx_S) :=
  (gm_116 x2 s).bind fun q2 =>
  if (gb q2.1) = 0 then (
    some ((-1), q2.2)) else (
    if (-2147483648 ≤ x3 ∧ x3 ≤ 2147483647) then (
    if x3 < 0 then (
      some ((-1), q2.2)) else (
      if x3 ≤ 9 then (
        if (-2147483648 ≤ x1 ∧ x1 ≤ 2147483647) then (
        if ¬ x1 = (-1) then (
          gm_89_41 x1 x2 x3 x1 q2.2) else (
          gm_89_41 x1 x2 x3 0 q2.2)) else none) else (
        some ((-1), q2.2)))) else none)
theorem gf_89_12 (x1 : Int) (yx1 : Int32) (e1 : yx1 = Int32.ofInt x1) (x2 : Int) (yx2 : Int32) (e2 : yx2 = Int32.ofInt x2) (x3 : Int) (yx3 : Int32) (e3 : yx3 = Int32.ofInt x3) (s : gx_S) (σ : fx_S) (es : σ = gx s) (q : Int × gx_S) (h : gm_89_12 x1 x2 x3 s = some q) : fm_89_12 yx1 yx2 yx3 σ = some (Int32.ofInt q.1, gx q.2) := by
  unfold gm_89_12 at h
  unfold fm_89_12
  obtain ⟨q2, w1, h⟩ := fx_bd h
  refine gb_bind (gf_116 e2 es w1) ?_
  by_cases c3 : (gb q2.1) = 0
  · rw [if_pos c3] at h
    refine gb_t ((gc_eq (gb_b q2.1) kg_0 (gb_r _) (by decide)).mpr c3) ?_
    have h := Option.some.inj h
    subst h
    exact gret kg_m1 (rfl : _ = gx q2.2)
  · rw [if_neg c3] at h
    refine gb_f (fun q => c3 ((gc_eq (gb_b q2.1) kg_0 (gb_r _) (by decide)).mp q)) ?_
    obtain ⟨z4, h⟩ := fx_gd h
    by_cases c5 : x3 < 0
    · rw [if_pos c5] at h
      refine gb_t ((gc_lt e3 kg_0 z4 (by decide)).mpr c5) ?_
      have h := Option.some.inj h
      subst h
      exact gret kg_m1 (rfl : _ = gx q2.2)
    · rw [if_neg c5] at h
      refine gb_f (fun q => c5 ((gc_lt e3 kg_0 z4 (by decide)).mp q)) ?_
      by_cases c6 : x3 ≤ 9
      · rw [if_pos c6] at h
        refine gb_t ((gc_le e3 kg_9 z4 (by decide)).mpr c6) ?_
        obtain ⟨z7, h⟩ := fx_gd h
        by_cases c8 : ¬ x1 = (-1)
        · rw [if_pos c8] at h
          refine gb_t ((gc_ne e1 kg_m1 z7 (by decide)).mpr c8) ?_
          exact gf_89_41 _ _ e1 _ _ e2 _ _ e3 _ _ e1 _ _ (rfl : _ = gx q2.2) _ h
        · rw [if_neg c8] at h
          refine gb_f (fun q => c8 ((gc_ne e1 kg_m1 z7 (by decide)).mp q)) ?_
          exact gf_89_41 _ _ e1 _ _ e2 _ _ e3 _ _ kg_0 _ _ (rfl : _ = gx q2.2) _ h
      · rw [if_neg c6] at h
        refine gb_f (fun q => c6 ((gc_le e3 kg_9 z4 (by decide)).mp q)) ?_
        have h := Option.some.inj h
        subst h
        exact gret kg_m1 (rfl : _ = gx q2.2)
def gm_89 (x1 : Int) (x2 : Int) (x3 : Int) (s : gx_S) : Option (Int × gx_S) :=
  if (-2147483648 ≤ x1 ∧ x1 ≤ 2147483647) then (
  if x1 = (-1) then (
    gm_89_12 x1 x2 x3 s) else (
    (gm_114 x1 s).bind fun q43 =>
    if (gb q43.1) = 0 then (
      some ((-1), q43.2)) else (
      gm_89_12 x1 x2 x3 q43.2))) else none
theorem gf_89 {x1 : Int} {yx1 : Int32} (e1 : yx1 = Int32.ofInt x1) {x2 : Int} {yx2 : Int32} (e2 : yx2 = Int32.ofInt x2) {x3 : Int} {yx3 : Int32} (e3 : yx3 = Int32.ofInt x3) {s : gx_S} {σ : fx_S} (es : σ = gx s) {q : Int × gx_S} (h : gm_89 x1 x2 x3 s = some q) : fm_89 yx1 yx2 yx3 σ = some (Int32.ofInt q.1, gx q.2) := by
  unfold gm_89 at h
  unfold fm_89
  obtain ⟨z40, h⟩ := fx_gd h
  by_cases c41 : x1 = (-1)
  · rw [if_pos c41] at h
    refine gb_t ((gc_eq e1 kg_m1 z40 (by decide)).mpr c41) ?_
    exact gf_89_12 _ _ e1 _ _ e2 _ _ e3 _ _ es _ h
  · rw [if_neg c41] at h
    refine gb_f (fun q => c41 ((gc_eq e1 kg_m1 z40 (by decide)).mp q)) ?_
    obtain ⟨q43, w42, h⟩ := fx_bd h
    refine gb_bind (gf_114 e1 es w42) ?_
    by_cases c44 : (gb q43.1) = 0
    · rw [if_pos c44] at h
      refine gb_t ((gc_eq (gb_b q43.1) kg_0 (gb_r _) (by decide)).mpr c44) ?_
      have h := Option.some.inj h
      subst h
      exact gret kg_m1 (rfl : _ = gx q43.2)
    · rw [if_neg c44] at h
      refine gb_f (fun q => c44 ((gc_eq (gb_b q43.1) kg_0 (gb_r _) (by decide)).mp q)) ?_
      exact gf_89_12 _ _ e1 _ _ e2 _ _ e3 _ _ (rfl : _ = gx q43.2) _ h

/-! ZoneShares.settle(II)I -/
def gm_90_77 (x3 : Int) (s : gx_S) : Option (Int × gx_S) :=
  some (x3, s)
theorem gf_90_77 (x3 : Int) (yx3 : Int32) (e3 : yx3 = Int32.ofInt x3) (s : gx_S) (σ : fx_S) (es : σ = gx s) (q : Int × gx_S) (h : gm_90_77 x3 s = some q) : fm_90_77 yx3 σ = some (Int32.ofInt q.1, gx q.2) := by
  unfold gm_90_77 at h
  unfold fm_90_77
  have h := Option.some.inj h
  subst h
  exact gret e3 es
def gm_90_41 (x1 : Int) (x2 : Int) (s0 : Int) (s : gx_S) : Option (Int × gx_S) :=
  if (-2147483648 ≤ s0 ∧ s0 ≤ 2147483647) then (
  if (-2147483648 ≤ x2 ∧ x2 ≤ 2147483647) then (
  if ¬ s0 = x2 then (
    (gm_119 s).bind fun q5 =>
    if (-2147483648 ≤ x1 ∧ x1 ≤ 2147483647) then (
    if ¬ x1 = 0 then (
      gm_90_77 s0 (gw1 q5 1 8 x2)) else (
      gm_90_77 s0 (gw1 q5 1 7 x2))) else none) else (
    some ((-2), s))) else none) else none
theorem gf_90_41 (x1 : Int) (yx1 : Int32) (e1 : yx1 = Int32.ofInt x1) (x2 : Int) (yx2 : Int32) (e2 : yx2 = Int32.ofInt x2) (s0 : Int) (ys0 : Int32) (es0 : ys0 = Int32.ofInt s0) (s : gx_S) (σ : fx_S) (es : σ = gx s) (q : Int × gx_S) (h : gm_90_41 x1 x2 s0 s = some q) : fm_90_41 yx1 yx2 ys0 σ = some (Int32.ofInt q.1, gx q.2) := by
  unfold gm_90_41 at h
  unfold fm_90_41
  obtain ⟨z1, h⟩ := fx_gd h
  obtain ⟨z2, h⟩ := fx_gd h
  by_cases c3 : ¬ s0 = x2
  · rw [if_pos c3] at h
    refine gb_t ((gc_ne es0 e2 z1 z2).mpr c3) ?_
    obtain ⟨q5, w4, h⟩ := fx_bd h
    refine gb_bind (gf_119 es w4) ?_
    obtain ⟨z6, h⟩ := fx_gd h
    by_cases c7 : ¬ x1 = 0
    · rw [if_pos c7] at h
      refine gb_t ((gc_ne e1 kg_0 z6 (by decide)).mpr c7) ?_
      exact gf_90_77 _ _ es0 _ _ (gx_w1 (rfl : _ = gx q5) e2) _ h
    · rw [if_neg c7] at h
      refine gb_f (fun q => c7 ((gc_ne e1 kg_0 z6 (by decide)).mp q)) ?_
      exact gf_90_77 _ _ es0 _ _ (gx_w1 (rfl : _ = gx q5) e2) _ h
  · rw [if_neg c3] at h
    refine gb_f (fun q => c3 ((gc_ne es0 e2 z1 z2).mp q)) ?_
    have h := Option.some.inj h
    subst h
    exact gret kg_m2 es
def gm_90 (x1 : Int) (x2 : Int) (s : gx_S) : Option (Int × gx_S) :=
  if (-2147483648 ≤ x1 ∧ x1 ≤ 2147483647) then (
  if x1 < 0 then (
    some ((-1), s)) else (
    if 1 < x1 then (
      some ((-1), s)) else (
      if (-2147483648 ≤ x2 ∧ x2 ≤ 2147483647) then (
      if x2 < 0 then (
        some ((-1), s)) else (
        if x2 ≤ 1 then (
          if ¬ x1 = 0 then (
            gm_90_41 x1 x2 (s.1 1 8) s) else (
            gm_90_41 x1 x2 (s.1 1 7) s)) else (
          some ((-1), s)))) else none))) else none
theorem gf_90 {x1 : Int} {yx1 : Int32} (e1 : yx1 = Int32.ofInt x1) {x2 : Int} {yx2 : Int32} (e2 : yx2 = Int32.ofInt x2) {s : gx_S} {σ : fx_S} (es : σ = gx s) {q : Int × gx_S} (h : gm_90 x1 x2 s = some q) : fm_90 yx1 yx2 σ = some (Int32.ofInt q.1, gx q.2) := by
  unfold gm_90 at h
  unfold fm_90
  obtain ⟨z15, h⟩ := fx_gd h
  by_cases c16 : x1 < 0
  · rw [if_pos c16] at h
    refine gb_t ((gc_lt e1 kg_0 z15 (by decide)).mpr c16) ?_
    have h := Option.some.inj h
    subst h
    exact gret kg_m1 es
  · rw [if_neg c16] at h
    refine gb_f (fun q => c16 ((gc_lt e1 kg_0 z15 (by decide)).mp q)) ?_
    by_cases c17 : 1 < x1
    · rw [if_pos c17] at h
      refine gb_t ((gc_lt kg_1 e1 (by decide) z15).mpr c17) ?_
      have h := Option.some.inj h
      subst h
      exact gret kg_m1 es
    · rw [if_neg c17] at h
      refine gb_f (fun q => c17 ((gc_lt kg_1 e1 (by decide) z15).mp q)) ?_
      obtain ⟨z18, h⟩ := fx_gd h
      by_cases c19 : x2 < 0
      · rw [if_pos c19] at h
        refine gb_t ((gc_lt e2 kg_0 z18 (by decide)).mpr c19) ?_
        have h := Option.some.inj h
        subst h
        exact gret kg_m1 es
      · rw [if_neg c19] at h
        refine gb_f (fun q => c19 ((gc_lt e2 kg_0 z18 (by decide)).mp q)) ?_
        by_cases c20 : x2 ≤ 1
        · rw [if_pos c20] at h
          refine gb_t ((gc_le e2 kg_1 z18 (by decide)).mpr c20) ?_
          by_cases c21 : ¬ x1 = 0
          · rw [if_pos c21] at h
            refine gb_t ((gc_ne e1 kg_0 z15 (by decide)).mpr c21) ?_
            exact gf_90_41 _ _ e1 _ _ e2 _ _ (gf1 es 1 8) _ _ es _ h
          · rw [if_neg c21] at h
            refine gb_f (fun q => c21 ((gc_ne e1 kg_0 z15 (by decide)).mp q)) ?_
            exact gf_90_41 _ _ e1 _ _ e2 _ _ (gf1 es 1 7) _ _ es _ h
        · rw [if_neg c20] at h
          refine gb_f (fun q => c20 ((gc_le e2 kg_1 z18 (by decide)).mp q)) ?_
          have h := Option.some.inj h
          subst h
          exact gret kg_m1 es

/-! ZoneShares.district(II)I -/
def gm_91 (x1 : Int) (x2 : Int) (s : gx_S) : Option (Int × gx_S) :=
  (gm_115 x1 s).bind fun q18 =>
  if (gb q18.1) = 0 then (
    some ((-1), q18.2)) else (
    (gm_117 x2 q18.2).bind fun q21 =>
    if ¬ (gb q21.1) = 0 then (
      if 0 ≤ x1 ∧ x1 < 8 then (
      if (-2147483648 ≤ (q21.2.1 5 (x1).toNat) ∧ (q21.2.1 5 (x1).toNat) ≤ 2147483647) then (
      if (-2147483648 ≤ x2 ∧ x2 ≤ 2147483647) then (
      if ¬ (q21.2.1 5 (x1).toNat) = x2 then (
        (gm_119 q21.2).bind fun q30 =>
        some ((q21.2.1 5 (x1).toNat), (gw1 q30 5 (x1).toNat x2))) else (
        some ((-2), q21.2))) else none) else none) else none) else (
      some ((-1), q21.2)))
theorem gf_91 {x1 : Int} {yx1 : Int32} (e1 : yx1 = Int32.ofInt x1) {x2 : Int} {yx2 : Int32} (e2 : yx2 = Int32.ofInt x2) {s : gx_S} {σ : fx_S} (es : σ = gx s) {q : Int × gx_S} (h : gm_91 x1 x2 s = some q) : fm_91 yx1 yx2 σ = some (Int32.ofInt q.1, gx q.2) := by
  unfold gm_91 at h
  unfold fm_91
  obtain ⟨q18, w17, h⟩ := fx_bd h
  refine gb_bind (gf_115 e1 es w17) ?_
  by_cases c19 : (gb q18.1) = 0
  · rw [if_pos c19] at h
    refine gb_t ((gc_eq (gb_b q18.1) kg_0 (gb_r _) (by decide)).mpr c19) ?_
    have h := Option.some.inj h
    subst h
    exact gret kg_m1 (rfl : _ = gx q18.2)
  · rw [if_neg c19] at h
    refine gb_f (fun q => c19 ((gc_eq (gb_b q18.1) kg_0 (gb_r _) (by decide)).mp q)) ?_
    obtain ⟨q21, w20, h⟩ := fx_bd h
    refine gb_bind (gf_117 e2 (rfl : _ = gx q18.2) w20) ?_
    by_cases c22 : ¬ (gb q21.1) = 0
    · rw [if_pos c22] at h
      refine gb_t ((gc_ne (gb_b q21.1) kg_0 (gb_r _) (by decide)).mpr c22) ?_
      obtain ⟨z25, h⟩ := fx_gd h
      refine gb_bind (gl_ld (rfl : _ = gx q21.2) e1 ga_5 z25) ?_
      obtain ⟨z26, h⟩ := fx_gd h
      obtain ⟨z27, h⟩ := fx_gd h
      by_cases c28 : ¬ (q21.2.1 5 (x1).toNat) = x2
      · rw [if_pos c28] at h
        refine gb_t ((gc_ne (gr (q21.2.1 5 (x1).toNat)) e2 z26 z27).mpr c28) ?_
        obtain ⟨q30, w29, h⟩ := fx_bd h
        refine gb_bind (gf_119 (rfl : _ = gx q21.2) w29) ?_
        refine gb_bind (gl_st (rfl : _ = gx q30) e1 e2 ga_5 z25) ?_
        have h := Option.some.inj h
        subst h
        exact gret (gr (q21.2.1 5 (x1).toNat)) (rfl : _ = gx (gw1 q30 5 (x1).toNat x2))
      · rw [if_neg c28] at h
        refine gb_f (fun q => c28 ((gc_ne (gr (q21.2.1 5 (x1).toNat)) e2 z26 z27).mp q)) ?_
        have h := Option.some.inj h
        subst h
        exact gret kg_m2 (rfl : _ = gx q21.2)
    · rw [if_neg c22] at h
      refine gb_f (fun q => c22 ((gc_ne (gb_b q21.1) kg_0 (gb_r _) (by decide)).mp q)) ?_
      have h := Option.some.inj h
      subst h
      exact gret kg_m1 (rfl : _ = gx q21.2)

/-! ZoneShares.piece(II)I -/
def gm_96 (x1 : Int) (x2 : Int) (s : gx_S) : Option (Int × gx_S) :=
  (gm_57 1 s).bind fun q27 =>
  if (gb q27.1) = 0 then (
    some ((-1), q27.2)) else (
    if (-2147483648 ≤ x1 ∧ x1 ≤ 2147483647) then (
    if x1 < (-1) then (
      some ((-1), q27.2)) else (
      if (-2147483648 ≤ x2 ∧ x2 ≤ 2147483647) then (
      if x2 < 0 then (
        some ((-1), q27.2)) else (
        if x2 ≤ 3 then (
          (gm_123 q27.2).bind fun q35 =>
          if ¬ x1 = (-1) then (
            if (-2147483648 ≤ q35.1 ∧ q35.1 ≤ 2147483647) then (
            if x1 < q35.1 then (
              (gm_124 x1 q35.2).bind fun q40 =>
              if x2 = 0 then (
                if 0 ≤ q40.1 ∧ q40.1 ≤ 2147483647 then (
                some ((q40.1 / 36), q40.2)) else none) else (
                if x2 = 1 then (
                  if 0 ≤ q40.1 ∧ q40.1 ≤ 2147483647 then (
                  if 0 ≤ (q40.1 / 4) ∧ (q40.1 / 4) ≤ 2147483647 then (
                  some (((q40.1 / 4) % 9), q40.2)) else none) else none) else (
                  if x2 = 2 then (
                    if 0 ≤ q40.1 ∧ q40.1 ≤ 2147483647 then (
                    some ((q40.1 % 4), q40.2)) else none) else (
                    if 0 ≤ q40.1 ∧ q40.1 < 288 then (
                    some ((q40.2.1 69 (q40.1).toNat), q40.2)) else none)))) else (
              some ((-1), q35.2))) else none) else (
            some (q35.1, q35.2))) else (
          some ((-1), q27.2)))) else none)) else none)
theorem gf_96 {x1 : Int} {yx1 : Int32} (e1 : yx1 = Int32.ofInt x1) {x2 : Int} {yx2 : Int32} (e2 : yx2 = Int32.ofInt x2) {s : gx_S} {σ : fx_S} (es : σ = gx s) {q : Int × gx_S} (h : gm_96 x1 x2 s = some q) : fm_96 yx1 yx2 σ = some (Int32.ofInt q.1, gx q.2) := by
  unfold gm_96 at h
  unfold fm_96
  obtain ⟨q27, w26, h⟩ := fx_bd h
  refine gb_bind (gf_57 es w26) ?_
  by_cases c28 : (gb q27.1) = 0
  · rw [if_pos c28] at h
    refine gb_t ((gc_eq (gb_b q27.1) kg_0 (gb_r _) (by decide)).mpr c28) ?_
    have h := Option.some.inj h
    subst h
    exact gret kg_m1 (rfl : _ = gx q27.2)
  · rw [if_neg c28] at h
    refine gb_f (fun q => c28 ((gc_eq (gb_b q27.1) kg_0 (gb_r _) (by decide)).mp q)) ?_
    obtain ⟨z29, h⟩ := fx_gd h
    by_cases c30 : x1 < (-1)
    · rw [if_pos c30] at h
      refine gb_t ((gc_lt e1 kg_m1 z29 (by decide)).mpr c30) ?_
      have h := Option.some.inj h
      subst h
      exact gret kg_m1 (rfl : _ = gx q27.2)
    · rw [if_neg c30] at h
      refine gb_f (fun q => c30 ((gc_lt e1 kg_m1 z29 (by decide)).mp q)) ?_
      obtain ⟨z31, h⟩ := fx_gd h
      by_cases c32 : x2 < 0
      · rw [if_pos c32] at h
        refine gb_t ((gc_lt e2 kg_0 z31 (by decide)).mpr c32) ?_
        have h := Option.some.inj h
        subst h
        exact gret kg_m1 (rfl : _ = gx q27.2)
      · rw [if_neg c32] at h
        refine gb_f (fun q => c32 ((gc_lt e2 kg_0 z31 (by decide)).mp q)) ?_
        by_cases c33 : x2 ≤ 3
        · rw [if_pos c33] at h
          refine gb_t ((gc_le e2 kg_3 z31 (by decide)).mpr c33) ?_
          obtain ⟨q35, w34, h⟩ := fx_bd h
          refine gb_bind (gf_123 (rfl : _ = gx q27.2) w34) ?_
          by_cases c36 : ¬ x1 = (-1)
          · rw [if_pos c36] at h
            refine gb_t ((gc_ne e1 kg_m1 z29 (by decide)).mpr c36) ?_
            obtain ⟨z37, h⟩ := fx_gd h
            by_cases c38 : x1 < q35.1
            · rw [if_pos c38] at h
              refine gb_t ((gc_lt e1 (gr q35.1) z29 z37).mpr c38) ?_
              obtain ⟨q40, w39, h⟩ := fx_bd h
              refine gb_bind (gf_124 e1 (rfl : _ = gx q35.2) w39) ?_
              by_cases c41 : x2 = 0
              · rw [if_pos c41] at h
                refine gb_t ((gc_eq e2 kg_0 z31 (by decide)).mpr c41) ?_
                obtain ⟨z50, h⟩ := fx_gd h
                have h := Option.some.inj h
                subst h
                exact gret (ga_div (gr q40.1) kg_36 ⟨z50.1, z50.2, by decide, by decide⟩) (rfl : _ = gx q40.2)
              · rw [if_neg c41] at h
                refine gb_f (fun q => c41 ((gc_eq e2 kg_0 z31 (by decide)).mp q)) ?_
                by_cases c42 : x2 = 1
                · rw [if_pos c42] at h
                  refine gb_t ((gc_eq e2 kg_1 z31 (by decide)).mpr c42) ?_
                  obtain ⟨z48, h⟩ := fx_gd h
                  obtain ⟨z49, h⟩ := fx_gd h
                  have h := Option.some.inj h
                  subst h
                  exact gret (ga_rem (ga_div (gr q40.1) kg_4 ⟨z48.1, z48.2, by decide, by decide⟩) kg_9 ⟨z49.1, z49.2, by decide, by decide⟩) (rfl : _ = gx q40.2)
                · rw [if_neg c42] at h
                  refine gb_f (fun q => c42 ((gc_eq e2 kg_1 z31 (by decide)).mp q)) ?_
                  by_cases c43 : x2 = 2
                  · rw [if_pos c43] at h
                    refine gb_t ((gc_eq e2 kg_2 z31 (by decide)).mpr c43) ?_
                    obtain ⟨z47, h⟩ := fx_gd h
                    have h := Option.some.inj h
                    subst h
                    exact gret (ga_rem (gr q40.1) kg_4 ⟨z47.1, z47.2, by decide, by decide⟩) (rfl : _ = gx q40.2)
                  · rw [if_neg c43] at h
                    refine gb_f (fun q => c43 ((gc_eq e2 kg_2 z31 (by decide)).mp q)) ?_
                    obtain ⟨z46, h⟩ := fx_gd h
                    refine gb_bind (gl_ld (rfl : _ = gx q40.2) (gr q40.1) ga_69 z46) ?_
                    have h := Option.some.inj h
                    subst h
                    exact gret (gr (q40.2.1 69 (q40.1).toNat)) (rfl : _ = gx q40.2)
            · rw [if_neg c38] at h
              refine gb_f (fun q => c38 ((gc_lt e1 (gr q35.1) z29 z37).mp q)) ?_
              have h := Option.some.inj h
              subst h
              exact gret kg_m1 (rfl : _ = gx q35.2)
          · rw [if_neg c36] at h
            refine gb_f (fun q => c36 ((gc_ne e1 kg_m1 z29 (by decide)).mp q)) ?_
            have h := Option.some.inj h
            subst h
            exact gret (gr q35.1) (rfl : _ = gx q35.2)
        · rw [if_neg c33] at h
          refine gb_f (fun q => c33 ((gc_le e2 kg_3 z31 (by decide)).mp q)) ?_
          have h := Option.some.inj h
          subst h
          exact gret kg_m1 (rfl : _ = gx q27.2)

/-! ZoneShares.apart(I)I -/
def gm_110_67 (k_49 : Int → Int → Int → gx_S → Option (Int × gx_S)) (x1 : Int) (x2 : Int) (x3 : Int) (s : gx_S) : Option (Int × gx_S) :=
  k_49 x1 x2 (x3 + 1) s
theorem gf_110_67 {kf_49 : Int32 → Int32 → Int32 → fx_S → Option (Int32 × fx_S)} {kg_49 : Int → Int → Int → gx_S → Option (Int × gx_S)} (hk_49 : ∀ (x1 : Int) (yx1 : Int32) (e1 : yx1 = Int32.ofInt x1) (x2 : Int) (yx2 : Int32) (e2 : yx2 = Int32.ofInt x2) (x3 : Int) (yx3 : Int32) (e3 : yx3 = Int32.ofInt x3) (s : gx_S) (σ : fx_S) (es : σ = gx s) (q : Int × gx_S), kg_49 x1 x2 x3 s = some q → kf_49 yx1 yx2 yx3 σ = some (Int32.ofInt q.1, gx q.2)) (x1 : Int) (yx1 : Int32) (e1 : yx1 = Int32.ofInt x1) (x2 : Int) (yx2 : Int32) (e2 : yx2 = Int32.ofInt x2) (x3 : Int) (yx3 : Int32) (e3 : yx3 = Int32.ofInt x3) (s : gx_S) (σ : fx_S) (es : σ = gx s) (q : Int × gx_S) (h : gm_110_67 kg_49 x1 x2 x3 s = some q) : fm_110_67 kf_49 yx1 yx2 yx3 σ = some (Int32.ofInt q.1, gx q.2) := by
  unfold gm_110_67 at h
  unfold fm_110_67
  exact hk_49 _ _ e1 _ _ e2 _ _ (ga_add e3 kg_1) _ _ es _ h
def gm_110_49 : Nat → Int → Int → Int → gx_S → Option (Int × gx_S)
  | 0, _, _, _, _ => none
  | n + 1, x1, x2, x3, s =>
    if (-2147483648 ≤ x3 ∧ x3 ≤ 2147483647) then (
    if 8 ≤ x3 then (
      some (x2, s)) else (
      (gm_125 x3 x1 s).bind fun q4 =>
      if (gb q4.1) = 0 then (
        gm_110_67 (gm_110_49 n) x1 x2 x3 q4.2) else (
        gm_110_67 (gm_110_49 n) x1 (x2 + 1) x3 q4.2))) else none
theorem gf_110_49 : ∀ (n : Nat) (x1 : Int) (yx1 : Int32) (e1 : yx1 = Int32.ofInt x1) (x2 : Int) (yx2 : Int32) (e2 : yx2 = Int32.ofInt x2) (x3 : Int) (yx3 : Int32) (e3 : yx3 = Int32.ofInt x3) (s : gx_S) (σ : fx_S) (es : σ = gx s) (q : Int × gx_S), gm_110_49 n x1 x2 x3 s = some q → fm_110_49 n yx1 yx2 yx3 σ = some (Int32.ofInt q.1, gx q.2) := by
  intro n
  induction n with
  | zero =>
    intro x1 yx1 e1 x2 yx2 e2 x3 yx3 e3 s σ es q  h
    rw [gm_110_49] at h
    exact fx_no h
  | succ n ih =>
    intro x1 yx1 e1 x2 yx2 e2 x3 yx3 e3 s σ es q  h
    rw [gm_110_49] at h
    rw [fm_110_49]
    obtain ⟨z1, h⟩ := fx_gd h
    by_cases c2 : 8 ≤ x3
    · rw [if_pos c2] at h
      refine gb_t ((gc_le kg_8 e3 (by decide) z1).mpr c2) ?_
      have h := Option.some.inj h
      subst h
      exact gret e2 es
    · rw [if_neg c2] at h
      refine gb_f (fun q => c2 ((gc_le kg_8 e3 (by decide) z1).mp q)) ?_
      obtain ⟨q4, w3, h⟩ := fx_bd h
      refine gb_bind (gf_125 e3 e1 es w3) ?_
      by_cases c5 : (gb q4.1) = 0
      · rw [if_pos c5] at h
        refine gb_t ((gc_eq (gb_b q4.1) kg_0 (gb_r _) (by decide)).mpr c5) ?_
        exact gf_110_67 ih _ _ e1 _ _ e2 _ _ e3 _ _ (rfl : _ = gx q4.2) _ h
      · rw [if_neg c5] at h
        refine gb_f (fun q => c5 ((gc_eq (gb_b q4.1) kg_0 (gb_r _) (by decide)).mp q)) ?_
        exact gf_110_67 ih _ _ e1 _ _ (ga_add e2 kg_1) _ _ e3 _ _ (rfl : _ = gx q4.2) _ h
def gm_110 (x1 : Int) (s : gx_S) : Option (Int × gx_S) :=
  if (-2147483648 ≤ x1 ∧ x1 ≤ 2147483647) then (
  if x1 < 0 then (
    some ((-1), s)) else (
    if 3 < x1 then (
      some ((-1), s)) else (
      (gm_56 1 0 s).bind fun q22 =>
      if (gb q22.1) = 0 then (
        some ((-1), q22.2)) else (
        (gm_56 1 1 q22.2).bind fun q25 =>
        if ¬ (gb q25.1) = 0 then (
          if ¬ x1 = 0 then (
            gm_110_49 100000 x1 0 0 q25.2) else (
            (gm_64 1 q25.2).bind fun q29 =>
            some (q29.1, q29.2))) else (
          some ((-1), q25.2)))))) else none
theorem gf_110 {x1 : Int} {yx1 : Int32} (e1 : yx1 = Int32.ofInt x1) {s : gx_S} {σ : fx_S} (es : σ = gx s) {q : Int × gx_S} (h : gm_110 x1 s = some q) : fm_110 yx1 σ = some (Int32.ofInt q.1, gx q.2) := by
  unfold gm_110 at h
  unfold fm_110
  obtain ⟨z18, h⟩ := fx_gd h
  by_cases c19 : x1 < 0
  · rw [if_pos c19] at h
    refine gb_t ((gc_lt e1 kg_0 z18 (by decide)).mpr c19) ?_
    have h := Option.some.inj h
    subst h
    exact gret kg_m1 es
  · rw [if_neg c19] at h
    refine gb_f (fun q => c19 ((gc_lt e1 kg_0 z18 (by decide)).mp q)) ?_
    by_cases c20 : 3 < x1
    · rw [if_pos c20] at h
      refine gb_t ((gc_lt kg_3 e1 (by decide) z18).mpr c20) ?_
      have h := Option.some.inj h
      subst h
      exact gret kg_m1 es
    · rw [if_neg c20] at h
      refine gb_f (fun q => c20 ((gc_lt kg_3 e1 (by decide) z18).mp q)) ?_
      obtain ⟨q22, w21, h⟩ := fx_bd h
      refine gb_bind (gf_56 kg_0 es w21) ?_
      by_cases c23 : (gb q22.1) = 0
      · rw [if_pos c23] at h
        refine gb_t ((gc_eq (gb_b q22.1) kg_0 (gb_r _) (by decide)).mpr c23) ?_
        have h := Option.some.inj h
        subst h
        exact gret kg_m1 (rfl : _ = gx q22.2)
      · rw [if_neg c23] at h
        refine gb_f (fun q => c23 ((gc_eq (gb_b q22.1) kg_0 (gb_r _) (by decide)).mp q)) ?_
        obtain ⟨q25, w24, h⟩ := fx_bd h
        refine gb_bind (gf_56 kg_1 (rfl : _ = gx q22.2) w24) ?_
        by_cases c26 : ¬ (gb q25.1) = 0
        · rw [if_pos c26] at h
          refine gb_t ((gc_ne (gb_b q25.1) kg_0 (gb_r _) (by decide)).mpr c26) ?_
          by_cases c27 : ¬ x1 = 0
          · rw [if_pos c27] at h
            refine gb_t ((gc_ne e1 kg_0 z18 (by decide)).mpr c27) ?_
            exact gf_110_49 100000 _ _ e1 _ _ kg_0 _ _ kg_0 _ _ (rfl : _ = gx q25.2) _ h
          · rw [if_neg c27] at h
            refine gb_f (fun q => c27 ((gc_ne e1 kg_0 z18 (by decide)).mp q)) ?_
            obtain ⟨q29, w28, h⟩ := fx_bd h
            refine gb_bind (gf_64 (rfl : _ = gx q25.2) w28) ?_
            have h := Option.some.inj h
            subst h
            exact gret (gr q29.1) (rfl : _ = gx q29.2)
        · rw [if_neg c26] at h
          refine gb_f (fun q => c26 ((gc_ne (gb_b q25.1) kg_0 (gb_r _) (by decide)).mp q)) ?_
          have h := Option.some.inj h
          subst h
          exact gret kg_m1 (rfl : _ = gx q25.2)

/-! ZoneShares.fits(I)Z -/
def gm_121 (x1 : Int) (s : gx_S) : Option (Bool × gx_S) :=
  (gm_114 x1 s).bind fun q12 =>
  if (gb q12.1) = 0 then (
    some (false, q12.2)) else (
    (gm_57 1 q12.2).bind fun q15 =>
    if ¬ (gb q15.1) = 0 then (
      (gm_10 1 x1 q15.2).bind fun q18 =>
      if (-9223372036854775808 ≤ (q18.2 62 1) ∧ (q18.2 62 1) ≤ 9223372036854775807) then (
      if (q18.2 62 1) ≤ 0 then (
        some (false, q18)) else (
        some (true, q18))) else none) else (
      some (false, q15.2)))
theorem gf_121 {x1 : Int} {yx1 : Int32} (e1 : yx1 = Int32.ofInt x1) {s : gx_S} {σ : fx_S} (es : σ = gx s) {q : Bool × gx_S} (h : gm_121 x1 s = some q) : fm_121 yx1 σ = some (q.1, gx q.2) := by
  unfold gm_121 at h
  unfold fm_121
  obtain ⟨q12, w11, h⟩ := fx_bd h
  refine gb_bind (gf_114 e1 es w11) ?_
  by_cases c13 : (gb q12.1) = 0
  · rw [if_pos c13] at h
    refine gb_t ((gc_eq (gb_b q12.1) kg_0 (gb_r _) (by decide)).mpr c13) ?_
    have h := Option.some.inj h
    subst h
    exact gretb (rfl : _ = gx q12.2)
  · rw [if_neg c13] at h
    refine gb_f (fun q => c13 ((gc_eq (gb_b q12.1) kg_0 (gb_r _) (by decide)).mp q)) ?_
    obtain ⟨q15, w14, h⟩ := fx_bd h
    refine gb_bind (gf_57 (rfl : _ = gx q12.2) w14) ?_
    by_cases c16 : ¬ (gb q15.1) = 0
    · rw [if_pos c16] at h
      refine gb_t ((gc_ne (gb_b q15.1) kg_0 (gb_r _) (by decide)).mpr c16) ?_
      obtain ⟨q18, w17, h⟩ := fx_bd h
      refine gb_bind (gf_10 e1 (rfl : _ = gx q15.2) w17) ?_
      obtain ⟨z19, h⟩ := fx_gd h
      by_cases c20 : (q18.2 62 1) ≤ 0
      · rw [if_pos c20] at h
        refine gb_t ((gcl_le (gf2 (rfl : _ = gx q18) 62 1) kgl_0 z19 (by decide)).mpr c20) ?_
        have h := Option.some.inj h
        subst h
        exact gretb (rfl : _ = gx q18)
      · rw [if_neg c20] at h
        refine gb_f (fun q => c20 ((gcl_le (gf2 (rfl : _ = gx q18) 62 1) kgl_0 z19 (by decide)).mp q)) ?_
        have h := Option.some.inj h
        subst h
        exact gretb (rfl : _ = gx q18)
    · rw [if_neg c16] at h
      refine gb_f (fun q => c16 ((gc_ne (gb_b q15.1) kg_0 (gb_r _) (by decide)).mp q)) ?_
      have h := Option.some.inj h
      subst h
      exact gretb (rfl : _ = gx q15.2)

/-! ZoneShares$CountsText.read(LZoneShares$Tape;)I -/
def gm_4_112 (k_33 : Int → Int → gx_S → Option (Int × gx_S)) (x3 : Int) (s0 : Int) (s : gx_S) : Option (Int × gx_S) :=
  k_33 s0 (x3 + 1) (gw1 s 60 2 ((s.1 60 2) + 1))
theorem gf_4_112 {kf_33 : Int32 → Int32 → fx_S → Option (Int32 × fx_S)} {kg_33 : Int → Int → gx_S → Option (Int × gx_S)} (hk_33 : ∀ (x2 : Int) (yx2 : Int32) (e2 : yx2 = Int32.ofInt x2) (x3 : Int) (yx3 : Int32) (e3 : yx3 = Int32.ofInt x3) (s : gx_S) (σ : fx_S) (es : σ = gx s) (q : Int × gx_S), kg_33 x2 x3 s = some q → kf_33 yx2 yx3 σ = some (Int32.ofInt q.1, gx q.2)) (x3 : Int) (yx3 : Int32) (e3 : yx3 = Int32.ofInt x3) (s0 : Int) (ys0 : Int32) (es0 : ys0 = Int32.ofInt s0) (s : gx_S) (σ : fx_S) (es : σ = gx s) (q : Int × gx_S) (h : gm_4_112 kg_33 x3 s0 s = some q) : fm_4_112 kf_33 yx3 ys0 σ = some (Int32.ofInt q.1, gx q.2) := by
  unfold gm_4_112 at h
  unfold fm_4_112
  exact hk_33 _ _ es0 _ _ (ga_add e3 kg_1) _ _ (gx_w1 es (ga_add (gf1 es 60 2) kg_1)) _ h
def gm_4_100 (k_33 : Int → Int → gx_S → Option (Int × gx_S)) (x3 : Int) (x5 : Int) (s : gx_S) : Option (Int × gx_S) :=
  if (-2147483648 ≤ x5 ∧ x5 ≤ 2147483647) then (
  if ¬ x5 = 44 then (
    gm_4_112 k_33 x3 0 s) else (
    gm_4_112 k_33 x3 1 s)) else none
theorem gf_4_100 {kf_33 : Int32 → Int32 → fx_S → Option (Int32 × fx_S)} {kg_33 : Int → Int → gx_S → Option (Int × gx_S)} (hk_33 : ∀ (x2 : Int) (yx2 : Int32) (e2 : yx2 = Int32.ofInt x2) (x3 : Int) (yx3 : Int32) (e3 : yx3 = Int32.ofInt x3) (s : gx_S) (σ : fx_S) (es : σ = gx s) (q : Int × gx_S), kg_33 x2 x3 s = some q → kf_33 yx2 yx3 σ = some (Int32.ofInt q.1, gx q.2)) (x3 : Int) (yx3 : Int32) (e3 : yx3 = Int32.ofInt x3) (x5 : Int) (yx5 : Int32) (e5 : yx5 = Int32.ofInt x5) (s : gx_S) (σ : fx_S) (es : σ = gx s) (q : Int × gx_S) (h : gm_4_100 kg_33 x3 x5 s = some q) : fm_4_100 kf_33 yx3 yx5 σ = some (Int32.ofInt q.1, gx q.2) := by
  unfold gm_4_100 at h
  unfold fm_4_100
  obtain ⟨z1, h⟩ := fx_gd h
  by_cases c2 : ¬ x5 = 44
  · rw [if_pos c2] at h
    refine gb_t ((gc_ne e5 kg_44 z1 (by decide)).mpr c2) ?_
    exact gf_4_112 hk_33 _ _ e3 _ _ kg_0 _ _ es _ h
  · rw [if_neg c2] at h
    refine gb_f (fun q => c2 ((gc_ne e5 kg_44 z1 (by decide)).mp q)) ?_
    exact gf_4_112 hk_33 _ _ e3 _ _ kg_1 _ _ es _ h
def gm_4_33 : Nat → Int → Int → gx_S → Option (Int × gx_S)
  | 0, _, _, _ => none
  | n + 1, x2, x3, s =>
    if (-2147483648 ≤ x3 ∧ x3 ≤ 2147483647) then (
    if 200 ≤ x3 then (
      some ((-1), s)) else (
      if (-2147483648 ≤ x2 ∧ x2 ≤ 2147483647) then (
      if x2 = 0 then (
        some ((-1), s)) else (
        (gm_5 s).bind fun q6 =>
        if (-2147483648 ≤ q6.1 ∧ q6.1 ≤ 2147483647) then (
        if q6.1 = 0 then (
          (gm_83 (q6.2.1 60 2) q6.2).bind fun q10 =>
          if (-2147483648 ≤ q10.1 ∧ q10.1 ≤ 2147483647) then (
          if q10.1 = 44 then (
            gm_4_100 (gm_4_33 n) x3 q10.1 q10.2) else (
            if q10.1 = (-1) then (
              gm_4_100 (gm_4_33 n) x3 q10.1 q10.2) else (
              some (((8 * (q10.2.1 60 2)) + 1), q10.2)))) else none) else (
          some (((8 * (q6.2.1 60 2)) + q6.1), q6.2))) else none)) else none)) else none
theorem gf_4_33 : ∀ (n : Nat) (x2 : Int) (yx2 : Int32) (e2 : yx2 = Int32.ofInt x2) (x3 : Int) (yx3 : Int32) (e3 : yx3 = Int32.ofInt x3) (s : gx_S) (σ : fx_S) (es : σ = gx s) (q : Int × gx_S), gm_4_33 n x2 x3 s = some q → fm_4_33 n yx2 yx3 σ = some (Int32.ofInt q.1, gx q.2) := by
  intro n
  induction n with
  | zero =>
    intro x2 yx2 e2 x3 yx3 e3 s σ es q  h
    rw [gm_4_33] at h
    exact fx_no h
  | succ n ih =>
    intro x2 yx2 e2 x3 yx3 e3 s σ es q  h
    rw [gm_4_33] at h
    rw [fm_4_33]
    obtain ⟨z1, h⟩ := fx_gd h
    by_cases c2 : 200 ≤ x3
    · rw [if_pos c2] at h
      refine gb_t ((gc_le kg_200 e3 (by decide) z1).mpr c2) ?_
      have h := Option.some.inj h
      subst h
      exact gret kg_m1 es
    · rw [if_neg c2] at h
      refine gb_f (fun q => c2 ((gc_le kg_200 e3 (by decide) z1).mp q)) ?_
      obtain ⟨z3, h⟩ := fx_gd h
      by_cases c4 : x2 = 0
      · rw [if_pos c4] at h
        refine gb_t ((gc_eq e2 kg_0 z3 (by decide)).mpr c4) ?_
        have h := Option.some.inj h
        subst h
        exact gret kg_m1 es
      · rw [if_neg c4] at h
        refine gb_f (fun q => c4 ((gc_eq e2 kg_0 z3 (by decide)).mp q)) ?_
        obtain ⟨q6, w5, h⟩ := fx_bd h
        refine gb_bind (gf_5 es w5) ?_
        obtain ⟨z7, h⟩ := fx_gd h
        by_cases c8 : q6.1 = 0
        · rw [if_pos c8] at h
          refine gb_t ((gc_eq (gr q6.1) kg_0 z7 (by decide)).mpr c8) ?_
          obtain ⟨q10, w9, h⟩ := fx_bd h
          refine gb_bind (gf_83 (gf1 (rfl : _ = gx q6.2) 60 2) (rfl : _ = gx q6.2) w9) ?_
          obtain ⟨z11, h⟩ := fx_gd h
          by_cases c12 : q10.1 = 44
          · rw [if_pos c12] at h
            refine gb_t ((gc_eq (gr q10.1) kg_44 z11 (by decide)).mpr c12) ?_
            exact gf_4_100 ih _ _ e3 _ _ (gr q10.1) _ _ (rfl : _ = gx q10.2) _ h
          · rw [if_neg c12] at h
            refine gb_f (fun q => c12 ((gc_eq (gr q10.1) kg_44 z11 (by decide)).mp q)) ?_
            by_cases c13 : q10.1 = (-1)
            · rw [if_pos c13] at h
              refine gb_t ((gc_eq (gr q10.1) kg_m1 z11 (by decide)).mpr c13) ?_
              exact gf_4_100 ih _ _ e3 _ _ (gr q10.1) _ _ (rfl : _ = gx q10.2) _ h
            · rw [if_neg c13] at h
              refine gb_f (fun q => c13 ((gc_eq (gr q10.1) kg_m1 z11 (by decide)).mp q)) ?_
              have h := Option.some.inj h
              subst h
              exact gret (ga_add (ga_mul kg_8 (gf1 (rfl : _ = gx q10.2) 60 2)) kg_1) (rfl : _ = gx q10.2)
        · rw [if_neg c8] at h
          refine gb_f (fun q => c8 ((gc_eq (gr q6.1) kg_0 z7 (by decide)).mp q)) ?_
          have h := Option.some.inj h
          subst h
          exact gret (ga_add (ga_mul kg_8 (gf1 (rfl : _ = gx q6.2) 60 2)) (gr q6.1)) (rfl : _ = gx q6.2)
def gm_4_30 (s0 : Int) (s : gx_S) : Option (Int × gx_S) :=
  gm_4_33 100000 s0 0 s
theorem gf_4_30 (s0 : Int) (ys0 : Int32) (es0 : ys0 = Int32.ofInt s0) (s : gx_S) (σ : fx_S) (es : σ = gx s) (q : Int × gx_S) (h : gm_4_30 s0 s = some q) : fm_4_30 ys0 σ = some (Int32.ofInt q.1, gx q.2) := by
  unfold gm_4_30 at h
  unfold fm_4_30
  exact gf_4_33 100000 _ _ es0 _ _ kg_0 _ _ es _ h
def gm_4 (s : gx_S) : Option (Int × gx_S) :=
  (gm_235 61 0 s).bind fun q34 =>
  if (-2147483648 ≤ ((gw1 (gw1 q34 60 1 0) 60 2 0).1 14 1) ∧ ((gw1 (gw1 q34 60 1 0) 60 2 0).1 14 1) ≤ 2147483647) then (
  if ((gw1 (gw1 q34 60 1 0) 60 2 0).1 14 1) ≤ 0 then (
    gm_4_30 0 (gw1 (gw1 q34 60 1 0) 60 2 0)) else (
    gm_4_30 1 (gw1 (gw1 q34 60 1 0) 60 2 0))) else none
theorem gf_4 {s : gx_S} {σ : fx_S} (es : σ = gx s) {q : Int × gx_S} (h : gm_4 s = some q) : fm_4 σ = some (Int32.ofInt q.1, gx q.2) := by
  unfold gm_4 at h
  unfold fm_4
  obtain ⟨q34, w33, h⟩ := fx_bd h
  refine gb_bind (gf_235 kg_0 es w33) ?_
  obtain ⟨z35, h⟩ := fx_gd h
  by_cases c36 : ((gw1 (gw1 q34 60 1 0) 60 2 0).1 14 1) ≤ 0
  · rw [if_pos c36] at h
    refine gb_t ((gc_le (gf1 (gx_w1 (gx_w1 (rfl : _ = gx q34) kg_0) kg_0) 14 1) kg_0 z35 (by decide)).mpr c36) ?_
    exact gf_4_30 _ _ kg_0 _ _ (gx_w1 (gx_w1 (rfl : _ = gx q34) kg_0) kg_0) _ h
  · rw [if_neg c36] at h
    refine gb_f (fun q => c36 ((gc_le (gf1 (gx_w1 (gx_w1 (rfl : _ = gx q34) kg_0) kg_0) 14 1) kg_0 z35 (by decide)).mp q)) ?_
    exact gf_4_30 _ _ kg_1 _ _ (gx_w1 (gx_w1 (rfl : _ = gx q34) kg_0) kg_0) _ h

/-! ZoneShares$Group.makeLives()V -/
def gm_20 (x0 : Nat) (s : gx_S) : Option (gx_S) :=
  if fx_oc x0 2 = true then (
  (gm_21 x0 1 s).bind fun q7 =>
  if (gb q7.1) = 0 then (
    some q7.2) else (
    (gm_22 x0 q7.2).bind fun q10 =>
    some q10)) else none
theorem gf_20 {x0 : Nat} {s : gx_S} {σ : fx_S} (es : σ = gx s) {q : gx_S} (h : gm_20 x0 s = some q) : fm_20 x0 σ = some (gx q) := by
  unfold gm_20 at h
  unfold fm_20
  obtain ⟨gg, h⟩ := fx_gd h
  refine gb_t gg ?_
  have g0 := gg
  obtain ⟨q7, w6, h⟩ := fx_bd h
  refine gb_bind (gf_21 kg_1 es w6) ?_
  by_cases c8 : (gb q7.1) = 0
  · rw [if_pos c8] at h
    refine gb_t ((gc_eq (gb_b q7.1) kg_0 (gb_r _) (by decide)).mpr c8) ?_
    have h := Option.some.inj h
    subst h
    exact gretv (rfl : _ = gx q7.2)
  · rw [if_neg c8] at h
    refine gb_f (fun q => c8 ((gc_eq (gb_b q7.1) kg_0 (gb_r _) (by decide)).mp q)) ?_
    obtain ⟨q10, w9, h⟩ := fx_bd h
    refine gb_bind (gf_22 (rfl : _ = gx q7.2) w9) ?_
    have h := Option.some.inj h
    subst h
    exact gretv (rfl : _ = gx q10)

/-! ZoneShares$Rounder.round(LZoneShares$Table;Z)V -/
def gm_41_84 (k_63 : Nat → Int → gx_S → Option (gx_S)) (x1 : Nat) (x3 : Int) (s : gx_S) : Option (gx_S) :=
  if 0 ≤ x3 ∧ x3 < 72 then (
  k_63 x1 (x3 + 1) (gw1 s (x1 + 8) (x3).toNat ((s.1 (x1 + 6) (x3).toNat) + (s.1 8 (x3).toNat)))) else none
theorem gf_41_84 {kf_63 : Nat → Int32 → fx_S → Option (fx_S)} {kg_63 : Nat → Int → gx_S → Option (gx_S)} (hk_63 : ∀ (x1 : Nat) (x3 : Int) (yx3 : Int32) (e3 : yx3 = Int32.ofInt x3) (s : gx_S) (σ : fx_S) (es : σ = gx s) (q : gx_S) (g1 : fx_oc x1 7 = true), kg_63 x1 x3 s = some q → kf_63 x1 yx3 σ = some (gx q)) (x1 : Nat) (x3 : Int) (yx3 : Int32) (e3 : yx3 = Int32.ofInt x3) (s : gx_S) (σ : fx_S) (es : σ = gx s) (q : gx_S) (g1 : fx_oc x1 7 = true) (h : gm_41_84 kg_63 x1 x3 s = some q) : fm_41_84 kf_63 x1 yx3 σ = some (gx q) := by
  unfold gm_41_84 at h
  unfold fm_41_84
  obtain ⟨z3, h⟩ := fx_gd h
  refine gb_bind (gl_ld es e3 (ga_7_5 g1) z3) ?_
  refine gb_bind (gl_ld es e3 ga_8 z3) ?_
  refine gb_bind (gl_st es e3 (ga_add (gr (s.1 (x1 + 6) (x3).toNat)) (gr (s.1 8 (x3).toNat))) (ga_7_7 g1) z3) ?_
  exact hk_63 _ _ _ (ga_add e3 kg_1) _ _ (rfl : _ = gx (gw1 s (x1 + 8) (x3).toNat ((s.1 (x1 + 6) (x3).toNat) + (s.1 8 (x3).toNat)))) _ g1 h
def gm_41_63 : Nat → Nat → Int → gx_S → Option (gx_S)
  | 0, _, _, _ => none
  | n + 1, x1, x3, s =>
    if (-2147483648 ≤ x3 ∧ x3 ≤ 2147483647) then (
    if 72 ≤ x3 then (
      some s) else (
      if 0 ≤ x3 ∧ x3 < 72 then (
      if (-2147483648 ≤ (s.1 7 (x3).toNat) ∧ (s.1 7 (x3).toNat) ≤ 2147483647) then (
      if ¬ (s.1 7 (x3).toNat) = 1 then (
        gm_41_84 (gm_41_63 n) x1 x3 s) else (
        (gm_45 x3 s).bind fun q9 =>
        gm_41_84 (gm_41_63 n) x1 x3 q9)) else none) else none)) else none
theorem gf_41_63 : ∀ (n : Nat) (x1 : Nat) (x3 : Int) (yx3 : Int32) (e3 : yx3 = Int32.ofInt x3) (s : gx_S) (σ : fx_S) (es : σ = gx s) (q : gx_S) (g1 : fx_oc x1 7 = true), gm_41_63 n x1 x3 s = some q → fm_41_63 n x1 yx3 σ = some (gx q) := by
  intro n
  induction n with
  | zero =>
    intro x1 x3 yx3 e3 s σ es q g1 h
    rw [gm_41_63] at h
    exact fx_no h
  | succ n ih =>
    intro x1 x3 yx3 e3 s σ es q g1 h
    rw [gm_41_63] at h
    rw [fm_41_63]
    obtain ⟨z1, h⟩ := fx_gd h
    by_cases c2 : 72 ≤ x3
    · rw [if_pos c2] at h
      refine gb_t ((gc_le kg_72 e3 (by decide) z1).mpr c2) ?_
      have h := Option.some.inj h
      subst h
      exact gretv es
    · rw [if_neg c2] at h
      refine gb_f (fun q => c2 ((gc_le kg_72 e3 (by decide) z1).mp q)) ?_
      obtain ⟨z5, h⟩ := fx_gd h
      refine gb_bind (gl_ld es e3 ga_7 z5) ?_
      obtain ⟨z6, h⟩ := fx_gd h
      by_cases c7 : ¬ (s.1 7 (x3).toNat) = 1
      · rw [if_pos c7] at h
        refine gb_t ((gc_ne (gr (s.1 7 (x3).toNat)) kg_1 z6 (by decide)).mpr c7) ?_
        exact gf_41_84 ih _ _ _ e3 _ _ es _ g1 h
      · rw [if_neg c7] at h
        refine gb_f (fun q => c7 ((gc_ne (gr (s.1 7 (x3).toNat)) kg_1 z6 (by decide)).mp q)) ?_
        obtain ⟨q9, w8, h⟩ := fx_bd h
        refine gb_bind (gf_45 e3 es w8) ?_
        exact gf_41_84 ih _ _ _ e3 _ _ (rfl : _ = gx q9) _ g1 h
def gm_41_44 : Nat → Nat → Int → gx_S → Option (gx_S)
  | 0, _, _, _ => none
  | n + 1, x1, x3, s =>
    if (-2147483648 ≤ x3 ∧ x3 ≤ 2147483647) then (
    if 9 ≤ x3 then (
      gm_41_63 100000 x1 0 s) else (
      (gm_44 x3 s).bind fun q4 =>
      gm_41_44 n x1 (x3 + 1) q4)) else none
theorem gf_41_44 : ∀ (n : Nat) (x1 : Nat) (x3 : Int) (yx3 : Int32) (e3 : yx3 = Int32.ofInt x3) (s : gx_S) (σ : fx_S) (es : σ = gx s) (q : gx_S) (g1 : fx_oc x1 7 = true), gm_41_44 n x1 x3 s = some q → fm_41_44 n x1 yx3 σ = some (gx q) := by
  intro n
  induction n with
  | zero =>
    intro x1 x3 yx3 e3 s σ es q g1 h
    rw [gm_41_44] at h
    exact fx_no h
  | succ n ih =>
    intro x1 x3 yx3 e3 s σ es q g1 h
    rw [gm_41_44] at h
    rw [fm_41_44]
    obtain ⟨z1, h⟩ := fx_gd h
    by_cases c2 : 9 ≤ x3
    · rw [if_pos c2] at h
      refine gb_t ((gc_le kg_9 e3 (by decide) z1).mpr c2) ?_
      exact gf_41_63 100000 _ _ _ kg_0 _ _ es _ g1 h
    · rw [if_neg c2] at h
      refine gb_f (fun q => c2 ((gc_le kg_9 e3 (by decide) z1).mp q)) ?_
      obtain ⟨q4, w3, h⟩ := fx_bd h
      refine gb_bind (gf_44 e3 es w3) ?_
      exact ih _ _ _ (ga_add e3 kg_1) _ _ (rfl : _ = gx q4) _ g1 h
def gm_41_20 : Nat → Nat → Int → gx_S → Option (gx_S)
  | 0, _, _, _ => none
  | n + 1, x1, x3, s =>
    if (-2147483648 ≤ x3 ∧ x3 ≤ 2147483647) then (
    if 8 ≤ x3 then (
      gm_41_44 100000 x1 0 s) else (
      (gm_73 x1 x3 s).bind fun q4 =>
      (gm_43 x3 q4.1 q4.2).bind fun q6 =>
      gm_41_20 n x1 (x3 + 1) q6)) else none
theorem gf_41_20 : ∀ (n : Nat) (x1 : Nat) (x3 : Int) (yx3 : Int32) (e3 : yx3 = Int32.ofInt x3) (s : gx_S) (σ : fx_S) (es : σ = gx s) (q : gx_S) (g1 : fx_oc x1 7 = true), gm_41_20 n x1 x3 s = some q → fm_41_20 n x1 yx3 σ = some (gx q) := by
  intro n
  induction n with
  | zero =>
    intro x1 x3 yx3 e3 s σ es q g1 h
    rw [gm_41_20] at h
    exact fx_no h
  | succ n ih =>
    intro x1 x3 yx3 e3 s σ es q g1 h
    rw [gm_41_20] at h
    rw [fm_41_20]
    obtain ⟨z1, h⟩ := fx_gd h
    by_cases c2 : 8 ≤ x3
    · rw [if_pos c2] at h
      refine gb_t ((gc_le kg_8 e3 (by decide) z1).mpr c2) ?_
      exact gf_41_44 100000 _ _ _ kg_0 _ _ es _ g1 h
    · rw [if_neg c2] at h
      refine gb_f (fun q => c2 ((gc_le kg_8 e3 (by decide) z1).mp q)) ?_
      obtain ⟨q4, w3, h⟩ := fx_bd h
      refine gb_bind (gf_73 e3 es w3) ?_
      obtain ⟨q6, w5, h⟩ := fx_bd h
      refine gb_bind (gf_43 e3 (gr q4.1) (rfl : _ = gx q4.2) w5) ?_
      exact ih _ _ _ (ga_add e3 kg_1) _ _ (rfl : _ = gx q6) _ g1 h
def gm_41 (x1 : Nat) (x2 : Int) (s : gx_S) : Option (gx_S) :=
  if fx_oc x1 7 = true then (
  (gm_70 x1 s).bind fun q36 =>
  if (-2147483648 ≤ x2 ∧ x2 ≤ 2147483647) then (
  if ¬ x2 = 0 then (
    (gm_42 x1 q36).bind fun q40 =>
    gm_41_20 100000 x1 0 q40) else (
    (gm_74 x1 q36).bind fun q42 =>
    some q42)) else none) else none
theorem gf_41 {x1 : Nat} {x2 : Int} {yx2 : Int32} (e2 : yx2 = Int32.ofInt x2) {s : gx_S} {σ : fx_S} (es : σ = gx s) {q : gx_S} (h : gm_41 x1 x2 s = some q) : fm_41 x1 yx2 σ = some (gx q) := by
  unfold gm_41 at h
  unfold fm_41
  obtain ⟨gg, h⟩ := fx_gd h
  refine gb_t gg ?_
  have g1 := gg
  obtain ⟨q36, w35, h⟩ := fx_bd h
  refine gb_bind (gf_70 es w35) ?_
  obtain ⟨z37, h⟩ := fx_gd h
  by_cases c38 : ¬ x2 = 0
  · rw [if_pos c38] at h
    refine gb_t ((gc_ne e2 kg_0 z37 (by decide)).mpr c38) ?_
    obtain ⟨q40, w39, h⟩ := fx_bd h
    refine gb_bind (gf_42 (rfl : _ = gx q36) w39) ?_
    exact gf_41_20 100000 _ _ _ kg_0 _ _ (rfl : _ = gx q40) _ g1 h
  · rw [if_neg c38] at h
    refine gb_f (fun q => c38 ((gc_ne e2 kg_0 z37 (by decide)).mp q)) ?_
    obtain ⟨q42, w41, h⟩ := fx_bd h
    refine gb_bind (gf_74 (rfl : _ = gx q36) w41) ?_
    have h := Option.some.inj h
    subst h
    exact gretv (rfl : _ = gx q42)

/-! ZoneShares.counts(I)I -/
def gm_88 (x1 : Int) (s : gx_S) : Option (Int × gx_S) :=
  (gm_114 x1 s).bind fun q16 =>
  if ¬ (gb q16.1) = 0 then (
    (gm_4 q16.2).bind fun q19 =>
    if (-2147483648 ≤ q19.1 ∧ q19.1 ≤ 2147483647) then (
    if q19.1 = (-1) then (
      (gm_119 (gw1 q19.2 14 1 0)).bind fun q23 =>
      if 0 ≤ (0 : Int) ∧ 0 ≤ ((x1 * 9) : Int) ∧ 0 ≤ (9 : Int) ∧ (0 : Int) + 9 ≤ 9 ∧ ((x1 * 9) : Int) + 9 ≤ 27 then (
      (gm_66 1 x1 (gcp q23 61 0 3 ((x1 * 9)).toNat 9)).bind fun q28 =>
      some (q28.1, q28.2)) else none) else (
      some (((-2) - q19.1), (gw1 q19.2 14 1 0)))) else none) else (
    some ((-1), q16.2))
theorem gf_88 {x1 : Int} {yx1 : Int32} (e1 : yx1 = Int32.ofInt x1) {s : gx_S} {σ : fx_S} (es : σ = gx s) {q : Int × gx_S} (h : gm_88 x1 s = some q) : fm_88 yx1 σ = some (Int32.ofInt q.1, gx q.2) := by
  unfold gm_88 at h
  unfold fm_88
  obtain ⟨q16, w15, h⟩ := fx_bd h
  refine gb_bind (gf_114 e1 es w15) ?_
  by_cases c17 : ¬ (gb q16.1) = 0
  · rw [if_pos c17] at h
    refine gb_t ((gc_ne (gb_b q16.1) kg_0 (gb_r _) (by decide)).mpr c17) ?_
    obtain ⟨q19, w18, h⟩ := fx_bd h
    refine gb_bind (gf_4 (rfl : _ = gx q16.2) w18) ?_
    obtain ⟨z20, h⟩ := fx_gd h
    by_cases c21 : q19.1 = (-1)
    · rw [if_pos c21] at h
      refine gb_t ((gc_eq (gr q19.1) kg_m1 z20 (by decide)).mpr c21) ?_
      obtain ⟨q23, w22, h⟩ := fx_bd h
      refine gb_bind (gf_119 (gx_w1 (rfl : _ = gx q19.2) kg_0) w22) ?_
      obtain ⟨z26, h⟩ := fx_gd h
      refine gb_bind (gl_cpy (rfl : _ = gx q23) kg_0 (ga_mul e1 kg_9) kg_9 ga_61 ga_3 z26) ?_
      obtain ⟨q28, w27, h⟩ := fx_bd h
      refine gb_bind (gf_66 e1 (rfl : _ = gx (gcp q23 61 0 3 ((x1 * 9)).toNat 9)) w27) ?_
      have h := Option.some.inj h
      subst h
      exact gret (gr q28.1) (rfl : _ = gx q28.2)
    · rw [if_neg c21] at h
      refine gb_f (fun q => c21 ((gc_eq (gr q19.1) kg_m1 z20 (by decide)).mp q)) ?_
      have h := Option.some.inj h
      subst h
      exact gret (ga_sub kg_m2 (gr q19.1)) (gx_w1 (rfl : _ = gx q19.2) kg_0)
  · rw [if_neg c17] at h
    refine gb_f (fun q => c17 ((gc_ne (gb_b q16.1) kg_0 (gb_r _) (by decide)).mp q)) ?_
    have h := Option.some.inj h
    subst h
    exact gret kg_m1 (rfl : _ = gx q16.2)

/-! ZoneShares.fit(I)I -/
def gm_92_54 (k_21 : Int → Int → Int → gx_S → Option (Int × gx_S)) (x1 : Int) (x2 : Int) (x3 : Int) (s : gx_S) : Option (Int × gx_S) :=
  k_21 x1 x2 (x3 + 1) s
theorem gf_92_54 {kf_21 : Int32 → Int32 → Int32 → fx_S → Option (Int32 × fx_S)} {kg_21 : Int → Int → Int → gx_S → Option (Int × gx_S)} (hk_21 : ∀ (x1 : Int) (yx1 : Int32) (e1 : yx1 = Int32.ofInt x1) (x2 : Int) (yx2 : Int32) (e2 : yx2 = Int32.ofInt x2) (x3 : Int) (yx3 : Int32) (e3 : yx3 = Int32.ofInt x3) (s : gx_S) (σ : fx_S) (es : σ = gx s) (q : Int × gx_S), kg_21 x1 x2 x3 s = some q → kf_21 yx1 yx2 yx3 σ = some (Int32.ofInt q.1, gx q.2)) (x1 : Int) (yx1 : Int32) (e1 : yx1 = Int32.ofInt x1) (x2 : Int) (yx2 : Int32) (e2 : yx2 = Int32.ofInt x2) (x3 : Int) (yx3 : Int32) (e3 : yx3 = Int32.ofInt x3) (s : gx_S) (σ : fx_S) (es : σ = gx s) (q : Int × gx_S) (h : gm_92_54 kg_21 x1 x2 x3 s = some q) : fm_92_54 kf_21 yx1 yx2 yx3 σ = some (Int32.ofInt q.1, gx q.2) := by
  unfold gm_92_54 at h
  unfold fm_92_54
  exact hk_21 _ _ e1 _ _ e2 _ _ (ga_add e3 kg_1) _ _ es _ h
def gm_92_21 : Nat → Int → Int → Int → gx_S → Option (Int × gx_S)
  | 0, _, _, _, _ => none
  | n + 1, x1, x2, x3, s =>
    if (-2147483648 ≤ x3 ∧ x3 ≤ 2147483647) then (
    if 4 ≤ x3 then (
      if (-2147483648 ≤ x2 ∧ x2 ≤ 2147483647) then (
      if ¬ x2 = 0 then (
        (gm_119 s).bind fun q6 =>
        if 0 ≤ (0 : Int) ∧ 0 ≤ ((x1 * 4) : Int) ∧ 0 ≤ (4 : Int) ∧ (0 : Int) + 4 ≤ 4 ∧ ((x1 * 4) : Int) + 4 ≤ 12 then (
        some (x2, (gcp q6 63 0 4 ((x1 * 4)).toNat 4))) else none) else (
        some ((-2), s))) else none) else (
      if 0 ≤ x3 ∧ x3 < 4 then (
      if 0 ≤ ((x1 * 4) + x3) ∧ ((x1 * 4) + x3) < 12 then (
      if (-2147483648 ≤ (s.1 63 (x3).toNat) ∧ (s.1 63 (x3).toNat) ≤ 2147483647) then (
      if (-2147483648 ≤ (s.1 4 (((x1 * 4) + x3)).toNat) ∧ (s.1 4 (((x1 * 4) + x3)).toNat) ≤ 2147483647) then (
      if (s.1 63 (x3).toNat) = (s.1 4 (((x1 * 4) + x3)).toNat) then (
        gm_92_54 (gm_92_21 n) x1 x2 x3 s) else (
        gm_92_54 (gm_92_21 n) x1 (x2 + 1) x3 s)) else none) else none) else none) else none)) else none
theorem gf_92_21 : ∀ (n : Nat) (x1 : Int) (yx1 : Int32) (e1 : yx1 = Int32.ofInt x1) (x2 : Int) (yx2 : Int32) (e2 : yx2 = Int32.ofInt x2) (x3 : Int) (yx3 : Int32) (e3 : yx3 = Int32.ofInt x3) (s : gx_S) (σ : fx_S) (es : σ = gx s) (q : Int × gx_S), gm_92_21 n x1 x2 x3 s = some q → fm_92_21 n yx1 yx2 yx3 σ = some (Int32.ofInt q.1, gx q.2) := by
  intro n
  induction n with
  | zero =>
    intro x1 yx1 e1 x2 yx2 e2 x3 yx3 e3 s σ es q  h
    rw [gm_92_21] at h
    exact fx_no h
  | succ n ih =>
    intro x1 yx1 e1 x2 yx2 e2 x3 yx3 e3 s σ es q  h
    rw [gm_92_21] at h
    rw [fm_92_21]
    obtain ⟨z1, h⟩ := fx_gd h
    by_cases c2 : 4 ≤ x3
    · rw [if_pos c2] at h
      refine gb_t ((gc_le kg_4 e3 (by decide) z1).mpr c2) ?_
      obtain ⟨z3, h⟩ := fx_gd h
      by_cases c4 : ¬ x2 = 0
      · rw [if_pos c4] at h
        refine gb_t ((gc_ne e2 kg_0 z3 (by decide)).mpr c4) ?_
        obtain ⟨q6, w5, h⟩ := fx_bd h
        refine gb_bind (gf_119 es w5) ?_
        obtain ⟨z9, h⟩ := fx_gd h
        refine gb_bind (gl_cpy (rfl : _ = gx q6) kg_0 (ga_mul e1 kg_4) kg_4 ga_63 ga_4 z9) ?_
        have h := Option.some.inj h
        subst h
        exact gret e2 (rfl : _ = gx (gcp q6 63 0 4 ((x1 * 4)).toNat 4))
      · rw [if_neg c4] at h
        refine gb_f (fun q => c4 ((gc_ne e2 kg_0 z3 (by decide)).mp q)) ?_
        have h := Option.some.inj h
        subst h
        exact gret kg_m2 es
    · rw [if_neg c2] at h
      refine gb_f (fun q => c2 ((gc_le kg_4 e3 (by decide) z1).mp q)) ?_
      obtain ⟨z12, h⟩ := fx_gd h
      refine gb_bind (gl_ld es e3 ga_63 z12) ?_
      obtain ⟨z15, h⟩ := fx_gd h
      refine gb_bind (gl_ld es (ga_add (ga_mul e1 kg_4) e3) ga_4 z15) ?_
      obtain ⟨z16, h⟩ := fx_gd h
      obtain ⟨z17, h⟩ := fx_gd h
      by_cases c18 : (s.1 63 (x3).toNat) = (s.1 4 (((x1 * 4) + x3)).toNat)
      · rw [if_pos c18] at h
        refine gb_t ((gc_eq (gr (s.1 63 (x3).toNat)) (gr (s.1 4 (((x1 * 4) + x3)).toNat)) z16 z17).mpr c18) ?_
        exact gf_92_54 ih _ _ e1 _ _ e2 _ _ e3 _ _ es _ h
      · rw [if_neg c18] at h
        refine gb_f (fun q => c18 ((gc_eq (gr (s.1 63 (x3).toNat)) (gr (s.1 4 (((x1 * 4) + x3)).toNat)) z16 z17).mp q)) ?_
        exact gf_92_54 ih _ _ e1 _ _ (ga_add e2 kg_1) _ _ e3 _ _ es _ h
def gm_92 (x1 : Int) (s : gx_S) : Option (Int × gx_S) :=
  (gm_121 x1 s).bind fun q25 =>
  if ¬ (gb q25.1) = 0 then (
    (gm_15 q25.2).bind fun q28 =>
    gm_92_21 100000 x1 0 0 q28) else (
    some ((-1), q25.2))
theorem gf_92 {x1 : Int} {yx1 : Int32} (e1 : yx1 = Int32.ofInt x1) {s : gx_S} {σ : fx_S} (es : σ = gx s) {q : Int × gx_S} (h : gm_92 x1 s = some q) : fm_92 yx1 σ = some (Int32.ofInt q.1, gx q.2) := by
  unfold gm_92 at h
  unfold fm_92
  obtain ⟨q25, w24, h⟩ := fx_bd h
  refine gb_bind (gf_121 e1 es w24) ?_
  by_cases c26 : ¬ (gb q25.1) = 0
  · rw [if_pos c26] at h
    refine gb_t ((gc_ne (gb_b q25.1) kg_0 (gb_r _) (by decide)).mpr c26) ?_
    obtain ⟨q28, w27, h⟩ := fx_bd h
    refine gb_bind (gf_15 (rfl : _ = gx q25.2) w27) ?_
    exact gf_92_21 100000 _ _ e1 _ _ kg_0 _ _ kg_0 _ _ (rfl : _ = gx q28) _ h
  · rw [if_neg c26] at h
    refine gb_f (fun q => c26 ((gc_ne (gb_b q25.1) kg_0 (gb_r _) (by decide)).mp q)) ?_
    have h := Option.some.inj h
    subst h
    exact gret kg_m1 (rfl : _ = gx q25.2)

/-! ZoneShares.people(II)I -/
def gm_97 (x1 : Int) (x2 : Int) (s : gx_S) : Option (Int × gx_S) :=
  (gm_114 x1 s).bind fun q22 =>
  if (gb q22.1) = 0 then (
    some ((-1), q22.2)) else (
    if (-2147483648 ≤ x2 ∧ x2 ≤ 2147483647) then (
    if x2 < 0 then (
      some ((-1), q22.2)) else (
      if x2 ≤ 10 then (
        if 0 ≤ x1 ∧ x1 < 3 then (
        (some (fx_rf 70 (x1).toNat)).bind fun v27 =>
        (gm_20 v27 q22.2).bind fun q32 =>
        if 8 ≤ x2 then (
          if ¬ x2 = 8 then (
            if ¬ x2 = 9 then (
              (gm_66 1 x1 q32).bind fun q37 =>
              some (q37.1, q37.2)) else (
              some ((q32.1 v27 7), q32))) else (
            some ((q32.1 v27 6), q32))) else (
          if 0 ≤ x2 ∧ x2 < 8 then (
          some ((q32.1 (v27 + 1) (x2).toNat), q32)) else none)) else none) else (
        some ((-1), q22.2)))) else none)
theorem gf_97 {x1 : Int} {yx1 : Int32} (e1 : yx1 = Int32.ofInt x1) {x2 : Int} {yx2 : Int32} (e2 : yx2 = Int32.ofInt x2) {s : gx_S} {σ : fx_S} (es : σ = gx s) {q : Int × gx_S} (h : gm_97 x1 x2 s = some q) : fm_97 yx1 yx2 σ = some (Int32.ofInt q.1, gx q.2) := by
  unfold gm_97 at h
  unfold fm_97
  obtain ⟨q22, w21, h⟩ := fx_bd h
  refine gb_bind (gf_114 e1 es w21) ?_
  by_cases c23 : (gb q22.1) = 0
  · rw [if_pos c23] at h
    refine gb_t ((gc_eq (gb_b q22.1) kg_0 (gb_r _) (by decide)).mpr c23) ?_
    have h := Option.some.inj h
    subst h
    exact gret kg_m1 (rfl : _ = gx q22.2)
  · rw [if_neg c23] at h
    refine gb_f (fun q => c23 ((gc_eq (gb_b q22.1) kg_0 (gb_r _) (by decide)).mp q)) ?_
    obtain ⟨z24, h⟩ := fx_gd h
    by_cases c25 : x2 < 0
    · rw [if_pos c25] at h
      refine gb_t ((gc_lt e2 kg_0 z24 (by decide)).mpr c25) ?_
      have h := Option.some.inj h
      subst h
      exact gret kg_m1 (rfl : _ = gx q22.2)
    · rw [if_neg c25] at h
      refine gb_f (fun q => c25 ((gc_lt e2 kg_0 z24 (by decide)).mp q)) ?_
      by_cases c26 : x2 ≤ 10
      · rw [if_pos c26] at h
        refine gb_t ((gc_le e2 kg_10 z24 (by decide)).mpr c26) ?_
        obtain ⟨z30, h⟩ := fx_gd h
        obtain ⟨v27, w28, h⟩ := fx_bd h
        have g29 := fa_70 ((gl_ldr (t := 4) e1 ga_70 z30).trans w28)
        refine gb_bind ((gl_ldr e1 ga_70 z30).trans w28) ?_
        obtain ⟨q32, w31, h⟩ := fx_bd h
        refine gb_bind (gf_20 (rfl : _ = gx q22.2) w31) ?_
        by_cases c33 : 8 ≤ x2
        · rw [if_pos c33] at h
          refine gb_t ((gc_le kg_8 e2 (by decide) z24).mpr c33) ?_
          by_cases c34 : ¬ x2 = 8
          · rw [if_pos c34] at h
            refine gb_t ((gc_ne e2 kg_8 z24 (by decide)).mpr c34) ?_
            by_cases c35 : ¬ x2 = 9
            · rw [if_pos c35] at h
              refine gb_t ((gc_ne e2 kg_9 z24 (by decide)).mpr c35) ?_
              obtain ⟨q37, w36, h⟩ := fx_bd h
              refine gb_bind (gf_66 e1 (rfl : _ = gx q32) w36) ?_
              have h := Option.some.inj h
              subst h
              exact gret (gr q37.1) (rfl : _ = gx q37.2)
            · rw [if_neg c35] at h
              refine gb_f (fun q => c35 ((gc_ne e2 kg_9 z24 (by decide)).mp q)) ?_
              have h := Option.some.inj h
              subst h
              exact gret (gf1 (rfl : _ = gx q32) v27 7) (rfl : _ = gx q32)
          · rw [if_neg c34] at h
            refine gb_f (fun q => c34 ((gc_ne e2 kg_8 z24 (by decide)).mp q)) ?_
            have h := Option.some.inj h
            subst h
            exact gret (gf1 (rfl : _ = gx q32) v27 6) (rfl : _ = gx q32)
        · rw [if_neg c33] at h
          refine gb_f (fun q => c33 ((gc_le kg_8 e2 (by decide) z24).mp q)) ?_
          obtain ⟨z40, h⟩ := fx_gd h
          refine gb_bind (gl_ld (rfl : _ = gx q32) e2 (ga_2_0 g29) z40) ?_
          have h := Option.some.inj h
          subst h
          exact gret (gr (q32.1 (v27 + 1) (x2).toNat)) (rfl : _ = gx q32)
      · rw [if_neg c26] at h
        refine gb_f (fun q => c26 ((gc_le e2 kg_10 z24 (by decide)).mp q)) ?_
        have h := Option.some.inj h
        subst h
        exact gret kg_m1 (rfl : _ = gx q22.2)

/-! ZoneShares.misfit(II)J -/
def gm_102_17 (s : gx_S) : Option (Int × gx_S) :=
  some ((-1), s)
theorem gf_102_17 (s : gx_S) (σ : fx_S) (es : σ = gx s) (q : Int × gx_S) (h : gm_102_17 s = some q) : fm_102_17 σ = some (Int64.ofInt q.1, gx q.2) := by
  unfold gm_102_17 at h
  unfold fm_102_17
  have h := Option.some.inj h
  subst h
  exact gretl kgl_m1 es
def gm_102 (x1 : Int) (x2 : Int) (s : gx_S) : Option (Int × gx_S) :=
  if (-2147483648 ≤ x2 ∧ x2 ≤ 2147483647) then (
  if x2 < 0 then (
    gm_102_17 s) else (
    if 1 < x2 then (
      gm_102_17 s) else (
      (gm_121 x1 s).bind fun q19 =>
      if ¬ (gb q19.1) = 0 then (
        (gm_12 4 (x1 * 4) q19.2).bind fun q22 =>
        if (-9223372036854775808 ≤ q22.1 ∧ q22.1 ≤ 9223372036854775807) then (
        if ¬ q22.1 = 0 then (
          (gm_14 q22.2).bind fun q26 =>
          (gm_127 q26.1 q22.1 x2 q26.2).bind fun q28 =>
          some (q28.1, q28.2)) else (
          some ((-1), q22.2))) else none) else (
        gm_102_17 q19.2)))) else none
theorem gf_102 {x1 : Int} {yx1 : Int32} (e1 : yx1 = Int32.ofInt x1) {x2 : Int} {yx2 : Int32} (e2 : yx2 = Int32.ofInt x2) {s : gx_S} {σ : fx_S} (es : σ = gx s) {q : Int × gx_S} (h : gm_102 x1 x2 s = some q) : fm_102 yx1 yx2 σ = some (Int64.ofInt q.1, gx q.2) := by
  unfold gm_102 at h
  unfold fm_102
  obtain ⟨z15, h⟩ := fx_gd h
  by_cases c16 : x2 < 0
  · rw [if_pos c16] at h
    refine gb_t ((gc_lt e2 kg_0 z15 (by decide)).mpr c16) ?_
    exact gf_102_17 _ _ es _ h
  · rw [if_neg c16] at h
    refine gb_f (fun q => c16 ((gc_lt e2 kg_0 z15 (by decide)).mp q)) ?_
    by_cases c17 : 1 < x2
    · rw [if_pos c17] at h
      refine gb_t ((gc_lt kg_1 e2 (by decide) z15).mpr c17) ?_
      exact gf_102_17 _ _ es _ h
    · rw [if_neg c17] at h
      refine gb_f (fun q => c17 ((gc_lt kg_1 e2 (by decide) z15).mp q)) ?_
      obtain ⟨q19, w18, h⟩ := fx_bd h
      refine gb_bind (gf_121 e1 es w18) ?_
      by_cases c20 : ¬ (gb q19.1) = 0
      · rw [if_pos c20] at h
        refine gb_t ((gc_ne (gb_b q19.1) kg_0 (gb_r _) (by decide)).mpr c20) ?_
        obtain ⟨q22, w21, h⟩ := fx_bd h
        refine gb_bind (gf_12 (ga_mul e1 kg_4) (rfl : _ = gx q19.2) w21) ?_
        obtain ⟨z23, h⟩ := fx_gd h
        by_cases c24 : ¬ q22.1 = 0
        · rw [if_pos c24] at h
          refine gb_t ((gcl_ne (gr2 q22.1) kgl_0 z23 (by decide)).mpr c24) ?_
          obtain ⟨q26, w25, h⟩ := fx_bd h
          refine gb_bind (gf_14 (rfl : _ = gx q22.2) w25) ?_
          obtain ⟨q28, w27, h⟩ := fx_bd h
          refine gb_bind (gf_127 (gr2 q26.1) (gr2 q22.1) e2 (rfl : _ = gx q26.2) w27) ?_
          have h := Option.some.inj h
          subst h
          exact gretl (gr2 q28.1) (rfl : _ = gx q28.2)
        · rw [if_neg c24] at h
          refine gb_f (fun q => c24 ((gcl_ne (gr2 q22.1) kgl_0 z23 (by decide)).mp q)) ?_
          have h := Option.some.inj h
          subst h
          exact gretl kgl_m1 (rfl : _ = gx q22.2)
      · rw [if_neg c20] at h
        refine gb_f (fun q => c20 ((gc_ne (gb_b q19.1) kg_0 (gb_r _) (by decide)).mp q)) ?_
        exact gf_102_17 _ _ (rfl : _ = gx q19.2) _ h

/-! ZoneShares.peopleInAll(Z)I -/
def gm_126_67 (x2 : Int) (s : gx_S) : Option (Int × gx_S) :=
  some (x2, s)
theorem gf_126_67 (x2 : Int) (yx2 : Int32) (e2 : yx2 = Int32.ofInt x2) (s : gx_S) (σ : fx_S) (es : σ = gx s) (q : Int × gx_S) (h : gm_126_67 x2 s = some q) : fm_126_67 yx2 σ = some (Int32.ofInt q.1, gx q.2) := by
  unfold gm_126_67 at h
  unfold fm_126_67
  have h := Option.some.inj h
  subst h
  exact gret e2 es
def gm_126_59 (k_4 : Int → Int → Int → gx_S → Option (Int × gx_S)) (x1 : Int) (x3 : Int) (s0 : Int) (s1 : Int) (s : gx_S) : Option (Int × gx_S) :=
  k_4 x1 (s0 + s1) (x3 + 1) s
theorem gf_126_59 {kf_4 : Int32 → Int32 → Int32 → fx_S → Option (Int32 × fx_S)} {kg_4 : Int → Int → Int → gx_S → Option (Int × gx_S)} (hk_4 : ∀ (x1 : Int) (yx1 : Int32) (e1 : yx1 = Int32.ofInt x1) (x2 : Int) (yx2 : Int32) (e2 : yx2 = Int32.ofInt x2) (x3 : Int) (yx3 : Int32) (e3 : yx3 = Int32.ofInt x3) (s : gx_S) (σ : fx_S) (es : σ = gx s) (q : Int × gx_S), kg_4 x1 x2 x3 s = some q → kf_4 yx1 yx2 yx3 σ = some (Int32.ofInt q.1, gx q.2)) (x1 : Int) (yx1 : Int32) (e1 : yx1 = Int32.ofInt x1) (x3 : Int) (yx3 : Int32) (e3 : yx3 = Int32.ofInt x3) (s0 : Int) (ys0 : Int32) (es0 : ys0 = Int32.ofInt s0) (s1 : Int) (ys1 : Int32) (es1 : ys1 = Int32.ofInt s1) (s : gx_S) (σ : fx_S) (es : σ = gx s) (q : Int × gx_S) (h : gm_126_59 kg_4 x1 x3 s0 s1 s = some q) : fm_126_59 kf_4 yx1 yx3 ys0 ys1 σ = some (Int32.ofInt q.1, gx q.2) := by
  unfold gm_126_59 at h
  unfold fm_126_59
  exact hk_4 _ _ e1 _ _ (ga_add es0 es1) _ _ (ga_add e3 kg_1) _ _ es _ h
def gm_126_4 : Nat → Int → Int → Int → gx_S → Option (Int × gx_S)
  | 0, _, _, _, _ => none
  | n + 1, x1, x2, x3, s =>
    if (-2147483648 ≤ x3 ∧ x3 ≤ 2147483647) then (
    if 3 ≤ x3 then (
      gm_126_67 x2 s) else (
      (gm_57 1 s).bind fun q4 =>
      if (gb q4.1) = 0 then (
        gm_126_67 x2 q4.2) else (
        if 0 ≤ x3 ∧ x3 < 3 then (
        (some (fx_rf 70 (x3).toNat)).bind fun v6 =>
        (gm_20 v6 q4.2).bind fun q11 =>
        if (-2147483648 ≤ x1 ∧ x1 ≤ 2147483647) then (
        if x1 = 0 then (
          gm_126_59 (gm_126_4 n) x1 x3 x2 (q11.1 v6 7) q11) else (
          (gm_66 1 x3 q11).bind fun q15 =>
          gm_126_59 (gm_126_4 n) x1 x3 x2 (q15.1 - (q15.2.1 v6 7)) q15.2)) else none) else none))) else none
theorem gf_126_4 : ∀ (n : Nat) (x1 : Int) (yx1 : Int32) (e1 : yx1 = Int32.ofInt x1) (x2 : Int) (yx2 : Int32) (e2 : yx2 = Int32.ofInt x2) (x3 : Int) (yx3 : Int32) (e3 : yx3 = Int32.ofInt x3) (s : gx_S) (σ : fx_S) (es : σ = gx s) (q : Int × gx_S), gm_126_4 n x1 x2 x3 s = some q → fm_126_4 n yx1 yx2 yx3 σ = some (Int32.ofInt q.1, gx q.2) := by
  intro n
  induction n with
  | zero =>
    intro x1 yx1 e1 x2 yx2 e2 x3 yx3 e3 s σ es q  h
    rw [gm_126_4] at h
    exact fx_no h
  | succ n ih =>
    intro x1 yx1 e1 x2 yx2 e2 x3 yx3 e3 s σ es q  h
    rw [gm_126_4] at h
    rw [fm_126_4]
    obtain ⟨z1, h⟩ := fx_gd h
    by_cases c2 : 3 ≤ x3
    · rw [if_pos c2] at h
      refine gb_t ((gc_le kg_3 e3 (by decide) z1).mpr c2) ?_
      exact gf_126_67 _ _ e2 _ _ es _ h
    · rw [if_neg c2] at h
      refine gb_f (fun q => c2 ((gc_le kg_3 e3 (by decide) z1).mp q)) ?_
      obtain ⟨q4, w3, h⟩ := fx_bd h
      refine gb_bind (gf_57 es w3) ?_
      by_cases c5 : (gb q4.1) = 0
      · rw [if_pos c5] at h
        refine gb_t ((gc_eq (gb_b q4.1) kg_0 (gb_r _) (by decide)).mpr c5) ?_
        exact gf_126_67 _ _ e2 _ _ (rfl : _ = gx q4.2) _ h
      · rw [if_neg c5] at h
        refine gb_f (fun q => c5 ((gc_eq (gb_b q4.1) kg_0 (gb_r _) (by decide)).mp q)) ?_
        obtain ⟨z9, h⟩ := fx_gd h
        obtain ⟨v6, w7, h⟩ := fx_bd h
        have g8 := fa_70 ((gl_ldr (t := 4) e3 ga_70 z9).trans w7)
        refine gb_bind ((gl_ldr e3 ga_70 z9).trans w7) ?_
        obtain ⟨q11, w10, h⟩ := fx_bd h
        refine gb_bind (gf_20 (rfl : _ = gx q4.2) w10) ?_
        obtain ⟨z12, h⟩ := fx_gd h
        by_cases c13 : x1 = 0
        · rw [if_pos c13] at h
          refine gb_t ((gc_eq e1 kg_0 z12 (by decide)).mpr c13) ?_
          exact gf_126_59 ih _ _ e1 _ _ e3 _ _ e2 _ _ (gf1 (rfl : _ = gx q11) v6 7) _ _ (rfl : _ = gx q11) _ h
        · rw [if_neg c13] at h
          refine gb_f (fun q => c13 ((gc_eq e1 kg_0 z12 (by decide)).mp q)) ?_
          obtain ⟨q15, w14, h⟩ := fx_bd h
          refine gb_bind (gf_66 e3 (rfl : _ = gx q11) w14) ?_
          exact gf_126_59 ih _ _ e1 _ _ e3 _ _ e2 _ _ (ga_sub (gr q15.1) (gf1 (rfl : _ = gx q15.2) v6 7)) _ _ (rfl : _ = gx q15.2) _ h
def gm_126 (x1 : Int) (s : gx_S) : Option (Int × gx_S) :=
  gm_126_4 100000 x1 0 0 s
theorem gf_126 {x1 : Int} {yx1 : Int32} (e1 : yx1 = Int32.ofInt x1) {s : gx_S} {σ : fx_S} (es : σ = gx s) {q : Int × gx_S} (h : gm_126 x1 s = some q) : fm_126 yx1 σ = some (Int32.ofInt q.1, gx q.2) := by
  unfold gm_126 at h
  unfold fm_126
  exact gf_126_4 100000 _ _ e1 _ _ kg_0 _ _ kg_0 _ _ es _ h

/-! ZoneShares$Group.ready(I)LZoneShares$Group; -/
def gm_19_220 (x0 : Nat) (s : gx_S) : Option (gx_S) :=
  some s
theorem gf_19_220 (x0 : Nat) (s : gx_S) (σ : fx_S) (es : σ = gx s) (q : gx_S) (g0 : fx_oc x0 2 = true) (h : gm_19_220 x0 s = some q) : fm_19_220 x0 σ = some (gx q) := by
  unfold gm_19_220 at h
  unfold fm_19_220
  have h := Option.some.inj h
  subst h
  exact gretv es
def gm_19_201 (x0 : Nat) (x1 : Int) (s : gx_S) : Option (gx_S) :=
  if (-2147483648 ≤ x1 ∧ x1 ≤ 2147483647) then (
  if ¬ x1 = 32 then (
    gm_19_220 x0 s) else (
    (gm_21 x0 32 s).bind fun q4 =>
    if (gb q4.1) = 0 then (
      gm_19_220 x0 q4.2) else (
      (gm_29 x0 q4.2).bind fun q7 =>
      gm_19_220 x0 q7))) else none
theorem gf_19_201 (x0 : Nat) (x1 : Int) (yx1 : Int32) (e1 : yx1 = Int32.ofInt x1) (s : gx_S) (σ : fx_S) (es : σ = gx s) (q : gx_S) (g0 : fx_oc x0 2 = true) (h : gm_19_201 x0 x1 s = some q) : fm_19_201 x0 yx1 σ = some (gx q) := by
  unfold gm_19_201 at h
  unfold fm_19_201
  obtain ⟨z1, h⟩ := fx_gd h
  by_cases c2 : ¬ x1 = 32
  · rw [if_pos c2] at h
    refine gb_t ((gc_ne e1 kg_32 z1 (by decide)).mpr c2) ?_
    exact gf_19_220 _ _ _ es _ g0 h
  · rw [if_neg c2] at h
    refine gb_f (fun q => c2 ((gc_ne e1 kg_32 z1 (by decide)).mp q)) ?_
    obtain ⟨q4, w3, h⟩ := fx_bd h
    refine gb_bind (gf_21 kg_32 es w3) ?_
    by_cases c5 : (gb q4.1) = 0
    · rw [if_pos c5] at h
      refine gb_t ((gc_eq (gb_b q4.1) kg_0 (gb_r _) (by decide)).mpr c5) ?_
      exact gf_19_220 _ _ _ (rfl : _ = gx q4.2) _ g0 h
    · rw [if_neg c5] at h
      refine gb_f (fun q => c5 ((gc_eq (gb_b q4.1) kg_0 (gb_r _) (by decide)).mp q)) ?_
      obtain ⟨q7, w6, h⟩ := fx_bd h
      refine gb_bind (gf_29 (rfl : _ = gx q4.2) w6) ?_
      exact gf_19_220 _ _ _ (rfl : _ = gx q7) _ g0 h
def gm_19_198 (x0 : Nat) (x1 : Int) (s1 : Nat) (s2 : Int) (s : gx_S) : Option (gx_S) :=
  (gm_41 s1 s2 s).bind fun q2 =>
  gm_19_201 x0 x1 q2
theorem gf_19_198 (x0 : Nat) (x1 : Int) (yx1 : Int32) (e1 : yx1 = Int32.ofInt x1) (s1 : Nat) (s2 : Int) (ys2 : Int32) (es2 : ys2 = Int32.ofInt s2) (s : gx_S) (σ : fx_S) (es : σ = gx s) (q : gx_S) (g0 : fx_oc x0 2 = true) (gs1 : fx_oc s1 7 = true) (h : gm_19_198 x0 x1 s1 s2 s = some q) : fm_19_198 x0 yx1 s1 ys2 σ = some (gx q) := by
  unfold gm_19_198 at h
  unfold fm_19_198
  obtain ⟨q2, w1, h⟩ := fx_bd h
  refine gb_bind (gf_41 es2 es w1) ?_
  exact gf_19_201 _ _ _ e1 _ _ (rfl : _ = gx q2) _ g0 h
def gm_19_155 (x0 : Nat) (x1 : Int) (s : gx_S) : Option (gx_S) :=
  if (-2147483648 ≤ x1 ∧ x1 ≤ 2147483647) then (
  if ¬ x1 = 16 then (
    gm_19_201 x0 x1 s) else (
    (gm_21 x0 16 s).bind fun q4 =>
    if (gb q4.1) = 0 then (
      gm_19_201 x0 x1 q4.2) else (
      (gm_26 x0 q4.2).bind fun q7 =>
      if (-2147483648 ≤ (q7.1 1 7) ∧ (q7.1 1 7) ≤ 2147483647) then (
      if ¬ (q7.1 1 7) = 1 then (
        gm_19_198 x0 x1 (x0 + 30) 0 q7) else (
        gm_19_198 x0 x1 (x0 + 30) 1 q7)) else none))) else none
theorem gf_19_155 (x0 : Nat) (x1 : Int) (yx1 : Int32) (e1 : yx1 = Int32.ofInt x1) (s : gx_S) (σ : fx_S) (es : σ = gx s) (q : gx_S) (g0 : fx_oc x0 2 = true) (h : gm_19_155 x0 x1 s = some q) : fm_19_155 x0 yx1 σ = some (gx q) := by
  unfold gm_19_155 at h
  unfold fm_19_155
  obtain ⟨z1, h⟩ := fx_gd h
  by_cases c2 : ¬ x1 = 16
  · rw [if_pos c2] at h
    refine gb_t ((gc_ne e1 kg_16 z1 (by decide)).mpr c2) ?_
    exact gf_19_201 _ _ _ e1 _ _ es _ g0 h
  · rw [if_neg c2] at h
    refine gb_f (fun q => c2 ((gc_ne e1 kg_16 z1 (by decide)).mp q)) ?_
    obtain ⟨q4, w3, h⟩ := fx_bd h
    refine gb_bind (gf_21 kg_16 es w3) ?_
    by_cases c5 : (gb q4.1) = 0
    · rw [if_pos c5] at h
      refine gb_t ((gc_eq (gb_b q4.1) kg_0 (gb_r _) (by decide)).mpr c5) ?_
      exact gf_19_201 _ _ _ e1 _ _ (rfl : _ = gx q4.2) _ g0 h
    · rw [if_neg c5] at h
      refine gb_f (fun q => c5 ((gc_eq (gb_b q4.1) kg_0 (gb_r _) (by decide)).mp q)) ?_
      obtain ⟨q7, w6, h⟩ := fx_bd h
      refine gb_bind (gf_26 (rfl : _ = gx q4.2) w6) ?_
      obtain ⟨z8, h⟩ := fx_gd h
      by_cases c9 : ¬ (q7.1 1 7) = 1
      · rw [if_pos c9] at h
        refine gb_t ((gc_ne (gf1 (rfl : _ = gx q7) 1 7) kg_1 z8 (by decide)).mpr c9) ?_
        exact gf_19_198 _ _ _ e1 _ _ _ kg_0 _ _ (rfl : _ = gx q7) _ g0 (fg_2_5 g0) h
      · rw [if_neg c9] at h
        refine gb_f (fun q => c9 ((gc_ne (gf1 (rfl : _ = gx q7) 1 7) kg_1 z8 (by decide)).mp q)) ?_
        exact gf_19_198 _ _ _ e1 _ _ _ kg_1 _ _ (rfl : _ = gx q7) _ g0 (fg_2_5 g0) h
def gm_19_152 (x0 : Nat) (x1 : Int) (s1 : Nat) (s2 : Int) (s : gx_S) : Option (gx_S) :=
  (gm_41 s1 s2 s).bind fun q2 =>
  gm_19_155 x0 x1 q2
theorem gf_19_152 (x0 : Nat) (x1 : Int) (yx1 : Int32) (e1 : yx1 = Int32.ofInt x1) (s1 : Nat) (s2 : Int) (ys2 : Int32) (es2 : ys2 = Int32.ofInt s2) (s : gx_S) (σ : fx_S) (es : σ = gx s) (q : gx_S) (g0 : fx_oc x0 2 = true) (gs1 : fx_oc s1 7 = true) (h : gm_19_152 x0 x1 s1 s2 s = some q) : fm_19_152 x0 yx1 s1 ys2 σ = some (gx q) := by
  unfold gm_19_152 at h
  unfold fm_19_152
  obtain ⟨q2, w1, h⟩ := fx_bd h
  refine gb_bind (gf_41 es2 es w1) ?_
  exact gf_19_155 _ _ _ e1 _ _ (rfl : _ = gx q2) _ g0 h
def gm_19_115 (x0 : Nat) (x1 : Int) (s : gx_S) : Option (gx_S) :=
  (gm_21 x0 8 s).bind fun q2 =>
  if (gb q2.1) = 0 then (
    gm_19_155 x0 x1 q2.2) else (
    (gm_25 x0 q2.2).bind fun q5 =>
    if (-2147483648 ≤ (q5.1 1 7) ∧ (q5.1 1 7) ≤ 2147483647) then (
    if ¬ (q5.1 1 7) = 1 then (
      gm_19_152 x0 x1 (x0 + 21) 0 q5) else (
      gm_19_152 x0 x1 (x0 + 21) 1 q5)) else none)
theorem gf_19_115 (x0 : Nat) (x1 : Int) (yx1 : Int32) (e1 : yx1 = Int32.ofInt x1) (s : gx_S) (σ : fx_S) (es : σ = gx s) (q : gx_S) (g0 : fx_oc x0 2 = true) (h : gm_19_115 x0 x1 s = some q) : fm_19_115 x0 yx1 σ = some (gx q) := by
  unfold gm_19_115 at h
  unfold fm_19_115
  obtain ⟨q2, w1, h⟩ := fx_bd h
  refine gb_bind (gf_21 kg_8 es w1) ?_
  by_cases c3 : (gb q2.1) = 0
  · rw [if_pos c3] at h
    refine gb_t ((gc_eq (gb_b q2.1) kg_0 (gb_r _) (by decide)).mpr c3) ?_
    exact gf_19_155 _ _ _ e1 _ _ (rfl : _ = gx q2.2) _ g0 h
  · rw [if_neg c3] at h
    refine gb_f (fun q => c3 ((gc_eq (gb_b q2.1) kg_0 (gb_r _) (by decide)).mp q)) ?_
    obtain ⟨q5, w4, h⟩ := fx_bd h
    refine gb_bind (gf_25 (rfl : _ = gx q2.2) w4) ?_
    obtain ⟨z6, h⟩ := fx_gd h
    by_cases c7 : ¬ (q5.1 1 7) = 1
    · rw [if_pos c7] at h
      refine gb_t ((gc_ne (gf1 (rfl : _ = gx q5) 1 7) kg_1 z6 (by decide)).mpr c7) ?_
      exact gf_19_152 _ _ _ e1 _ _ _ kg_0 _ _ (rfl : _ = gx q5) _ g0 (fg_2_4 g0) h
    · rw [if_neg c7] at h
      refine gb_f (fun q => c7 ((gc_ne (gf1 (rfl : _ = gx q5) 1 7) kg_1 z6 (by decide)).mp q)) ?_
      exact gf_19_152 _ _ _ e1 _ _ _ kg_1 _ _ (rfl : _ = gx q5) _ g0 (fg_2_4 g0) h
def gm_19_103 (x0 : Nat) (x1 : Int) (s : gx_S) : Option (gx_S) :=
  if (-2147483648 ≤ x1 ∧ x1 ≤ 2147483647) then (
  if x1 = 8 then (
    gm_19_115 x0 x1 s) else (
    if ¬ x1 = 16 then (
      gm_19_155 x0 x1 s) else (
      gm_19_115 x0 x1 s))) else none
theorem gf_19_103 (x0 : Nat) (x1 : Int) (yx1 : Int32) (e1 : yx1 = Int32.ofInt x1) (s : gx_S) (σ : fx_S) (es : σ = gx s) (q : gx_S) (g0 : fx_oc x0 2 = true) (h : gm_19_103 x0 x1 s = some q) : fm_19_103 x0 yx1 σ = some (gx q) := by
  unfold gm_19_103 at h
  unfold fm_19_103
  obtain ⟨z1, h⟩ := fx_gd h
  by_cases c2 : x1 = 8
  · rw [if_pos c2] at h
    refine gb_t ((gc_eq e1 kg_8 z1 (by decide)).mpr c2) ?_
    exact gf_19_115 _ _ _ e1 _ _ es _ g0 h
  · rw [if_neg c2] at h
    refine gb_f (fun q => c2 ((gc_eq e1 kg_8 z1 (by decide)).mp q)) ?_
    by_cases c3 : ¬ x1 = 16
    · rw [if_pos c3] at h
      refine gb_t ((gc_ne e1 kg_16 z1 (by decide)).mpr c3) ?_
      exact gf_19_155 _ _ _ e1 _ _ es _ g0 h
    · rw [if_neg c3] at h
      refine gb_f (fun q => c3 ((gc_ne e1 kg_16 z1 (by decide)).mp q)) ?_
      exact gf_19_115 _ _ _ e1 _ _ es _ g0 h
def gm_19_100 (x0 : Nat) (x1 : Int) (s1 : Nat) (s2 : Int) (s : gx_S) : Option (gx_S) :=
  (gm_41 s1 s2 s).bind fun q2 =>
  gm_19_103 x0 x1 q2
theorem gf_19_100 (x0 : Nat) (x1 : Int) (yx1 : Int32) (e1 : yx1 = Int32.ofInt x1) (s1 : Nat) (s2 : Int) (ys2 : Int32) (es2 : ys2 = Int32.ofInt s2) (s : gx_S) (σ : fx_S) (es : σ = gx s) (q : gx_S) (g0 : fx_oc x0 2 = true) (gs1 : fx_oc s1 7 = true) (h : gm_19_100 x0 x1 s1 s2 s = some q) : fm_19_100 x0 yx1 s1 ys2 σ = some (gx q) := by
  unfold gm_19_100 at h
  unfold fm_19_100
  obtain ⟨q2, w1, h⟩ := fx_bd h
  refine gb_bind (gf_41 es2 es w1) ?_
  exact gf_19_103 _ _ _ e1 _ _ (rfl : _ = gx q2) _ g0 h
def gm_19_59 (x0 : Nat) (x1 : Int) (s : gx_S) : Option (gx_S) :=
  if (-2147483648 ≤ x1 ∧ x1 ≤ 2147483647) then (
  if ¬ x1 = 4 then (
    gm_19_103 x0 x1 s) else (
    (gm_21 x0 4 s).bind fun q4 =>
    if (gb q4.1) = 0 then (
      gm_19_103 x0 x1 q4.2) else (
      (gm_24 x0 q4.2).bind fun q7 =>
      if (-2147483648 ≤ (q7.1 1 7) ∧ (q7.1 1 7) ≤ 2147483647) then (
      if ¬ (q7.1 1 7) = 1 then (
        gm_19_100 x0 x1 (x0 + 12) 0 q7) else (
        gm_19_100 x0 x1 (x0 + 12) 1 q7)) else none))) else none
theorem gf_19_59 (x0 : Nat) (x1 : Int) (yx1 : Int32) (e1 : yx1 = Int32.ofInt x1) (s : gx_S) (σ : fx_S) (es : σ = gx s) (q : gx_S) (g0 : fx_oc x0 2 = true) (h : gm_19_59 x0 x1 s = some q) : fm_19_59 x0 yx1 σ = some (gx q) := by
  unfold gm_19_59 at h
  unfold fm_19_59
  obtain ⟨z1, h⟩ := fx_gd h
  by_cases c2 : ¬ x1 = 4
  · rw [if_pos c2] at h
    refine gb_t ((gc_ne e1 kg_4 z1 (by decide)).mpr c2) ?_
    exact gf_19_103 _ _ _ e1 _ _ es _ g0 h
  · rw [if_neg c2] at h
    refine gb_f (fun q => c2 ((gc_ne e1 kg_4 z1 (by decide)).mp q)) ?_
    obtain ⟨q4, w3, h⟩ := fx_bd h
    refine gb_bind (gf_21 kg_4 es w3) ?_
    by_cases c5 : (gb q4.1) = 0
    · rw [if_pos c5] at h
      refine gb_t ((gc_eq (gb_b q4.1) kg_0 (gb_r _) (by decide)).mpr c5) ?_
      exact gf_19_103 _ _ _ e1 _ _ (rfl : _ = gx q4.2) _ g0 h
    · rw [if_neg c5] at h
      refine gb_f (fun q => c5 ((gc_eq (gb_b q4.1) kg_0 (gb_r _) (by decide)).mp q)) ?_
      obtain ⟨q7, w6, h⟩ := fx_bd h
      refine gb_bind (gf_24 (rfl : _ = gx q4.2) w6) ?_
      obtain ⟨z8, h⟩ := fx_gd h
      by_cases c9 : ¬ (q7.1 1 7) = 1
      · rw [if_pos c9] at h
        refine gb_t ((gc_ne (gf1 (rfl : _ = gx q7) 1 7) kg_1 z8 (by decide)).mpr c9) ?_
        exact gf_19_100 _ _ _ e1 _ _ _ kg_0 _ _ (rfl : _ = gx q7) _ g0 (fg_2_3 g0) h
      · rw [if_neg c9] at h
        refine gb_f (fun q => c9 ((gc_ne (gf1 (rfl : _ = gx q7) 1 7) kg_1 z8 (by decide)).mp q)) ?_
        exact gf_19_100 _ _ _ e1 _ _ _ kg_1 _ _ (rfl : _ = gx q7) _ g0 (fg_2_3 g0) h
def gm_19_56 (x0 : Nat) (x1 : Int) (s1 : Nat) (s2 : Int) (s : gx_S) : Option (gx_S) :=
  (gm_41 s1 s2 s).bind fun q2 =>
  gm_19_59 x0 x1 q2
theorem gf_19_56 (x0 : Nat) (x1 : Int) (yx1 : Int32) (e1 : yx1 = Int32.ofInt x1) (s1 : Nat) (s2 : Int) (ys2 : Int32) (es2 : ys2 = Int32.ofInt s2) (s : gx_S) (σ : fx_S) (es : σ = gx s) (q : gx_S) (g0 : fx_oc x0 2 = true) (gs1 : fx_oc s1 7 = true) (h : gm_19_56 x0 x1 s1 s2 s = some q) : fm_19_56 x0 yx1 s1 ys2 σ = some (gx q) := by
  unfold gm_19_56 at h
  unfold fm_19_56
  obtain ⟨q2, w1, h⟩ := fx_bd h
  refine gb_bind (gf_41 es2 es w1) ?_
  exact gf_19_59 _ _ _ e1 _ _ (rfl : _ = gx q2) _ g0 h
def gm_19_20 (x0 : Nat) (x1 : Int) (s : gx_S) : Option (gx_S) :=
  (gm_21 x0 2 s).bind fun q2 =>
  if (gb q2.1) = 0 then (
    gm_19_59 x0 x1 q2.2) else (
    (gm_23 x0 q2.2).bind fun q5 =>
    if (-2147483648 ≤ (q5.1 1 7) ∧ (q5.1 1 7) ≤ 2147483647) then (
    if ¬ (q5.1 1 7) = 1 then (
      gm_19_56 x0 x1 (x0 + 3) 0 q5) else (
      gm_19_56 x0 x1 (x0 + 3) 1 q5)) else none)
theorem gf_19_20 (x0 : Nat) (x1 : Int) (yx1 : Int32) (e1 : yx1 = Int32.ofInt x1) (s : gx_S) (σ : fx_S) (es : σ = gx s) (q : gx_S) (g0 : fx_oc x0 2 = true) (h : gm_19_20 x0 x1 s = some q) : fm_19_20 x0 yx1 σ = some (gx q) := by
  unfold gm_19_20 at h
  unfold fm_19_20
  obtain ⟨q2, w1, h⟩ := fx_bd h
  refine gb_bind (gf_21 kg_2 es w1) ?_
  by_cases c3 : (gb q2.1) = 0
  · rw [if_pos c3] at h
    refine gb_t ((gc_eq (gb_b q2.1) kg_0 (gb_r _) (by decide)).mpr c3) ?_
    exact gf_19_59 _ _ _ e1 _ _ (rfl : _ = gx q2.2) _ g0 h
  · rw [if_neg c3] at h
    refine gb_f (fun q => c3 ((gc_eq (gb_b q2.1) kg_0 (gb_r _) (by decide)).mp q)) ?_
    obtain ⟨q5, w4, h⟩ := fx_bd h
    refine gb_bind (gf_23 (rfl : _ = gx q2.2) w4) ?_
    obtain ⟨z6, h⟩ := fx_gd h
    by_cases c7 : ¬ (q5.1 1 7) = 1
    · rw [if_pos c7] at h
      refine gb_t ((gc_ne (gf1 (rfl : _ = gx q5) 1 7) kg_1 z6 (by decide)).mpr c7) ?_
      exact gf_19_56 _ _ _ e1 _ _ _ kg_0 _ _ (rfl : _ = gx q5) _ g0 (fg_2_2 g0) h
    · rw [if_neg c7] at h
      refine gb_f (fun q => c7 ((gc_ne (gf1 (rfl : _ = gx q5) 1 7) kg_1 z6 (by decide)).mp q)) ?_
      exact gf_19_56 _ _ _ e1 _ _ _ kg_1 _ _ (rfl : _ = gx q5) _ g0 (fg_2_2 g0) h
def gm_19 (x0 : Nat) (x1 : Int) (s : gx_S) : Option (gx_S) :=
  if fx_oc x0 2 = true then (
  (gm_20 x0 s).bind fun q58 =>
  if (-2147483648 ≤ x1 ∧ x1 ≤ 2147483647) then (
  if x1 = 2 then (
    gm_19_20 x0 x1 q58) else (
    if x1 = 4 then (
      gm_19_20 x0 x1 q58) else (
      if ¬ x1 = 32 then (
        gm_19_59 x0 x1 q58) else (
        gm_19_20 x0 x1 q58)))) else none) else none
theorem gf_19 {x0 : Nat} {x1 : Int} {yx1 : Int32} (e1 : yx1 = Int32.ofInt x1) {s : gx_S} {σ : fx_S} (es : σ = gx s) {q : gx_S} (h : gm_19 x0 x1 s = some q) : fm_19 x0 yx1 σ = some (gx q) := by
  unfold gm_19 at h
  unfold fm_19
  obtain ⟨gg, h⟩ := fx_gd h
  refine gb_t gg ?_
  have g0 := gg
  obtain ⟨q58, w57, h⟩ := fx_bd h
  refine gb_bind (gf_20 es w57) ?_
  obtain ⟨z59, h⟩ := fx_gd h
  by_cases c60 : x1 = 2
  · rw [if_pos c60] at h
    refine gb_t ((gc_eq e1 kg_2 z59 (by decide)).mpr c60) ?_
    exact gf_19_20 _ _ _ e1 _ _ (rfl : _ = gx q58) _ g0 h
  · rw [if_neg c60] at h
    refine gb_f (fun q => c60 ((gc_eq e1 kg_2 z59 (by decide)).mp q)) ?_
    by_cases c61 : x1 = 4
    · rw [if_pos c61] at h
      refine gb_t ((gc_eq e1 kg_4 z59 (by decide)).mpr c61) ?_
      exact gf_19_20 _ _ _ e1 _ _ (rfl : _ = gx q58) _ g0 h
    · rw [if_neg c61] at h
      refine gb_f (fun q => c61 ((gc_eq e1 kg_4 z59 (by decide)).mp q)) ?_
      by_cases c62 : ¬ x1 = 32
      · rw [if_pos c62] at h
        refine gb_t ((gc_ne e1 kg_32 z59 (by decide)).mpr c62) ?_
        exact gf_19_59 _ _ _ e1 _ _ (rfl : _ = gx q58) _ g0 h
      · rw [if_neg c62] at h
        refine gb_f (fun q => c62 ((gc_ne e1 kg_32 z59 (by decide)).mp q)) ?_
        exact gf_19_20 _ _ _ e1 _ _ (rfl : _ = gx q58) _ g0 h

/-! ZoneShares.adopt()I -/
def gm_93_44 : Nat → Int → Int → gx_S → Option (Int × gx_S)
  | 0, _, _, _ => none
  | n + 1, x1, x2, s =>
    if (-2147483648 ≤ x2 ∧ x2 ≤ 2147483647) then (
    if 3 ≤ x2 then (
      some (x1, (gcp s 2 96 2 0 96))) else (
      (gm_122 x2 s).bind fun q6 =>
      gm_93_44 n (x1 + q6.1) (x2 + 1) q6.2)) else none
theorem gf_93_44 : ∀ (n : Nat) (x1 : Int) (yx1 : Int32) (e1 : yx1 = Int32.ofInt x1) (x2 : Int) (yx2 : Int32) (e2 : yx2 = Int32.ofInt x2) (s : gx_S) (σ : fx_S) (es : σ = gx s) (q : Int × gx_S), gm_93_44 n x1 x2 s = some q → fm_93_44 n yx1 yx2 σ = some (Int32.ofInt q.1, gx q.2) := by
  intro n
  induction n with
  | zero =>
    intro x1 yx1 e1 x2 yx2 e2 s σ es q  h
    rw [gm_93_44] at h
    exact fx_no h
  | succ n ih =>
    intro x1 yx1 e1 x2 yx2 e2 s σ es q  h
    rw [gm_93_44] at h
    rw [fm_93_44]
    obtain ⟨z1, h⟩ := fx_gd h
    by_cases c2 : 3 ≤ x2
    · rw [if_pos c2] at h
      refine gb_t ((gc_le kg_3 e2 (by decide) z1).mpr c2) ?_
      refine gb_bind (gl_cpy es kg_96 kg_0 kg_96 ga_2 ga_2 (by decide)) ?_
      have h := Option.some.inj h
      subst h
      exact gret e1 (rfl : _ = gx (gcp s 2 96 2 0 96))
    · rw [if_neg c2] at h
      refine gb_f (fun q => c2 ((gc_le kg_3 e2 (by decide) z1).mp q)) ?_
      obtain ⟨q6, w5, h⟩ := fx_bd h
      refine gb_bind (gf_122 e2 es w5) ?_
      exact ih _ _ (ga_add e1 (gr q6.1)) _ _ (ga_add e2 kg_1) _ _ (rfl : _ = gx q6.2) _ h
def gm_93_14 : Nat → Int → gx_S → Option (Int × gx_S)
  | 0, _, _ => none
  | n + 1, x1, s =>
    if (-2147483648 ≤ x1 ∧ x1 ≤ 2147483647) then (
    if 3 ≤ x1 then (
      (gm_119 s).bind fun q4 =>
      gm_93_44 100000 0 0 q4) else (
      if 0 ≤ x1 ∧ x1 < 3 then (
      (some (fx_rf 70 (x1).toNat)).bind fun v5 =>
      (gm_19 v5 2 s).bind fun q10 =>
      gm_93_14 n (x1 + 1) q10) else none)) else none
theorem gf_93_14 : ∀ (n : Nat) (x1 : Int) (yx1 : Int32) (e1 : yx1 = Int32.ofInt x1) (s : gx_S) (σ : fx_S) (es : σ = gx s) (q : Int × gx_S), gm_93_14 n x1 s = some q → fm_93_14 n yx1 σ = some (Int32.ofInt q.1, gx q.2) := by
  intro n
  induction n with
  | zero =>
    intro x1 yx1 e1 s σ es q  h
    rw [gm_93_14] at h
    exact fx_no h
  | succ n ih =>
    intro x1 yx1 e1 s σ es q  h
    rw [gm_93_14] at h
    rw [fm_93_14]
    obtain ⟨z1, h⟩ := fx_gd h
    by_cases c2 : 3 ≤ x1
    · rw [if_pos c2] at h
      refine gb_t ((gc_le kg_3 e1 (by decide) z1).mpr c2) ?_
      obtain ⟨q4, w3, h⟩ := fx_bd h
      refine gb_bind (gf_119 es w3) ?_
      exact gf_93_44 100000 _ _ kg_0 _ _ kg_0 _ _ (rfl : _ = gx q4) _ h
    · rw [if_neg c2] at h
      refine gb_f (fun q => c2 ((gc_le kg_3 e1 (by decide) z1).mp q)) ?_
      obtain ⟨z8, h⟩ := fx_gd h
      obtain ⟨v5, w6, h⟩ := fx_bd h
      have g7 := fa_70 ((gl_ldr (t := 4) e1 ga_70 z8).trans w6)
      refine gb_bind ((gl_ldr e1 ga_70 z8).trans w6) ?_
      obtain ⟨q10, w9, h⟩ := fx_bd h
      refine gb_bind (gf_19 kg_2 es w9) ?_
      exact ih _ _ (ga_add e1 kg_1) _ _ (rfl : _ = gx q10) _ h
def gm_93 (s : gx_S) : Option (Int × gx_S) :=
  (gm_57 1 s).bind fun q21 =>
  if ¬ (gb q21.1) = 0 then (
    gm_93_14 100000 0 q21.2) else (
    some ((-1), q21.2))
theorem gf_93 {s : gx_S} {σ : fx_S} (es : σ = gx s) {q : Int × gx_S} (h : gm_93 s = some q) : fm_93 σ = some (Int32.ofInt q.1, gx q.2) := by
  unfold gm_93 at h
  unfold fm_93
  obtain ⟨q21, w20, h⟩ := fx_bd h
  refine gb_bind (gf_57 es w20) ?_
  by_cases c22 : ¬ (gb q21.1) = 0
  · rw [if_pos c22] at h
    refine gb_t ((gc_ne (gb_b q21.1) kg_0 (gb_r _) (by decide)).mpr c22) ?_
    exact gf_93_14 100000 _ _ kg_0 _ _ (rfl : _ = gx q21.2) _ h
  · rw [if_neg c22] at h
    refine gb_f (fun q => c22 ((gc_ne (gb_b q21.1) kg_0 (gb_r _) (by decide)).mp q)) ?_
    have h := Option.some.inj h
    subst h
    exact gret kg_m1 (rfl : _ = gx q21.2)

/-! ZoneShares.share(IIII)I -/
def gm_98 (x1 : Int) (x2 : Int) (x3 : Int) (x4 : Int) (s : gx_S) : Option (Int × gx_S) :=
  (gm_118 x1 x3 s).bind fun q28 =>
  if (gb q28.1) = 0 then (
    some ((-1), q28.2)) else (
    (gm_115 x2 q28.2).bind fun q31 =>
    if (gb q31.1) = 0 then (
      some ((-1), q31.2)) else (
      if (-2147483648 ≤ x4 ∧ x4 ≤ 2147483647) then (
      if x4 < 0 then (
        some ((-1), q31.2)) else (
        if x4 ≤ 1 then (
          if 0 ≤ x1 ∧ x1 < 3 then (
          (some (fx_rf 70 (x1).toNat)).bind fun v36 =>
          (gm_19 v36 2 q31.2).bind fun q41 =>
          if 0 ≤ x2 ∧ x2 < 8 then (
          if (-2147483648 ≤ (q41.1 ((v36 + 3) + 2) (x2).toNat) ∧ (q41.1 ((v36 + 3) + 2) (x2).toNat) ≤ 2147483647) then (
          if ¬ (q41.1 ((v36 + 3) + 2) (x2).toNat) = 0 then (
            if 0 ≤ ((x2 * 9) + x3) ∧ ((x2 * 9) + x3) < 72 then (
            if (-2147483648 ≤ (q41.1 ((v36 + 3) + 4) (((x2 * 9) + x3)).toNat) ∧ (q41.1 ((v36 + 3) + 4) (((x2 * 9) + x3)).toNat) ≤ 2147483647) then (
            (gm_127 (q41.1 ((v36 + 3) + 4) (((x2 * 9) + x3)).toNat) (q41.1 ((v36 + 3) + 2) (x2).toNat) x4 q41).bind fun q52 =>
            some (q52.1, q52.2)) else none) else none) else (
            some ((-1), q41))) else none) else none) else none) else (
          some ((-1), q31.2)))) else none))
theorem gf_98 {x1 : Int} {yx1 : Int32} (e1 : yx1 = Int32.ofInt x1) {x2 : Int} {yx2 : Int32} (e2 : yx2 = Int32.ofInt x2) {x3 : Int} {yx3 : Int32} (e3 : yx3 = Int32.ofInt x3) {x4 : Int} {yx4 : Int32} (e4 : yx4 = Int32.ofInt x4) {s : gx_S} {σ : fx_S} (es : σ = gx s) {q : Int × gx_S} (h : gm_98 x1 x2 x3 x4 s = some q) : fm_98 yx1 yx2 yx3 yx4 σ = some (Int32.ofInt q.1, gx q.2) := by
  unfold gm_98 at h
  unfold fm_98
  obtain ⟨q28, w27, h⟩ := fx_bd h
  refine gb_bind (gf_118 e1 e3 es w27) ?_
  by_cases c29 : (gb q28.1) = 0
  · rw [if_pos c29] at h
    refine gb_t ((gc_eq (gb_b q28.1) kg_0 (gb_r _) (by decide)).mpr c29) ?_
    have h := Option.some.inj h
    subst h
    exact gret kg_m1 (rfl : _ = gx q28.2)
  · rw [if_neg c29] at h
    refine gb_f (fun q => c29 ((gc_eq (gb_b q28.1) kg_0 (gb_r _) (by decide)).mp q)) ?_
    obtain ⟨q31, w30, h⟩ := fx_bd h
    refine gb_bind (gf_115 e2 (rfl : _ = gx q28.2) w30) ?_
    by_cases c32 : (gb q31.1) = 0
    · rw [if_pos c32] at h
      refine gb_t ((gc_eq (gb_b q31.1) kg_0 (gb_r _) (by decide)).mpr c32) ?_
      have h := Option.some.inj h
      subst h
      exact gret kg_m1 (rfl : _ = gx q31.2)
    · rw [if_neg c32] at h
      refine gb_f (fun q => c32 ((gc_eq (gb_b q31.1) kg_0 (gb_r _) (by decide)).mp q)) ?_
      obtain ⟨z33, h⟩ := fx_gd h
      by_cases c34 : x4 < 0
      · rw [if_pos c34] at h
        refine gb_t ((gc_lt e4 kg_0 z33 (by decide)).mpr c34) ?_
        have h := Option.some.inj h
        subst h
        exact gret kg_m1 (rfl : _ = gx q31.2)
      · rw [if_neg c34] at h
        refine gb_f (fun q => c34 ((gc_lt e4 kg_0 z33 (by decide)).mp q)) ?_
        by_cases c35 : x4 ≤ 1
        · rw [if_pos c35] at h
          refine gb_t ((gc_le e4 kg_1 z33 (by decide)).mpr c35) ?_
          obtain ⟨z39, h⟩ := fx_gd h
          obtain ⟨v36, w37, h⟩ := fx_bd h
          have g38 := fa_70 ((gl_ldr (t := 4) e1 ga_70 z39).trans w37)
          refine gb_bind ((gl_ldr e1 ga_70 z39).trans w37) ?_
          obtain ⟨q41, w40, h⟩ := fx_bd h
          refine gb_bind (gf_19 kg_2 (rfl : _ = gx q31.2) w40) ?_
          obtain ⟨z44, h⟩ := fx_gd h
          refine gb_bind (gl_ld (rfl : _ = gx q41) e2 (ga_7_1 (fg_2_2 g38)) z44) ?_
          obtain ⟨z45, h⟩ := fx_gd h
          by_cases c46 : ¬ (q41.1 ((v36 + 3) + 2) (x2).toNat) = 0
          · rw [if_pos c46] at h
            refine gb_t ((gc_ne (gr (q41.1 ((v36 + 3) + 2) (x2).toNat)) kg_0 z45 (by decide)).mpr c46) ?_
            obtain ⟨z49, h⟩ := fx_gd h
            refine gb_bind (gl_ld (rfl : _ = gx q41) (ga_add (ga_mul e2 kg_9) e3) (ga_7_3 (fg_2_2 g38)) z49) ?_
            obtain ⟨z50, h⟩ := fx_gd h
            obtain ⟨q52, w51, h⟩ := fx_bd h
            refine gb_bind (gf_127 (ga_i2l (gr (q41.1 ((v36 + 3) + 4) (((x2 * 9) + x3)).toNat)) z50) (ga_i2l (gr (q41.1 ((v36 + 3) + 2) (x2).toNat)) z45) e4 (rfl : _ = gx q41) w51) ?_
            have h := Option.some.inj h
            subst h
            exact gret (ga_l2i (gr2 q52.1)) (rfl : _ = gx q52.2)
          · rw [if_neg c46] at h
            refine gb_f (fun q => c46 ((gc_ne (gr (q41.1 ((v36 + 3) + 2) (x2).toNat)) kg_0 z45 (by decide)).mp q)) ?_
            have h := Option.some.inj h
            subst h
            exact gret kg_m1 (rfl : _ = gx q41)
        · rw [if_neg c35] at h
          refine gb_f (fun q => c35 ((gc_le e4 kg_1 z33 (by decide)).mp q)) ?_
          have h := Option.some.inj h
          subst h
          exact gret kg_m1 (rfl : _ = gx q31.2)

/-! ZoneShares.moved(III)I -/
def gm_99_124 (k_113 : Nat → Int → Int → Int → Int → Int → gx_S → Option (Int × gx_S)) : Nat → Nat → Int → Int → Int → Int → Int → Int → gx_S → Option (Int × gx_S)
  | 0, _, _, _, _, _, _, _, _ => none
  | n + 1, x4, x6, x7, x8, x9, x10, x11, s =>
    if (-2147483648 ≤ x11 ∧ x11 ≤ 2147483647) then (
    if (-2147483648 ≤ x8 ∧ x8 ≤ 2147483647) then (
    if x8 < x11 then (
      k_113 x4 x6 x7 x8 x9 (x10 + 1) s) else (
      if 0 ≤ ((x10 * 9) + x11) ∧ ((x10 * 9) + x11) < 72 then (
      gm_99_124 k_113 n x4 x6 x7 x8 (x9 + (s.1 ((x4 + 3) + 8) (((x10 * 9) + x11)).toNat)) x10 (x11 + 1) s) else none)) else none) else none
theorem gf_99_124 {kf_113 : Nat → Int32 → Int32 → Int32 → Int32 → Int32 → fx_S → Option (Int32 × fx_S)} {kg_113 : Nat → Int → Int → Int → Int → Int → gx_S → Option (Int × gx_S)} (hk_113 : ∀ (x4 : Nat) (x6 : Int) (yx6 : Int32) (e6 : yx6 = Int32.ofInt x6) (x7 : Int) (yx7 : Int32) (e7 : yx7 = Int32.ofInt x7) (x8 : Int) (yx8 : Int32) (e8 : yx8 = Int32.ofInt x8) (x9 : Int) (yx9 : Int32) (e9 : yx9 = Int32.ofInt x9) (x10 : Int) (yx10 : Int32) (e10 : yx10 = Int32.ofInt x10) (s : gx_S) (σ : fx_S) (es : σ = gx s) (q : Int × gx_S) (g4 : fx_oc x4 2 = true), kg_113 x4 x6 x7 x8 x9 x10 s = some q → kf_113 x4 yx6 yx7 yx8 yx9 yx10 σ = some (Int32.ofInt q.1, gx q.2)) : ∀ (n : Nat) (x4 : Nat) (x6 : Int) (yx6 : Int32) (e6 : yx6 = Int32.ofInt x6) (x7 : Int) (yx7 : Int32) (e7 : yx7 = Int32.ofInt x7) (x8 : Int) (yx8 : Int32) (e8 : yx8 = Int32.ofInt x8) (x9 : Int) (yx9 : Int32) (e9 : yx9 = Int32.ofInt x9) (x10 : Int) (yx10 : Int32) (e10 : yx10 = Int32.ofInt x10) (x11 : Int) (yx11 : Int32) (e11 : yx11 = Int32.ofInt x11) (s : gx_S) (σ : fx_S) (es : σ = gx s) (q : Int × gx_S) (g4 : fx_oc x4 2 = true), gm_99_124 kg_113 n x4 x6 x7 x8 x9 x10 x11 s = some q → fm_99_124 kf_113 n x4 yx6 yx7 yx8 yx9 yx10 yx11 σ = some (Int32.ofInt q.1, gx q.2) := by
  intro n
  induction n with
  | zero =>
    intro x4 x6 yx6 e6 x7 yx7 e7 x8 yx8 e8 x9 yx9 e9 x10 yx10 e10 x11 yx11 e11 s σ es q g4 h
    rw [gm_99_124] at h
    exact fx_no h
  | succ n ih =>
    intro x4 x6 yx6 e6 x7 yx7 e7 x8 yx8 e8 x9 yx9 e9 x10 yx10 e10 x11 yx11 e11 s σ es q g4 h
    rw [gm_99_124] at h
    rw [fm_99_124]
    obtain ⟨z1, h⟩ := fx_gd h
    obtain ⟨z2, h⟩ := fx_gd h
    by_cases c3 : x8 < x11
    · rw [if_pos c3] at h
      refine gb_t ((gc_lt e8 e11 z2 z1).mpr c3) ?_
      exact hk_113 _ _ _ e6 _ _ e7 _ _ e8 _ _ e9 _ _ (ga_add e10 kg_1) _ _ es _ g4 h
    · rw [if_neg c3] at h
      refine gb_f (fun q => c3 ((gc_lt e8 e11 z2 z1).mp q)) ?_
      obtain ⟨z6, h⟩ := fx_gd h
      refine gb_bind (gl_ld es (ga_add (ga_mul e10 kg_9) e11) (ga_7_7 (fg_2_2 g4)) z6) ?_
      exact ih _ _ _ e6 _ _ e7 _ _ e8 _ _ (ga_add e9 (gr (s.1 ((x4 + 3) + 8) (((x10 * 9) + x11)).toNat))) _ _ e10 _ _ (ga_add e11 kg_1) _ _ es _ g4 h
def gm_99_113 : Nat → Nat → Int → Int → Int → Int → Int → gx_S → Option (Int × gx_S)
  | 0, _, _, _, _, _, _, _ => none
  | n + 1, x4, x6, x7, x8, x9, x10, s =>
    if (-2147483648 ≤ x10 ∧ x10 ≤ 2147483647) then (
    if (-2147483648 ≤ x6 ∧ x6 ≤ 2147483647) then (
    if x6 < x10 then (
      some (x9, s)) else (
      gm_99_124 (gm_99_113 n) 100000 x4 x6 x7 x8 x9 x10 x7 s)) else none) else none
theorem gf_99_113 : ∀ (n : Nat) (x4 : Nat) (x6 : Int) (yx6 : Int32) (e6 : yx6 = Int32.ofInt x6) (x7 : Int) (yx7 : Int32) (e7 : yx7 = Int32.ofInt x7) (x8 : Int) (yx8 : Int32) (e8 : yx8 = Int32.ofInt x8) (x9 : Int) (yx9 : Int32) (e9 : yx9 = Int32.ofInt x9) (x10 : Int) (yx10 : Int32) (e10 : yx10 = Int32.ofInt x10) (s : gx_S) (σ : fx_S) (es : σ = gx s) (q : Int × gx_S) (g4 : fx_oc x4 2 = true), gm_99_113 n x4 x6 x7 x8 x9 x10 s = some q → fm_99_113 n x4 yx6 yx7 yx8 yx9 yx10 σ = some (Int32.ofInt q.1, gx q.2) := by
  intro n
  induction n with
  | zero =>
    intro x4 x6 yx6 e6 x7 yx7 e7 x8 yx8 e8 x9 yx9 e9 x10 yx10 e10 s σ es q g4 h
    rw [gm_99_113] at h
    exact fx_no h
  | succ n ih =>
    intro x4 x6 yx6 e6 x7 yx7 e7 x8 yx8 e8 x9 yx9 e9 x10 yx10 e10 s σ es q g4 h
    rw [gm_99_113] at h
    rw [fm_99_113]
    obtain ⟨z1, h⟩ := fx_gd h
    obtain ⟨z2, h⟩ := fx_gd h
    by_cases c3 : x6 < x10
    · rw [if_pos c3] at h
      refine gb_t ((gc_lt e6 e10 z2 z1).mpr c3) ?_
      have h := Option.some.inj h
      subst h
      exact gret e9 es
    · rw [if_neg c3] at h
      refine gb_f (fun q => c3 ((gc_lt e6 e10 z2 z1).mp q)) ?_
      exact gf_99_124 ih 100000 _ _ _ e6 _ _ e7 _ _ e8 _ _ e9 _ _ e10 _ _ e7 _ _ es _ g4 h
def gm_99_104 (x4 : Nat) (x5 : Int) (x6 : Int) (x7 : Int) (s0 : Int) (s : gx_S) : Option (Int × gx_S) :=
  gm_99_113 100000 x4 x6 x7 s0 0 x5 s
theorem gf_99_104 (x4 : Nat) (x5 : Int) (yx5 : Int32) (e5 : yx5 = Int32.ofInt x5) (x6 : Int) (yx6 : Int32) (e6 : yx6 = Int32.ofInt x6) (x7 : Int) (yx7 : Int32) (e7 : yx7 = Int32.ofInt x7) (s0 : Int) (ys0 : Int32) (es0 : ys0 = Int32.ofInt s0) (s : gx_S) (σ : fx_S) (es : σ = gx s) (q : Int × gx_S) (g4 : fx_oc x4 2 = true) (h : gm_99_104 x4 x5 x6 x7 s0 s = some q) : fm_99_104 x4 yx5 yx6 yx7 ys0 σ = some (Int32.ofInt q.1, gx q.2) := by
  unfold gm_99_104 at h
  unfold fm_99_104
  exact gf_99_113 100000 _ _ _ e6 _ _ e7 _ _ es0 _ _ kg_0 _ _ e5 _ _ es _ g4 h
def gm_99_91 (x3 : Int) (x4 : Nat) (x5 : Int) (x6 : Int) (s0 : Int) (s : gx_S) : Option (Int × gx_S) :=
  if (-2147483648 ≤ x3 ∧ x3 ≤ 2147483647) then (
  if ¬ x3 = (-1) then (
    gm_99_104 x4 x5 x6 s0 x3 s) else (
    gm_99_104 x4 x5 x6 s0 8 s)) else none
theorem gf_99_91 (x3 : Int) (yx3 : Int32) (e3 : yx3 = Int32.ofInt x3) (x4 : Nat) (x5 : Int) (yx5 : Int32) (e5 : yx5 = Int32.ofInt x5) (x6 : Int) (yx6 : Int32) (e6 : yx6 = Int32.ofInt x6) (s0 : Int) (ys0 : Int32) (es0 : ys0 = Int32.ofInt s0) (s : gx_S) (σ : fx_S) (es : σ = gx s) (q : Int × gx_S) (g4 : fx_oc x4 2 = true) (h : gm_99_91 x3 x4 x5 x6 s0 s = some q) : fm_99_91 yx3 x4 yx5 yx6 ys0 σ = some (Int32.ofInt q.1, gx q.2) := by
  unfold gm_99_91 at h
  unfold fm_99_91
  obtain ⟨z1, h⟩ := fx_gd h
  by_cases c2 : ¬ x3 = (-1)
  · rw [if_pos c2] at h
    refine gb_t ((gc_ne e3 kg_m1 z1 (by decide)).mpr c2) ?_
    exact gf_99_104 _ _ _ e5 _ _ e6 _ _ es0 _ _ e3 _ _ es _ g4 h
  · rw [if_neg c2] at h
    refine gb_f (fun q => c2 ((gc_ne e3 kg_m1 z1 (by decide)).mp q)) ?_
    exact gf_99_104 _ _ _ e5 _ _ e6 _ _ es0 _ _ kg_8 _ _ es _ g4 h
def gm_99_79 (x3 : Int) (x4 : Nat) (x5 : Int) (s0 : Int) (s : gx_S) : Option (Int × gx_S) :=
  if (-2147483648 ≤ x3 ∧ x3 ≤ 2147483647) then (
  if ¬ x3 = (-1) then (
    gm_99_91 x3 x4 x5 s0 x3 s) else (
    gm_99_91 x3 x4 x5 s0 0 s)) else none
theorem gf_99_79 (x3 : Int) (yx3 : Int32) (e3 : yx3 = Int32.ofInt x3) (x4 : Nat) (x5 : Int) (yx5 : Int32) (e5 : yx5 = Int32.ofInt x5) (s0 : Int) (ys0 : Int32) (es0 : ys0 = Int32.ofInt s0) (s : gx_S) (σ : fx_S) (es : σ = gx s) (q : Int × gx_S) (g4 : fx_oc x4 2 = true) (h : gm_99_79 x3 x4 x5 s0 s = some q) : fm_99_79 yx3 x4 yx5 ys0 σ = some (Int32.ofInt q.1, gx q.2) := by
  unfold gm_99_79 at h
  unfold fm_99_79
  obtain ⟨z1, h⟩ := fx_gd h
  by_cases c2 : ¬ x3 = (-1)
  · rw [if_pos c2] at h
    refine gb_t ((gc_ne e3 kg_m1 z1 (by decide)).mpr c2) ?_
    exact gf_99_91 _ _ e3 _ _ _ e5 _ _ es0 _ _ e3 _ _ es _ g4 h
  · rw [if_neg c2] at h
    refine gb_f (fun q => c2 ((gc_ne e3 kg_m1 z1 (by decide)).mp q)) ?_
    exact gf_99_91 _ _ e3 _ _ _ e5 _ _ es0 _ _ kg_0 _ _ es _ g4 h
def gm_99_66 (x2 : Int) (x3 : Int) (x4 : Nat) (s0 : Int) (s : gx_S) : Option (Int × gx_S) :=
  if (-2147483648 ≤ x2 ∧ x2 ≤ 2147483647) then (
  if ¬ x2 = (-1) then (
    gm_99_79 x3 x4 s0 x2 s) else (
    gm_99_79 x3 x4 s0 7 s)) else none
theorem gf_99_66 (x2 : Int) (yx2 : Int32) (e2 : yx2 = Int32.ofInt x2) (x3 : Int) (yx3 : Int32) (e3 : yx3 = Int32.ofInt x3) (x4 : Nat) (s0 : Int) (ys0 : Int32) (es0 : ys0 = Int32.ofInt s0) (s : gx_S) (σ : fx_S) (es : σ = gx s) (q : Int × gx_S) (g4 : fx_oc x4 2 = true) (h : gm_99_66 x2 x3 x4 s0 s = some q) : fm_99_66 yx2 yx3 x4 ys0 σ = some (Int32.ofInt q.1, gx q.2) := by
  unfold gm_99_66 at h
  unfold fm_99_66
  obtain ⟨z1, h⟩ := fx_gd h
  by_cases c2 : ¬ x2 = (-1)
  · rw [if_pos c2] at h
    refine gb_t ((gc_ne e2 kg_m1 z1 (by decide)).mpr c2) ?_
    exact gf_99_79 _ _ e3 _ _ _ es0 _ _ e2 _ _ es _ g4 h
  · rw [if_neg c2] at h
    refine gb_f (fun q => c2 ((gc_ne e2 kg_m1 z1 (by decide)).mp q)) ?_
    exact gf_99_79 _ _ e3 _ _ _ es0 _ _ kg_7 _ _ es _ g4 h
def gm_99 (x1 : Int) (x2 : Int) (x3 : Int) (s : gx_S) : Option (Int × gx_S) :=
  (gm_114 x1 s).bind fun q39 =>
  if (gb q39.1) = 0 then (
    some ((-1), q39.2)) else (
    (gm_57 1 q39.2).bind fun q42 =>
    if (gb q42.1) = 0 then (
      some ((-1), q42.2)) else (
      if (-2147483648 ≤ x2 ∧ x2 ≤ 2147483647) then (
      if x2 < (-1) then (
        some ((-1), q42.2)) else (
        if 8 ≤ x2 then (
          some ((-1), q42.2)) else (
          if (-2147483648 ≤ x3 ∧ x3 ≤ 2147483647) then (
          if x3 < (-1) then (
            some ((-1), q42.2)) else (
            if x3 ≤ 8 then (
              if 0 ≤ x1 ∧ x1 < 3 then (
              (some (fx_rf 70 (x1).toNat)).bind fun v50 =>
              (gm_19 v50 2 q42.2).bind fun q55 =>
              if ¬ x2 = (-1) then (
                gm_99_66 x2 x3 v50 x2 q55) else (
                gm_99_66 x2 x3 v50 0 q55)) else none) else (
              some ((-1), q42.2)))) else none))) else none))
theorem gf_99 {x1 : Int} {yx1 : Int32} (e1 : yx1 = Int32.ofInt x1) {x2 : Int} {yx2 : Int32} (e2 : yx2 = Int32.ofInt x2) {x3 : Int} {yx3 : Int32} (e3 : yx3 = Int32.ofInt x3) {s : gx_S} {σ : fx_S} (es : σ = gx s) {q : Int × gx_S} (h : gm_99 x1 x2 x3 s = some q) : fm_99 yx1 yx2 yx3 σ = some (Int32.ofInt q.1, gx q.2) := by
  unfold gm_99 at h
  unfold fm_99
  obtain ⟨q39, w38, h⟩ := fx_bd h
  refine gb_bind (gf_114 e1 es w38) ?_
  by_cases c40 : (gb q39.1) = 0
  · rw [if_pos c40] at h
    refine gb_t ((gc_eq (gb_b q39.1) kg_0 (gb_r _) (by decide)).mpr c40) ?_
    have h := Option.some.inj h
    subst h
    exact gret kg_m1 (rfl : _ = gx q39.2)
  · rw [if_neg c40] at h
    refine gb_f (fun q => c40 ((gc_eq (gb_b q39.1) kg_0 (gb_r _) (by decide)).mp q)) ?_
    obtain ⟨q42, w41, h⟩ := fx_bd h
    refine gb_bind (gf_57 (rfl : _ = gx q39.2) w41) ?_
    by_cases c43 : (gb q42.1) = 0
    · rw [if_pos c43] at h
      refine gb_t ((gc_eq (gb_b q42.1) kg_0 (gb_r _) (by decide)).mpr c43) ?_
      have h := Option.some.inj h
      subst h
      exact gret kg_m1 (rfl : _ = gx q42.2)
    · rw [if_neg c43] at h
      refine gb_f (fun q => c43 ((gc_eq (gb_b q42.1) kg_0 (gb_r _) (by decide)).mp q)) ?_
      obtain ⟨z44, h⟩ := fx_gd h
      by_cases c45 : x2 < (-1)
      · rw [if_pos c45] at h
        refine gb_t ((gc_lt e2 kg_m1 z44 (by decide)).mpr c45) ?_
        have h := Option.some.inj h
        subst h
        exact gret kg_m1 (rfl : _ = gx q42.2)
      · rw [if_neg c45] at h
        refine gb_f (fun q => c45 ((gc_lt e2 kg_m1 z44 (by decide)).mp q)) ?_
        by_cases c46 : 8 ≤ x2
        · rw [if_pos c46] at h
          refine gb_t ((gc_le kg_8 e2 (by decide) z44).mpr c46) ?_
          have h := Option.some.inj h
          subst h
          exact gret kg_m1 (rfl : _ = gx q42.2)
        · rw [if_neg c46] at h
          refine gb_f (fun q => c46 ((gc_le kg_8 e2 (by decide) z44).mp q)) ?_
          obtain ⟨z47, h⟩ := fx_gd h
          by_cases c48 : x3 < (-1)
          · rw [if_pos c48] at h
            refine gb_t ((gc_lt e3 kg_m1 z47 (by decide)).mpr c48) ?_
            have h := Option.some.inj h
            subst h
            exact gret kg_m1 (rfl : _ = gx q42.2)
          · rw [if_neg c48] at h
            refine gb_f (fun q => c48 ((gc_lt e3 kg_m1 z47 (by decide)).mp q)) ?_
            by_cases c49 : x3 ≤ 8
            · rw [if_pos c49] at h
              refine gb_t ((gc_le e3 kg_8 z47 (by decide)).mpr c49) ?_
              obtain ⟨z53, h⟩ := fx_gd h
              obtain ⟨v50, w51, h⟩ := fx_bd h
              have g52 := fa_70 ((gl_ldr (t := 4) e1 ga_70 z53).trans w51)
              refine gb_bind ((gl_ldr e1 ga_70 z53).trans w51) ?_
              obtain ⟨q55, w54, h⟩ := fx_bd h
              refine gb_bind (gf_19 kg_2 (rfl : _ = gx q42.2) w54) ?_
              by_cases c56 : ¬ x2 = (-1)
              · rw [if_pos c56] at h
                refine gb_t ((gc_ne e2 kg_m1 z44 (by decide)).mpr c56) ?_
                exact gf_99_66 _ _ e2 _ _ e3 _ _ _ e2 _ _ (rfl : _ = gx q55) _ g52 h
              · rw [if_neg c56] at h
                refine gb_f (fun q => c56 ((gc_ne e2 kg_m1 z44 (by decide)).mp q)) ?_
                exact gf_99_66 _ _ e2 _ _ e3 _ _ _ kg_0 _ _ (rfl : _ = gx q55) _ g52 h
            · rw [if_neg c49] at h
              refine gb_f (fun q => c49 ((gc_le e3 kg_8 z47 (by decide)).mp q)) ?_
              have h := Option.some.inj h
              subst h
              exact gret kg_m1 (rfl : _ = gx q42.2)

/-! ZoneShares.exact(III)J -/
def gm_100_18 (s : gx_S) : Option (Int × gx_S) :=
  some ((-1), s)
theorem gf_100_18 (s : gx_S) (σ : fx_S) (es : σ = gx s) (q : Int × gx_S) (h : gm_100_18 s = some q) : fm_100_18 σ = some (Int64.ofInt q.1, gx q.2) := by
  unfold gm_100_18 at h
  unfold fm_100_18
  have h := Option.some.inj h
  subst h
  exact gretl kgl_m1 es
def gm_100 (x1 : Int) (x2 : Int) (x3 : Int) (s : gx_S) : Option (Int × gx_S) :=
  (gm_118 x1 x2 s).bind fun q30 =>
  if (gb q30.1) = 0 then (
    gm_100_18 q30.2) else (
    if (-2147483648 ≤ x3 ∧ x3 ≤ 2147483647) then (
    if x3 < 0 then (
      gm_100_18 q30.2) else (
      if x3 ≤ 2 then (
        if 0 ≤ x1 ∧ x1 < 3 then (
        (some (fx_rf 70 (x1).toNat)).bind fun v35 =>
        (gm_19 v35 2 q30.2).bind fun q40 =>
        (gm_78 (v35 + 3) q40).bind fun q42 =>
        if (-9223372036854775808 ≤ q42.1 ∧ q42.1 ≤ 9223372036854775807) then (
        if 0 < q42.1 then (
          (gm_79 (v35 + 3) x2 q42.1 q42.2).bind fun q46 =>
          if ¬ x3 = 0 then (
            if 0 ≤ q46.1 ∧ q46.1 ≤ 9223372036854775807 ∧ 0 < q42.1 ∧ q42.1 ≤ 9223372036854775807 then (
            (gm_127 (q46.1 % q42.1) q42.1 (x3 - 1) q46.2).bind fun q51 =>
            some (q51.1, q51.2)) else none) else (
            (gm_77 (v35 + 3) x2 q46.2).bind fun q53 =>
            if (-2147483648 ≤ q53.1 ∧ q53.1 ≤ 2147483647) then (
            if 0 ≤ q46.1 ∧ q46.1 ≤ 9223372036854775807 ∧ 0 < q42.1 ∧ q42.1 ≤ 9223372036854775807 then (
            some ((q53.1 + (q46.1 / q42.1)), q53.2)) else none) else none)) else (
          some ((-1), q42.2))) else none) else none) else (
        gm_100_18 q30.2))) else none)
theorem gf_100 {x1 : Int} {yx1 : Int32} (e1 : yx1 = Int32.ofInt x1) {x2 : Int} {yx2 : Int32} (e2 : yx2 = Int32.ofInt x2) {x3 : Int} {yx3 : Int32} (e3 : yx3 = Int32.ofInt x3) {s : gx_S} {σ : fx_S} (es : σ = gx s) {q : Int × gx_S} (h : gm_100 x1 x2 x3 s = some q) : fm_100 yx1 yx2 yx3 σ = some (Int64.ofInt q.1, gx q.2) := by
  unfold gm_100 at h
  unfold fm_100
  obtain ⟨q30, w29, h⟩ := fx_bd h
  refine gb_bind (gf_118 e1 e2 es w29) ?_
  by_cases c31 : (gb q30.1) = 0
  · rw [if_pos c31] at h
    refine gb_t ((gc_eq (gb_b q30.1) kg_0 (gb_r _) (by decide)).mpr c31) ?_
    exact gf_100_18 _ _ (rfl : _ = gx q30.2) _ h
  · rw [if_neg c31] at h
    refine gb_f (fun q => c31 ((gc_eq (gb_b q30.1) kg_0 (gb_r _) (by decide)).mp q)) ?_
    obtain ⟨z32, h⟩ := fx_gd h
    by_cases c33 : x3 < 0
    · rw [if_pos c33] at h
      refine gb_t ((gc_lt e3 kg_0 z32 (by decide)).mpr c33) ?_
      exact gf_100_18 _ _ (rfl : _ = gx q30.2) _ h
    · rw [if_neg c33] at h
      refine gb_f (fun q => c33 ((gc_lt e3 kg_0 z32 (by decide)).mp q)) ?_
      by_cases c34 : x3 ≤ 2
      · rw [if_pos c34] at h
        refine gb_t ((gc_le e3 kg_2 z32 (by decide)).mpr c34) ?_
        obtain ⟨z38, h⟩ := fx_gd h
        obtain ⟨v35, w36, h⟩ := fx_bd h
        have g37 := fa_70 ((gl_ldr (t := 4) e1 ga_70 z38).trans w36)
        refine gb_bind ((gl_ldr e1 ga_70 z38).trans w36) ?_
        obtain ⟨q40, w39, h⟩ := fx_bd h
        refine gb_bind (gf_19 kg_2 (rfl : _ = gx q30.2) w39) ?_
        obtain ⟨q42, w41, h⟩ := fx_bd h
        refine gb_bind (gf_78 (rfl : _ = gx q40) w41) ?_
        obtain ⟨z43, h⟩ := fx_gd h
        by_cases c44 : 0 < q42.1
        · rw [if_pos c44] at h
          refine gb_t ((gcl_lt kgl_0 (gr2 q42.1) (by decide) z43).mpr c44) ?_
          obtain ⟨q46, w45, h⟩ := fx_bd h
          refine gb_bind (gf_79 e2 (gr2 q42.1) (rfl : _ = gx q42.2) w45) ?_
          by_cases c47 : ¬ x3 = 0
          · rw [if_pos c47] at h
            refine gb_t ((gc_ne e3 kg_0 z32 (by decide)).mpr c47) ?_
            obtain ⟨z48, h⟩ := fx_gd h
            refine gb_t (gcl_nz (gr2 q42.1) z48) ?_
            obtain ⟨q51, w50, h⟩ := fx_bd h
            refine gb_bind (gf_127 (gal_rem (gr2 q46.1) (gr2 q42.1) z48) (gr2 q42.1) (ga_sub e3 kg_1) (rfl : _ = gx q46.2) w50) ?_
            have h := Option.some.inj h
            subst h
            exact gretl (gr2 q51.1) (rfl : _ = gx q51.2)
          · rw [if_neg c47] at h
            refine gb_f (fun q => c47 ((gc_ne e3 kg_0 z32 (by decide)).mp q)) ?_
            obtain ⟨q53, w52, h⟩ := fx_bd h
            refine gb_bind (gf_77 e2 (rfl : _ = gx q46.2) w52) ?_
            obtain ⟨z54, h⟩ := fx_gd h
            obtain ⟨z55, h⟩ := fx_gd h
            refine gb_t (gcl_nz (gr2 q42.1) z55) ?_
            have h := Option.some.inj h
            subst h
            exact gretl (gal_add (ga_i2l (gr q53.1) z54) (gal_div (gr2 q46.1) (gr2 q42.1) z55)) (rfl : _ = gx q53.2)
        · rw [if_neg c44] at h
          refine gb_f (fun q => c44 ((gcl_lt kgl_0 (gr2 q42.1) (by decide) z43).mp q)) ?_
          have h := Option.some.inj h
          subst h
          exact gretl kgl_m1 (rfl : _ = gx q42.2)
      · rw [if_neg c34] at h
        refine gb_f (fun q => c34 ((gc_le e3 kg_2 z32 (by decide)).mp q)) ?_
        exact gf_100_18 _ _ (rfl : _ = gx q30.2) _ h

/-! ZoneShares.coarse(III)I -/
def gm_101_115 (k_79 : Int → Nat → Int → Int → gx_S → Option (Int × gx_S)) (x2 : Int) (x4 : Nat) (x5 : Int) (x6 : Int) (s : gx_S) : Option (Int × gx_S) :=
  k_79 x2 x4 x5 (x6 + 1) s
theorem gf_101_115 {kf_79 : Int32 → Nat → Int32 → Int32 → fx_S → Option (Int32 × fx_S)} {kg_79 : Int → Nat → Int → Int → gx_S → Option (Int × gx_S)} (hk_79 : ∀ (x2 : Int) (yx2 : Int32) (e2 : yx2 = Int32.ofInt x2) (x4 : Nat) (x5 : Int) (yx5 : Int32) (e5 : yx5 = Int32.ofInt x5) (x6 : Int) (yx6 : Int32) (e6 : yx6 = Int32.ofInt x6) (s : gx_S) (σ : fx_S) (es : σ = gx s) (q : Int × gx_S) (g4 : fx_oc x4 2 = true), kg_79 x2 x4 x5 x6 s = some q → kf_79 yx2 x4 yx5 yx6 σ = some (Int32.ofInt q.1, gx q.2)) (x2 : Int) (yx2 : Int32) (e2 : yx2 = Int32.ofInt x2) (x4 : Nat) (x5 : Int) (yx5 : Int32) (e5 : yx5 = Int32.ofInt x5) (x6 : Int) (yx6 : Int32) (e6 : yx6 = Int32.ofInt x6) (s : gx_S) (σ : fx_S) (es : σ = gx s) (q : Int × gx_S) (g4 : fx_oc x4 2 = true) (h : gm_101_115 kg_79 x2 x4 x5 x6 s = some q) : fm_101_115 kf_79 yx2 x4 yx5 yx6 σ = some (Int32.ofInt q.1, gx q.2) := by
  unfold gm_101_115 at h
  unfold fm_101_115
  exact hk_79 _ _ e2 _ _ _ e5 _ _ (ga_add e6 kg_1) _ _ es _ g4 h
def gm_101_79 : Nat → Int → Nat → Int → Int → gx_S → Option (Int × gx_S)
  | 0, _, _, _, _, _ => none
  | n + 1, x2, x4, x5, x6, s =>
    if (-2147483648 ≤ x6 ∧ x6 ≤ 2147483647) then (
    if 8 ≤ x6 then (
      some (x5, s)) else (
      if 0 ≤ x6 ∧ x6 < 8 then (
      if (-2147483648 ≤ (s.1 5 (x6).toNat) ∧ (s.1 5 (x6).toNat) ≤ 2147483647) then (
      if (-2147483648 ≤ x2 ∧ x2 ≤ 2147483647) then (
      if ¬ (s.1 5 (x6).toNat) = x2 then (
        gm_101_115 (gm_101_79 n) x2 x4 x5 x6 s) else (
        (gm_76 (x4 + 3) x6 s).bind fun q10 =>
        gm_101_115 (gm_101_79 n) x2 x4 (x5 + q10.1) x6 q10.2)) else none) else none) else none)) else none
theorem gf_101_79 : ∀ (n : Nat) (x2 : Int) (yx2 : Int32) (e2 : yx2 = Int32.ofInt x2) (x4 : Nat) (x5 : Int) (yx5 : Int32) (e5 : yx5 = Int32.ofInt x5) (x6 : Int) (yx6 : Int32) (e6 : yx6 = Int32.ofInt x6) (s : gx_S) (σ : fx_S) (es : σ = gx s) (q : Int × gx_S) (g4 : fx_oc x4 2 = true), gm_101_79 n x2 x4 x5 x6 s = some q → fm_101_79 n yx2 x4 yx5 yx6 σ = some (Int32.ofInt q.1, gx q.2) := by
  intro n
  induction n with
  | zero =>
    intro x2 yx2 e2 x4 x5 yx5 e5 x6 yx6 e6 s σ es q g4 h
    rw [gm_101_79] at h
    exact fx_no h
  | succ n ih =>
    intro x2 yx2 e2 x4 x5 yx5 e5 x6 yx6 e6 s σ es q g4 h
    rw [gm_101_79] at h
    rw [fm_101_79]
    obtain ⟨z1, h⟩ := fx_gd h
    by_cases c2 : 8 ≤ x6
    · rw [if_pos c2] at h
      refine gb_t ((gc_le kg_8 e6 (by decide) z1).mpr c2) ?_
      have h := Option.some.inj h
      subst h
      exact gret e5 es
    · rw [if_neg c2] at h
      refine gb_f (fun q => c2 ((gc_le kg_8 e6 (by decide) z1).mp q)) ?_
      obtain ⟨z5, h⟩ := fx_gd h
      refine gb_bind (gl_ld es e6 ga_5 z5) ?_
      obtain ⟨z6, h⟩ := fx_gd h
      obtain ⟨z7, h⟩ := fx_gd h
      by_cases c8 : ¬ (s.1 5 (x6).toNat) = x2
      · rw [if_pos c8] at h
        refine gb_t ((gc_ne (gr (s.1 5 (x6).toNat)) e2 z6 z7).mpr c8) ?_
        exact gf_101_115 ih _ _ e2 _ _ _ e5 _ _ e6 _ _ es _ g4 h
      · rw [if_neg c8] at h
        refine gb_f (fun q => c8 ((gc_ne (gr (s.1 5 (x6).toNat)) e2 z6 z7).mp q)) ?_
        obtain ⟨q10, w9, h⟩ := fx_bd h
        refine gb_bind (gf_76 e6 es w9) ?_
        exact gf_101_115 ih _ _ e2 _ _ _ (ga_add e5 (gr q10.1)) _ _ e6 _ _ (rfl : _ = gx q10.2) _ g4 h
def gm_101 (x1 : Int) (x2 : Int) (x3 : Int) (s : gx_S) : Option (Int × gx_S) :=
  (gm_114 x1 s).bind fun q35 =>
  if (gb q35.1) = 0 then (
    some ((-1), q35.2)) else (
    (gm_57 1 q35.2).bind fun q38 =>
    if (gb q38.1) = 0 then (
      some ((-1), q38.2)) else (
      (gm_117 x2 q38.2).bind fun q41 =>
      if (gb q41.1) = 0 then (
        some ((-1), q41.2)) else (
        if (-2147483648 ≤ x3 ∧ x3 ≤ 2147483647) then (
        if x3 < 0 then (
          some ((-1), q41.2)) else (
          if x3 ≤ 1 then (
            if 0 ≤ x1 ∧ x1 < 3 then (
            (some (fx_rf 70 (x1).toNat)).bind fun v46 =>
            if ¬ x3 = 1 then (
              (gm_19 v46 2 q41.2).bind fun q52 =>
              gm_101_79 100000 x2 v46 0 0 q52) else (
              (gm_19 v46 8 q41.2).bind fun q54 =>
              (gm_76 (v46 + 21) x2 q54).bind fun q56 =>
              some (q56.1, q56.2))) else none) else (
            some ((-1), q41.2)))) else none)))
theorem gf_101 {x1 : Int} {yx1 : Int32} (e1 : yx1 = Int32.ofInt x1) {x2 : Int} {yx2 : Int32} (e2 : yx2 = Int32.ofInt x2) {x3 : Int} {yx3 : Int32} (e3 : yx3 = Int32.ofInt x3) {s : gx_S} {σ : fx_S} (es : σ = gx s) {q : Int × gx_S} (h : gm_101 x1 x2 x3 s = some q) : fm_101 yx1 yx2 yx3 σ = some (Int32.ofInt q.1, gx q.2) := by
  unfold gm_101 at h
  unfold fm_101
  obtain ⟨q35, w34, h⟩ := fx_bd h
  refine gb_bind (gf_114 e1 es w34) ?_
  by_cases c36 : (gb q35.1) = 0
  · rw [if_pos c36] at h
    refine gb_t ((gc_eq (gb_b q35.1) kg_0 (gb_r _) (by decide)).mpr c36) ?_
    have h := Option.some.inj h
    subst h
    exact gret kg_m1 (rfl : _ = gx q35.2)
  · rw [if_neg c36] at h
    refine gb_f (fun q => c36 ((gc_eq (gb_b q35.1) kg_0 (gb_r _) (by decide)).mp q)) ?_
    obtain ⟨q38, w37, h⟩ := fx_bd h
    refine gb_bind (gf_57 (rfl : _ = gx q35.2) w37) ?_
    by_cases c39 : (gb q38.1) = 0
    · rw [if_pos c39] at h
      refine gb_t ((gc_eq (gb_b q38.1) kg_0 (gb_r _) (by decide)).mpr c39) ?_
      have h := Option.some.inj h
      subst h
      exact gret kg_m1 (rfl : _ = gx q38.2)
    · rw [if_neg c39] at h
      refine gb_f (fun q => c39 ((gc_eq (gb_b q38.1) kg_0 (gb_r _) (by decide)).mp q)) ?_
      obtain ⟨q41, w40, h⟩ := fx_bd h
      refine gb_bind (gf_117 e2 (rfl : _ = gx q38.2) w40) ?_
      by_cases c42 : (gb q41.1) = 0
      · rw [if_pos c42] at h
        refine gb_t ((gc_eq (gb_b q41.1) kg_0 (gb_r _) (by decide)).mpr c42) ?_
        have h := Option.some.inj h
        subst h
        exact gret kg_m1 (rfl : _ = gx q41.2)
      · rw [if_neg c42] at h
        refine gb_f (fun q => c42 ((gc_eq (gb_b q41.1) kg_0 (gb_r _) (by decide)).mp q)) ?_
        obtain ⟨z43, h⟩ := fx_gd h
        by_cases c44 : x3 < 0
        · rw [if_pos c44] at h
          refine gb_t ((gc_lt e3 kg_0 z43 (by decide)).mpr c44) ?_
          have h := Option.some.inj h
          subst h
          exact gret kg_m1 (rfl : _ = gx q41.2)
        · rw [if_neg c44] at h
          refine gb_f (fun q => c44 ((gc_lt e3 kg_0 z43 (by decide)).mp q)) ?_
          by_cases c45 : x3 ≤ 1
          · rw [if_pos c45] at h
            refine gb_t ((gc_le e3 kg_1 z43 (by decide)).mpr c45) ?_
            obtain ⟨z49, h⟩ := fx_gd h
            obtain ⟨v46, w47, h⟩ := fx_bd h
            have g48 := fa_70 ((gl_ldr (t := 4) e1 ga_70 z49).trans w47)
            refine gb_bind ((gl_ldr e1 ga_70 z49).trans w47) ?_
            by_cases c50 : ¬ x3 = 1
            · rw [if_pos c50] at h
              refine gb_t ((gc_ne e3 kg_1 z43 (by decide)).mpr c50) ?_
              obtain ⟨q52, w51, h⟩ := fx_bd h
              refine gb_bind (gf_19 kg_2 (rfl : _ = gx q41.2) w51) ?_
              exact gf_101_79 100000 _ _ e2 _ _ _ kg_0 _ _ kg_0 _ _ (rfl : _ = gx q52) _ g48 h
            · rw [if_neg c50] at h
              refine gb_f (fun q => c50 ((gc_ne e3 kg_1 z43 (by decide)).mp q)) ?_
              obtain ⟨q54, w53, h⟩ := fx_bd h
              refine gb_bind (gf_19 kg_8 (rfl : _ = gx q41.2) w53) ?_
              obtain ⟨q56, w55, h⟩ := fx_bd h
              refine gb_bind (gf_76 e2 (rfl : _ = gx q54) w55) ?_
              have h := Option.some.inj h
              subst h
              exact gret (gr q56.1) (rfl : _ = gx q56.2)
          · rw [if_neg c45] at h
            refine gb_f (fun q => c45 ((gc_le e3 kg_1 z43 (by decide)).mp q)) ?_
            have h := Option.some.inj h
            subst h
            exact gret kg_m1 (rfl : _ = gx q41.2)
end
section
/-! ZoneShares.byWay(II)I -/
def gm_103 (x1 : Int) (x2 : Int) (s : gx_S) : Option (Int × gx_S) :=
  (gm_114 x1 s).bind fun q19 =>
  if (gb q19.1) = 0 then (
    some ((-1), q19.2)) else (
    (gm_115 x2 q19.2).bind fun q22 =>
    if (gb q22.1) = 0 then (
      some ((-1), q22.2)) else (
      (gm_57 1 q22.2).bind fun q25 =>
      if ¬ (gb q25.1) = 0 then (
        if 0 ≤ x1 ∧ x1 < 3 then (
        (some (fx_rf 70 (x1).toNat)).bind fun v27 =>
        (gm_19 v27 16 q25.2).bind fun q32 =>
        (gm_76 (v27 + 30) x2 q32).bind fun q34 =>
        some (q34.1, q34.2)) else none) else (
        some ((-1), q25.2))))
theorem gf_103 {x1 : Int} {yx1 : Int32} (e1 : yx1 = Int32.ofInt x1) {x2 : Int} {yx2 : Int32} (e2 : yx2 = Int32.ofInt x2) {s : gx_S} {σ : fx_S} (es : σ = gx s) {q : Int × gx_S} (h : gm_103 x1 x2 s = some q) : fm_103 yx1 yx2 σ = some (Int32.ofInt q.1, gx q.2) := by
  unfold gm_103 at h
  unfold fm_103
  obtain ⟨q19, w18, h⟩ := fx_bd h
  refine gb_bind (gf_114 e1 es w18) ?_
  by_cases c20 : (gb q19.1) = 0
  · rw [if_pos c20] at h
    refine gb_t ((gc_eq (gb_b q19.1) kg_0 (gb_r _) (by decide)).mpr c20) ?_
    have h := Option.some.inj h
    subst h
    exact gret kg_m1 (rfl : _ = gx q19.2)
  · rw [if_neg c20] at h
    refine gb_f (fun q => c20 ((gc_eq (gb_b q19.1) kg_0 (gb_r _) (by decide)).mp q)) ?_
    obtain ⟨q22, w21, h⟩ := fx_bd h
    refine gb_bind (gf_115 e2 (rfl : _ = gx q19.2) w21) ?_
    by_cases c23 : (gb q22.1) = 0
    · rw [if_pos c23] at h
      refine gb_t ((gc_eq (gb_b q22.1) kg_0 (gb_r _) (by decide)).mpr c23) ?_
      have h := Option.some.inj h
      subst h
      exact gret kg_m1 (rfl : _ = gx q22.2)
    · rw [if_neg c23] at h
      refine gb_f (fun q => c23 ((gc_eq (gb_b q22.1) kg_0 (gb_r _) (by decide)).mp q)) ?_
      obtain ⟨q25, w24, h⟩ := fx_bd h
      refine gb_bind (gf_57 (rfl : _ = gx q22.2) w24) ?_
      by_cases c26 : ¬ (gb q25.1) = 0
      · rw [if_pos c26] at h
        refine gb_t ((gc_ne (gb_b q25.1) kg_0 (gb_r _) (by decide)).mpr c26) ?_
        obtain ⟨z30, h⟩ := fx_gd h
        obtain ⟨v27, w28, h⟩ := fx_bd h
        have g29 := fa_70 ((gl_ldr (t := 4) e1 ga_70 z30).trans w28)
        refine gb_bind ((gl_ldr e1 ga_70 z30).trans w28) ?_
        obtain ⟨q32, w31, h⟩ := fx_bd h
        refine gb_bind (gf_19 kg_16 (rfl : _ = gx q25.2) w31) ?_
        obtain ⟨q34, w33, h⟩ := fx_bd h
        refine gb_bind (gf_76 e2 (rfl : _ = gx q32) w33) ?_
        have h := Option.some.inj h
        subst h
        exact gret (gr q34.1) (rfl : _ = gx q34.2)
      · rw [if_neg c26] at h
        refine gb_f (fun q => c26 ((gc_ne (gb_b q25.1) kg_0 (gb_r _) (by decide)).mp q)) ?_
        have h := Option.some.inj h
        subst h
        exact gret kg_m1 (rfl : _ = gx q25.2)

/-! ZoneShares.returned(II)I -/
def gm_104 (x1 : Int) (x2 : Int) (s : gx_S) : Option (Int × gx_S) :=
  (gm_118 x1 x2 s).bind fun q13 =>
  if ¬ (gb q13.1) = 0 then (
    if 0 ≤ x1 ∧ x1 < 3 then (
    (some (fx_rf 70 (x1).toNat)).bind fun v15 =>
    (gm_19 v15 4 q13.2).bind fun q20 =>
    (gm_76 (v15 + 12) x2 q20).bind fun q22 =>
    some (q22.1, q22.2)) else none) else (
    some ((-1), q13.2))
theorem gf_104 {x1 : Int} {yx1 : Int32} (e1 : yx1 = Int32.ofInt x1) {x2 : Int} {yx2 : Int32} (e2 : yx2 = Int32.ofInt x2) {s : gx_S} {σ : fx_S} (es : σ = gx s) {q : Int × gx_S} (h : gm_104 x1 x2 s = some q) : fm_104 yx1 yx2 σ = some (Int32.ofInt q.1, gx q.2) := by
  unfold gm_104 at h
  unfold fm_104
  obtain ⟨q13, w12, h⟩ := fx_bd h
  refine gb_bind (gf_118 e1 e2 es w12) ?_
  by_cases c14 : ¬ (gb q13.1) = 0
  · rw [if_pos c14] at h
    refine gb_t ((gc_ne (gb_b q13.1) kg_0 (gb_r _) (by decide)).mpr c14) ?_
    obtain ⟨z18, h⟩ := fx_gd h
    obtain ⟨v15, w16, h⟩ := fx_bd h
    have g17 := fa_70 ((gl_ldr (t := 4) e1 ga_70 z18).trans w16)
    refine gb_bind ((gl_ldr e1 ga_70 z18).trans w16) ?_
    obtain ⟨q20, w19, h⟩ := fx_bd h
    refine gb_bind (gf_19 kg_4 (rfl : _ = gx q13.2) w19) ?_
    obtain ⟨q22, w21, h⟩ := fx_bd h
    refine gb_bind (gf_76 e2 (rfl : _ = gx q20) w21) ?_
    have h := Option.some.inj h
    subst h
    exact gret (gr q22.1) (rfl : _ = gx q22.2)
  · rw [if_neg c14] at h
    refine gb_f (fun q => c14 ((gc_ne (gb_b q13.1) kg_0 (gb_r _) (by decide)).mp q)) ?_
    have h := Option.some.inj h
    subst h
    exact gret kg_m1 (rfl : _ = gx q13.2)

/-! ZoneShares.astray(I)I -/
def gm_105_37 : Nat → Nat → Int → Int → gx_S → Option (Int × gx_S)
  | 0, _, _, _, _ => none
  | n + 1, x2, x3, x4, s =>
    if (-2147483648 ≤ x4 ∧ x4 ≤ 2147483647) then (
    if 8 ≤ x4 then (
      some (x3, s)) else (
      if 0 ≤ x4 ∧ x4 < 8 then (
      (gm_76 (x2 + 12) x4 s).bind fun q7 =>
      if (-2147483648 ≤ ((s.1 (x2 + 1) (x4).toNat) - q7.1) ∧ ((s.1 (x2 + 1) (x4).toNat) - q7.1) ≤ 2147483647) then (
      gm_105_37 n x2 (x3 + (if 0 ≤ ((s.1 (x2 + 1) (x4).toNat) - q7.1) then ((s.1 (x2 + 1) (x4).toNat) - q7.1) else 0 - ((s.1 (x2 + 1) (x4).toNat) - q7.1))) (x4 + 1) q7.2) else none) else none)) else none
theorem gf_105_37 : ∀ (n : Nat) (x2 : Nat) (x3 : Int) (yx3 : Int32) (e3 : yx3 = Int32.ofInt x3) (x4 : Int) (yx4 : Int32) (e4 : yx4 = Int32.ofInt x4) (s : gx_S) (σ : fx_S) (es : σ = gx s) (q : Int × gx_S) (g2 : fx_oc x2 2 = true), gm_105_37 n x2 x3 x4 s = some q → fm_105_37 n x2 yx3 yx4 σ = some (Int32.ofInt q.1, gx q.2) := by
  intro n
  induction n with
  | zero =>
    intro x2 x3 yx3 e3 x4 yx4 e4 s σ es q g2 h
    rw [gm_105_37] at h
    exact fx_no h
  | succ n ih =>
    intro x2 x3 yx3 e3 x4 yx4 e4 s σ es q g2 h
    rw [gm_105_37] at h
    rw [fm_105_37]
    obtain ⟨z1, h⟩ := fx_gd h
    by_cases c2 : 8 ≤ x4
    · rw [if_pos c2] at h
      refine gb_t ((gc_le kg_8 e4 (by decide) z1).mpr c2) ?_
      have h := Option.some.inj h
      subst h
      exact gret e3 es
    · rw [if_neg c2] at h
      refine gb_f (fun q => c2 ((gc_le kg_8 e4 (by decide) z1).mp q)) ?_
      obtain ⟨z5, h⟩ := fx_gd h
      refine gb_bind (gl_ld es e4 (ga_2_0 g2) z5) ?_
      obtain ⟨q7, w6, h⟩ := fx_bd h
      refine gb_bind (gf_76 e4 es w6) ?_
      obtain ⟨z8, h⟩ := fx_gd h
      exact ih _ _ _ (ga_add e3 (ga_ite (gc_le kg_0 (ga_sub (gr (s.1 (x2 + 1) (x4).toNat)) (gr q7.1)) (by decide) z8) (ga_sub (gr (s.1 (x2 + 1) (x4).toNat)) (gr q7.1)) (ga_sub kg_0 (ga_sub (gr (s.1 (x2 + 1) (x4).toNat)) (gr q7.1))))) _ _ (ga_add e4 kg_1) _ _ (rfl : _ = gx q7.2) _ g2 h
def gm_105 (x1 : Int) (s : gx_S) : Option (Int × gx_S) :=
  (gm_114 x1 s).bind fun q22 =>
  if (gb q22.1) = 0 then (
    some ((-1), q22.2)) else (
    (gm_57 1 q22.2).bind fun q25 =>
    if ¬ (gb q25.1) = 0 then (
      if 0 ≤ x1 ∧ x1 < 3 then (
      (some (fx_rf 70 (x1).toNat)).bind fun v27 =>
      (gm_19 v27 4 q25.2).bind fun q32 =>
      gm_105_37 100000 v27 0 0 q32) else none) else (
      some ((-1), q25.2)))
theorem gf_105 {x1 : Int} {yx1 : Int32} (e1 : yx1 = Int32.ofInt x1) {s : gx_S} {σ : fx_S} (es : σ = gx s) {q : Int × gx_S} (h : gm_105 x1 s = some q) : fm_105 yx1 σ = some (Int32.ofInt q.1, gx q.2) := by
  unfold gm_105 at h
  unfold fm_105
  obtain ⟨q22, w21, h⟩ := fx_bd h
  refine gb_bind (gf_114 e1 es w21) ?_
  by_cases c23 : (gb q22.1) = 0
  · rw [if_pos c23] at h
    refine gb_t ((gc_eq (gb_b q22.1) kg_0 (gb_r _) (by decide)).mpr c23) ?_
    have h := Option.some.inj h
    subst h
    exact gret kg_m1 (rfl : _ = gx q22.2)
  · rw [if_neg c23] at h
    refine gb_f (fun q => c23 ((gc_eq (gb_b q22.1) kg_0 (gb_r _) (by decide)).mp q)) ?_
    obtain ⟨q25, w24, h⟩ := fx_bd h
    refine gb_bind (gf_57 (rfl : _ = gx q22.2) w24) ?_
    by_cases c26 : ¬ (gb q25.1) = 0
    · rw [if_pos c26] at h
      refine gb_t ((gc_ne (gb_b q25.1) kg_0 (gb_r _) (by decide)).mpr c26) ?_
      obtain ⟨z30, h⟩ := fx_gd h
      obtain ⟨v27, w28, h⟩ := fx_bd h
      have g29 := fa_70 ((gl_ldr (t := 4) e1 ga_70 z30).trans w28)
      refine gb_bind ((gl_ldr e1 ga_70 z30).trans w28) ?_
      obtain ⟨q32, w31, h⟩ := fx_bd h
      refine gb_bind (gf_19 kg_4 (rfl : _ = gx q25.2) w31) ?_
      exact gf_105_37 100000 _ _ _ kg_0 _ _ kg_0 _ _ (rfl : _ = gx q32) _ g29 h
    · rw [if_neg c26] at h
      refine gb_f (fun q => c26 ((gc_ne (gb_b q25.1) kg_0 (gb_r _) (by decide)).mp q)) ?_
      have h := Option.some.inj h
      subst h
      exact gret kg_m1 (rfl : _ = gx q25.2)

/-! ZoneShares.surface(IIII)J -/
def gm_106_40 (s : gx_S) : Option (Int × gx_S) :=
  some ((-1), s)
theorem gf_106_40 (s : gx_S) (σ : fx_S) (es : σ = gx s) (q : Int × gx_S) (h : gm_106_40 s = some q) : fm_106_40 σ = some (Int64.ofInt q.1, gx q.2) := by
  unfold gm_106_40 at h
  unfold fm_106_40
  have h := Option.some.inj h
  subst h
  exact gretl kgl_m1 es
def gm_106 (x1 : Int) (x2 : Int) (x3 : Int) (x4 : Int) (s : gx_S) : Option (Int × gx_S) :=
  (gm_114 x1 s).bind fun q28 =>
  if (gb q28.1) = 0 then (
    gm_106_40 q28.2) else (
    (gm_57 1 q28.2).bind fun q31 =>
    if (gb q31.1) = 0 then (
      gm_106_40 q31.2) else (
      (gm_59 1 x2 x3 q31.2).bind fun q34 =>
      if (gb q34.1) = 0 then (
        gm_106_40 q34.2) else (
        if (-2147483648 ≤ x4 ∧ x4 ≤ 2147483647) then (
        if x4 < 0 then (
          gm_106_40 q34.2) else (
          if x4 ≤ 1 then (
            if 0 ≤ x1 ∧ x1 < 3 then (
            (some (fx_rf 70 (x1).toNat)).bind fun v39 =>
            (gm_19 v39 2 q34.2).bind fun q44 =>
            (gm_27 v39 ((x2 * (q44.1 1 5)) + x3) q44).bind fun q46 =>
            if (-2147483648 ≤ q46.1 ∧ q46.1 ≤ 2147483647) then (
            (gm_28 v39 ((x2 * (q44.1 1 5)) + x3) q46.2).bind fun q49 =>
            if (-2147483648 ≤ q49.1 ∧ q49.1 ≤ 2147483647) then (
            (gm_127 q46.1 q49.1 x4 q49.2).bind fun q52 =>
            some (q52.1, q52.2)) else none) else none) else none) else (
            gm_106_40 q34.2))) else none)))
theorem gf_106 {x1 : Int} {yx1 : Int32} (e1 : yx1 = Int32.ofInt x1) {x2 : Int} {yx2 : Int32} (e2 : yx2 = Int32.ofInt x2) {x3 : Int} {yx3 : Int32} (e3 : yx3 = Int32.ofInt x3) {x4 : Int} {yx4 : Int32} (e4 : yx4 = Int32.ofInt x4) {s : gx_S} {σ : fx_S} (es : σ = gx s) {q : Int × gx_S} (h : gm_106 x1 x2 x3 x4 s = some q) : fm_106 yx1 yx2 yx3 yx4 σ = some (Int64.ofInt q.1, gx q.2) := by
  unfold gm_106 at h
  unfold fm_106
  obtain ⟨q28, w27, h⟩ := fx_bd h
  refine gb_bind (gf_114 e1 es w27) ?_
  by_cases c29 : (gb q28.1) = 0
  · rw [if_pos c29] at h
    refine gb_t ((gc_eq (gb_b q28.1) kg_0 (gb_r _) (by decide)).mpr c29) ?_
    exact gf_106_40 _ _ (rfl : _ = gx q28.2) _ h
  · rw [if_neg c29] at h
    refine gb_f (fun q => c29 ((gc_eq (gb_b q28.1) kg_0 (gb_r _) (by decide)).mp q)) ?_
    obtain ⟨q31, w30, h⟩ := fx_bd h
    refine gb_bind (gf_57 (rfl : _ = gx q28.2) w30) ?_
    by_cases c32 : (gb q31.1) = 0
    · rw [if_pos c32] at h
      refine gb_t ((gc_eq (gb_b q31.1) kg_0 (gb_r _) (by decide)).mpr c32) ?_
      exact gf_106_40 _ _ (rfl : _ = gx q31.2) _ h
    · rw [if_neg c32] at h
      refine gb_f (fun q => c32 ((gc_eq (gb_b q31.1) kg_0 (gb_r _) (by decide)).mp q)) ?_
      obtain ⟨q34, w33, h⟩ := fx_bd h
      refine gb_bind (gf_59 e2 e3 (rfl : _ = gx q31.2) w33) ?_
      by_cases c35 : (gb q34.1) = 0
      · rw [if_pos c35] at h
        refine gb_t ((gc_eq (gb_b q34.1) kg_0 (gb_r _) (by decide)).mpr c35) ?_
        exact gf_106_40 _ _ (rfl : _ = gx q34.2) _ h
      · rw [if_neg c35] at h
        refine gb_f (fun q => c35 ((gc_eq (gb_b q34.1) kg_0 (gb_r _) (by decide)).mp q)) ?_
        obtain ⟨z36, h⟩ := fx_gd h
        by_cases c37 : x4 < 0
        · rw [if_pos c37] at h
          refine gb_t ((gc_lt e4 kg_0 z36 (by decide)).mpr c37) ?_
          exact gf_106_40 _ _ (rfl : _ = gx q34.2) _ h
        · rw [if_neg c37] at h
          refine gb_f (fun q => c37 ((gc_lt e4 kg_0 z36 (by decide)).mp q)) ?_
          by_cases c38 : x4 ≤ 1
          · rw [if_pos c38] at h
            refine gb_t ((gc_le e4 kg_1 z36 (by decide)).mpr c38) ?_
            obtain ⟨z42, h⟩ := fx_gd h
            obtain ⟨v39, w40, h⟩ := fx_bd h
            have g41 := fa_70 ((gl_ldr (t := 4) e1 ga_70 z42).trans w40)
            refine gb_bind ((gl_ldr e1 ga_70 z42).trans w40) ?_
            obtain ⟨q44, w43, h⟩ := fx_bd h
            refine gb_bind (gf_19 kg_2 (rfl : _ = gx q34.2) w43) ?_
            obtain ⟨q46, w45, h⟩ := fx_bd h
            refine gb_bind (gf_27 (ga_add (ga_mul e2 (gf1 (rfl : _ = gx q44) 1 5)) e3) (rfl : _ = gx q44) w45) ?_
            obtain ⟨z47, h⟩ := fx_gd h
            obtain ⟨q49, w48, h⟩ := fx_bd h
            refine gb_bind (gf_28 (ga_add (ga_mul e2 (gf1 (rfl : _ = gx q44) 1 5)) e3) (rfl : _ = gx q46.2) w48) ?_
            obtain ⟨z50, h⟩ := fx_gd h
            obtain ⟨q52, w51, h⟩ := fx_bd h
            refine gb_bind (gf_127 (ga_i2l (gr q46.1) z47) (ga_i2l (gr q49.1) z50) e4 (rfl : _ = gx q49.2) w51) ?_
            have h := Option.some.inj h
            subst h
            exact gretl (gr2 q52.1) (rfl : _ = gx q52.2)
          · rw [if_neg c38] at h
            refine gb_f (fun q => c38 ((gc_le e4 kg_1 z36 (by decide)).mp q)) ?_
            exact gf_106_40 _ _ (rfl : _ = gx q34.2) _ h

/-! ZoneShares.densest(II)I -/
def gm_107 (x1 : Int) (x2 : Int) (s : gx_S) : Option (Int × gx_S) :=
  (gm_114 x1 s).bind fun q27 =>
  if (gb q27.1) = 0 then (
    some ((-1), q27.2)) else (
    (gm_57 1 q27.2).bind fun q30 =>
    if (gb q30.1) = 0 then (
      some ((-1), q30.2)) else (
      if (-2147483648 ≤ x2 ∧ x2 ≤ 2147483647) then (
      if x2 < 0 then (
        some ((-1), q30.2)) else (
        (gm_58 1 q30.2).bind fun q35 =>
        if (-2147483648 ≤ q35.1 ∧ q35.1 ≤ 2147483647) then (
        if x2 < q35.1 then (
          if 0 ≤ x1 ∧ x1 < 3 then (
          (some (fx_rf 70 (x1).toNat)).bind fun v38 =>
          (gm_19 v38 32 q35.2).bind fun q43 =>
          if 0 ≤ x2 ∧ x2 < 96 then (
          if (-2147483648 ≤ (q43.1 1 5) ∧ (q43.1 1 5) ≤ 2147483647) then (
          if 0 ≤ (q43.1 (v38 + 2) (x2).toNat) ∧ (q43.1 (v38 + 2) (x2).toNat) ≤ 2147483647 ∧ 0 < (if 1 < (q43.1 1 5) then (q43.1 1 5) else 1) ∧ (if 1 < (q43.1 1 5) then (q43.1 1 5) else 1) ≤ 2147483647 then (
          some (((12 * ((q43.1 (v38 + 2) (x2).toNat) / (if 1 < (q43.1 1 5) then (q43.1 1 5) else 1))) + ((q43.1 (v38 + 2) (x2).toNat) % (if 1 < (q43.1 1 5) then (q43.1 1 5) else 1))), q43)) else none) else none) else none) else none) else (
          some ((-1), q35.2))) else none)) else none))
theorem gf_107 {x1 : Int} {yx1 : Int32} (e1 : yx1 = Int32.ofInt x1) {x2 : Int} {yx2 : Int32} (e2 : yx2 = Int32.ofInt x2) {s : gx_S} {σ : fx_S} (es : σ = gx s) {q : Int × gx_S} (h : gm_107 x1 x2 s = some q) : fm_107 yx1 yx2 σ = some (Int32.ofInt q.1, gx q.2) := by
  unfold gm_107 at h
  unfold fm_107
  obtain ⟨q27, w26, h⟩ := fx_bd h
  refine gb_bind (gf_114 e1 es w26) ?_
  by_cases c28 : (gb q27.1) = 0
  · rw [if_pos c28] at h
    refine gb_t ((gc_eq (gb_b q27.1) kg_0 (gb_r _) (by decide)).mpr c28) ?_
    have h := Option.some.inj h
    subst h
    exact gret kg_m1 (rfl : _ = gx q27.2)
  · rw [if_neg c28] at h
    refine gb_f (fun q => c28 ((gc_eq (gb_b q27.1) kg_0 (gb_r _) (by decide)).mp q)) ?_
    obtain ⟨q30, w29, h⟩ := fx_bd h
    refine gb_bind (gf_57 (rfl : _ = gx q27.2) w29) ?_
    by_cases c31 : (gb q30.1) = 0
    · rw [if_pos c31] at h
      refine gb_t ((gc_eq (gb_b q30.1) kg_0 (gb_r _) (by decide)).mpr c31) ?_
      have h := Option.some.inj h
      subst h
      exact gret kg_m1 (rfl : _ = gx q30.2)
    · rw [if_neg c31] at h
      refine gb_f (fun q => c31 ((gc_eq (gb_b q30.1) kg_0 (gb_r _) (by decide)).mp q)) ?_
      obtain ⟨z32, h⟩ := fx_gd h
      by_cases c33 : x2 < 0
      · rw [if_pos c33] at h
        refine gb_t ((gc_lt e2 kg_0 z32 (by decide)).mpr c33) ?_
        have h := Option.some.inj h
        subst h
        exact gret kg_m1 (rfl : _ = gx q30.2)
      · rw [if_neg c33] at h
        refine gb_f (fun q => c33 ((gc_lt e2 kg_0 z32 (by decide)).mp q)) ?_
        obtain ⟨q35, w34, h⟩ := fx_bd h
        refine gb_bind (gf_58 (rfl : _ = gx q30.2) w34) ?_
        obtain ⟨z36, h⟩ := fx_gd h
        by_cases c37 : x2 < q35.1
        · rw [if_pos c37] at h
          refine gb_t ((gc_lt e2 (gr q35.1) z32 z36).mpr c37) ?_
          obtain ⟨z41, h⟩ := fx_gd h
          obtain ⟨v38, w39, h⟩ := fx_bd h
          have g40 := fa_70 ((gl_ldr (t := 4) e1 ga_70 z41).trans w39)
          refine gb_bind ((gl_ldr e1 ga_70 z41).trans w39) ?_
          obtain ⟨q43, w42, h⟩ := fx_bd h
          refine gb_bind (gf_19 kg_32 (rfl : _ = gx q35.2) w42) ?_
          obtain ⟨z46, h⟩ := fx_gd h
          refine gb_bind (gl_ld (rfl : _ = gx q43) e2 (ga_2_1 g40) z46) ?_
          obtain ⟨z47, h⟩ := fx_gd h
          obtain ⟨z48, h⟩ := fx_gd h
          refine gb_t (gc_nz (ga_gt_ite kg_1 (gf1 (rfl : _ = gx q43) 1 5) (by decide) z47) z48) ?_
          refine gb_t (gc_nz (ga_gt_ite kg_1 (gf1 (rfl : _ = gx q43) 1 5) (by decide) z47) z48) ?_
          have h := Option.some.inj h
          subst h
          exact gret (ga_add (ga_mul kg_12 (ga_div (gr (q43.1 (v38 + 2) (x2).toNat)) (ga_gt_ite kg_1 (gf1 (rfl : _ = gx q43) 1 5) (by decide) z47) z48)) (ga_rem (gr (q43.1 (v38 + 2) (x2).toNat)) (ga_gt_ite kg_1 (gf1 (rfl : _ = gx q43) 1 5) (by decide) z47) z48)) (rfl : _ = gx q43)
        · rw [if_neg c37] at h
          refine gb_f (fun q => c37 ((gc_lt e2 (gr q35.1) z32 z36).mp q)) ?_
          have h := Option.some.inj h
          subst h
          exact gret kg_m1 (rfl : _ = gx q35.2)

/-! ZoneShares.count(I)I -/
def gm_111 (x1 : Int) (s : gx_S) : Option (Int × gx_S) :=
  if (-2147483648 ≤ x1 ∧ x1 ≤ 2147483647) then (
  if x1 = 0 then (
    (gm_58 1 s).bind fun q50 =>
    some (q50.1, q50.2)) else (
    if x1 = 1 then (
      some ((s.1 1 4), s)) else (
      if x1 = 2 then (
        (gm_63 1 0 8 s).bind fun q48 =>
        some (q48.1, q48.2)) else (
        if x1 = 3 then (
          (gm_63 1 1 8 s).bind fun q46 =>
          some (q46.1, q46.2)) else (
          if x1 = 4 then (
            (gm_63 1 2 4 s).bind fun q44 =>
            some (q44.1, q44.2)) else (
            if x1 = 5 then (
              some ((s.1 1 7), s)) else (
              if x1 = 6 then (
                some ((s.1 1 8), s)) else (
                if x1 = 7 then (
                  some ((s.1 1 6), s)) else (
                  if x1 = 8 then (
                    some ((s.1 16 2), s)) else (
                    if x1 = 9 then (
                      some ((s.1 14 1), s)) else (
                      if x1 = 10 then (
                        (gm_126 1 s).bind fun q42 =>
                        some (q42.1, q42.2)) else (
                        if x1 = 11 then (
                          (gm_126 0 s).bind fun q40 =>
                          some (q40.1, q40.2)) else (
                          some ((-1), s)))))))))))))) else none
theorem gf_111 {x1 : Int} {yx1 : Int32} (e1 : yx1 = Int32.ofInt x1) {s : gx_S} {σ : fx_S} (es : σ = gx s) {q : Int × gx_S} (h : gm_111 x1 s = some q) : fm_111 yx1 σ = some (Int32.ofInt q.1, gx q.2) := by
  unfold gm_111 at h
  unfold fm_111
  obtain ⟨z38, h⟩ := fx_gd h
  by_cases c26 : x1 = 0
  · rw [if_pos c26] at h
    refine gb_t ((gc_eq e1 kg_0 z38 (by decide)).mpr c26) ?_
    obtain ⟨q50, w49, h⟩ := fx_bd h
    refine gb_bind (gf_58 es w49) ?_
    have h := Option.some.inj h
    subst h
    exact gret (gr q50.1) (rfl : _ = gx q50.2)
  · rw [if_neg c26] at h
    refine gb_f (fun q => c26 ((gc_eq e1 kg_0 z38 (by decide)).mp q)) ?_
    by_cases c27 : x1 = 1
    · rw [if_pos c27] at h
      refine gb_t ((gc_eq e1 kg_1 z38 (by decide)).mpr c27) ?_
      have h := Option.some.inj h
      subst h
      exact gret (gf1 es 1 4) es
    · rw [if_neg c27] at h
      refine gb_f (fun q => c27 ((gc_eq e1 kg_1 z38 (by decide)).mp q)) ?_
      by_cases c28 : x1 = 2
      · rw [if_pos c28] at h
        refine gb_t ((gc_eq e1 kg_2 z38 (by decide)).mpr c28) ?_
        obtain ⟨q48, w47, h⟩ := fx_bd h
        refine gb_bind (gf_63 kg_0 kg_8 es w47) ?_
        have h := Option.some.inj h
        subst h
        exact gret (gr q48.1) (rfl : _ = gx q48.2)
      · rw [if_neg c28] at h
        refine gb_f (fun q => c28 ((gc_eq e1 kg_2 z38 (by decide)).mp q)) ?_
        by_cases c29 : x1 = 3
        · rw [if_pos c29] at h
          refine gb_t ((gc_eq e1 kg_3 z38 (by decide)).mpr c29) ?_
          obtain ⟨q46, w45, h⟩ := fx_bd h
          refine gb_bind (gf_63 kg_1 kg_8 es w45) ?_
          have h := Option.some.inj h
          subst h
          exact gret (gr q46.1) (rfl : _ = gx q46.2)
        · rw [if_neg c29] at h
          refine gb_f (fun q => c29 ((gc_eq e1 kg_3 z38 (by decide)).mp q)) ?_
          by_cases c30 : x1 = 4
          · rw [if_pos c30] at h
            refine gb_t ((gc_eq e1 kg_4 z38 (by decide)).mpr c30) ?_
            obtain ⟨q44, w43, h⟩ := fx_bd h
            refine gb_bind (gf_63 kg_2 kg_4 es w43) ?_
            have h := Option.some.inj h
            subst h
            exact gret (gr q44.1) (rfl : _ = gx q44.2)
          · rw [if_neg c30] at h
            refine gb_f (fun q => c30 ((gc_eq e1 kg_4 z38 (by decide)).mp q)) ?_
            by_cases c31 : x1 = 5
            · rw [if_pos c31] at h
              refine gb_t ((gc_eq e1 kg_5 z38 (by decide)).mpr c31) ?_
              have h := Option.some.inj h
              subst h
              exact gret (gf1 es 1 7) es
            · rw [if_neg c31] at h
              refine gb_f (fun q => c31 ((gc_eq e1 kg_5 z38 (by decide)).mp q)) ?_
              by_cases c32 : x1 = 6
              · rw [if_pos c32] at h
                refine gb_t ((gc_eq e1 kg_6 z38 (by decide)).mpr c32) ?_
                have h := Option.some.inj h
                subst h
                exact gret (gf1 es 1 8) es
              · rw [if_neg c32] at h
                refine gb_f (fun q => c32 ((gc_eq e1 kg_6 z38 (by decide)).mp q)) ?_
                by_cases c33 : x1 = 7
                · rw [if_pos c33] at h
                  refine gb_t ((gc_eq e1 kg_7 z38 (by decide)).mpr c33) ?_
                  have h := Option.some.inj h
                  subst h
                  exact gret (gf1 es 1 6) es
                · rw [if_neg c33] at h
                  refine gb_f (fun q => c33 ((gc_eq e1 kg_7 z38 (by decide)).mp q)) ?_
                  by_cases c34 : x1 = 8
                  · rw [if_pos c34] at h
                    refine gb_t ((gc_eq e1 kg_8 z38 (by decide)).mpr c34) ?_
                    have h := Option.some.inj h
                    subst h
                    exact gret (gf1 es 16 2) es
                  · rw [if_neg c34] at h
                    refine gb_f (fun q => c34 ((gc_eq e1 kg_8 z38 (by decide)).mp q)) ?_
                    by_cases c35 : x1 = 9
                    · rw [if_pos c35] at h
                      refine gb_t ((gc_eq e1 kg_9 z38 (by decide)).mpr c35) ?_
                      have h := Option.some.inj h
                      subst h
                      exact gret (gf1 es 14 1) es
                    · rw [if_neg c35] at h
                      refine gb_f (fun q => c35 ((gc_eq e1 kg_9 z38 (by decide)).mp q)) ?_
                      by_cases c36 : x1 = 10
                      · rw [if_pos c36] at h
                        refine gb_t ((gc_eq e1 kg_10 z38 (by decide)).mpr c36) ?_
                        obtain ⟨q42, w41, h⟩ := fx_bd h
                        refine gb_bind (gf_126 kg_1 es w41) ?_
                        have h := Option.some.inj h
                        subst h
                        exact gret (gr q42.1) (rfl : _ = gx q42.2)
                      · rw [if_neg c36] at h
                        refine gb_f (fun q => c36 ((gc_eq e1 kg_10 z38 (by decide)).mp q)) ?_
                        by_cases c37 : x1 = 11
                        · rw [if_pos c37] at h
                          refine gb_t ((gc_eq e1 kg_11 z38 (by decide)).mpr c37) ?_
                          obtain ⟨q40, w39, h⟩ := fx_bd h
                          refine gb_bind (gf_126 kg_0 es w39) ?_
                          have h := Option.some.inj h
                          subst h
                          exact gret (gr q40.1) (rfl : _ = gx q40.2)
                        · rw [if_neg c37] at h
                          refine gb_f (fun q => c37 ((gc_eq e1 kg_11 z38 (by decide)).mp q)) ?_
                          have h := Option.some.inj h
                          subst h
                          exact gret kg_m1 es

/-! ZoneSharesModel.finds(I)Z -/
def gm_168_111 (k168 : Int → gx_S → Option (Bool × gx_S)) (k169 : Int → gx_S → Option (Bool × gx_S)) (k_2 : Int → Int → gx_S → Option (Bool × gx_S)) (x1 : Int) (x2 : Int) (s : gx_S) : Option (Bool × gx_S) :=
  k_2 x1 (x2 + 1) s
theorem gf_168_111 {kf168 : Int32 → fx_S → Option (Bool × fx_S)} {kf169 : Int32 → fx_S → Option (Bool × fx_S)} {kg168 : Int → gx_S → Option (Bool × gx_S)} {kg169 : Int → gx_S → Option (Bool × gx_S)} (hg168 : ∀ (x1 : Int) (yx1 : Int32) (_ : yx1 = Int32.ofInt x1) (s : gx_S) (σ : fx_S) (_ : σ = gx s) (q : Bool × gx_S), kg168 x1 s = some q → kf168 yx1 σ = some (q.1, gx q.2)) (hg169 : ∀ (x1 : Int) (yx1 : Int32) (_ : yx1 = Int32.ofInt x1) (s : gx_S) (σ : fx_S) (_ : σ = gx s) (q : Bool × gx_S), kg169 x1 s = some q → kf169 yx1 σ = some (q.1, gx q.2)) {kf_2 : Int32 → Int32 → fx_S → Option (Bool × fx_S)} {kg_2 : Int → Int → gx_S → Option (Bool × gx_S)} (hk_2 : ∀ (x1 : Int) (yx1 : Int32) (e1 : yx1 = Int32.ofInt x1) (x2 : Int) (yx2 : Int32) (e2 : yx2 = Int32.ofInt x2) (s : gx_S) (σ : fx_S) (es : σ = gx s) (q : Bool × gx_S), kg_2 x1 x2 s = some q → kf_2 yx1 yx2 σ = some (q.1, gx q.2)) (x1 : Int) (yx1 : Int32) (e1 : yx1 = Int32.ofInt x1) (x2 : Int) (yx2 : Int32) (e2 : yx2 = Int32.ofInt x2) (s : gx_S) (σ : fx_S) (es : σ = gx s) (q : Bool × gx_S) (h : gm_168_111 kg168 kg169 kg_2 x1 x2 s = some q) : fm_168_111 kf168 kf169 kf_2 yx1 yx2 σ = some (q.1, gx q.2) := by
  unfold gm_168_111 at h
  unfold fm_168_111
  exact hk_2 _ _ e1 _ _ (ga_add e2 kg_1) _ _ es _ h
def gm_168_88 (k168 : Int → gx_S → Option (Bool × gx_S)) (k169 : Int → gx_S → Option (Bool × gx_S)) (x1 : Int) (x2 : Int) (s : gx_S) : Option (Bool × gx_S) :=
  (gm_160 x1 x2 s).bind fun q2 =>
  if 0 ≤ q2.1 ∧ q2.1 < 72 then (
  if 0 ≤ x2 ∧ x2 < 9 then (
  some (true, (gw2 (gw1 q2.2 232 (q2.1).toNat (gn2 1)) 230 (x2).toNat (((gw1 q2.2 232 (q2.1).toNat (gn2 1)).2 230 (x2).toNat) + 1)))) else none) else none
theorem gf_168_88 {kf168 : Int32 → fx_S → Option (Bool × fx_S)} {kf169 : Int32 → fx_S → Option (Bool × fx_S)} {kg168 : Int → gx_S → Option (Bool × gx_S)} {kg169 : Int → gx_S → Option (Bool × gx_S)} (hg168 : ∀ (x1 : Int) (yx1 : Int32) (_ : yx1 = Int32.ofInt x1) (s : gx_S) (σ : fx_S) (_ : σ = gx s) (q : Bool × gx_S), kg168 x1 s = some q → kf168 yx1 σ = some (q.1, gx q.2)) (hg169 : ∀ (x1 : Int) (yx1 : Int32) (_ : yx1 = Int32.ofInt x1) (s : gx_S) (σ : fx_S) (_ : σ = gx s) (q : Bool × gx_S), kg169 x1 s = some q → kf169 yx1 σ = some (q.1, gx q.2)) (x1 : Int) (yx1 : Int32) (e1 : yx1 = Int32.ofInt x1) (x2 : Int) (yx2 : Int32) (e2 : yx2 = Int32.ofInt x2) (s : gx_S) (σ : fx_S) (es : σ = gx s) (q : Bool × gx_S) (h : gm_168_88 kg168 kg169 x1 x2 s = some q) : fm_168_88 kf168 kf169 yx1 yx2 σ = some (q.1, gx q.2) := by
  unfold gm_168_88 at h
  unfold fm_168_88
  obtain ⟨q2, w1, h⟩ := fx_bd h
  refine gb_bind (gf_160 e1 e2 es w1) ?_
  obtain ⟨z5, h⟩ := fx_gd h
  refine gb_bind (gl_stb2 (rfl : _ = gx q2.2) (gr q2.1) kg_1 ga_232 z5) ?_
  obtain ⟨z8, h⟩ := fx_gd h
  refine gb_bind (gl_ldl (rfl : _ = gx (gw1 q2.2 232 (q2.1).toNat (gn2 1))) e2 ga_230 z8) ?_
  refine gb_bind (gl_stl (rfl : _ = gx (gw1 q2.2 232 (q2.1).toNat (gn2 1))) e2 (gal_add (gr2 ((gw1 q2.2 232 (q2.1).toNat (gn2 1)).2 230 (x2).toNat)) kgl_1) ga_230 z8) ?_
  have h := Option.some.inj h
  subst h
  exact gretb (rfl : _ = gx (gw2 (gw1 q2.2 232 (q2.1).toNat (gn2 1)) 230 (x2).toNat (((gw1 q2.2 232 (q2.1).toNat (gn2 1)).2 230 (x2).toNat) + 1)))
def gm_168_2 (k168 : Int → gx_S → Option (Bool × gx_S)) (k169 : Int → gx_S → Option (Bool × gx_S)) : Nat → Int → Int → gx_S → Option (Bool × gx_S)
  | 0, _, _, _ => none
  | n + 1, x1, x2, s =>
    if (-2147483648 ≤ x2 ∧ x2 ≤ 2147483647) then (
    if (-2147483648 ≤ (s.1 215 18) ∧ (s.1 215 18) ≤ 2147483647) then (
    if (s.1 215 18) ≤ x2 then (
      some (false, s)) else (
      (gm_167 x1 x2 s).bind fun q5 =>
      if (gb q5.1) = 0 then (
        gm_168_111 k168 k169 (gm_168_2 k168 k169 n) x1 x2 q5.2) else (
        (gm_160 x1 x2 q5.2).bind fun q8 =>
        if 0 ≤ q8.1 ∧ q8.1 < 72 then (
        if (-2147483648 ≤ (q8.2.1 233 (q8.1).toNat) ∧ (q8.2.1 233 (q8.1).toNat) ≤ 2147483647) then (
        if ¬ (q8.2.1 233 (q8.1).toNat) = 0 then (
          gm_168_111 k168 k169 (gm_168_2 k168 k169 n) x1 x2 q8.2) else (
          (gm_160 x1 x2 q8.2).bind fun q15 =>
          if 0 ≤ q15.1 ∧ q15.1 < 72 then (
          if (-2147483648 ≤ (q15.2.1 232 (q15.1).toNat) ∧ (q15.2.1 232 (q15.1).toNat) ≤ 2147483647) then (
          if ¬ (q15.2.1 232 (q15.1).toNat) = 0 then (
            gm_168_111 k168 k169 (gm_168_2 k168 k169 n) x1 x2 q15.2) else (
            if 0 ≤ x2 ∧ x2 < 9 then (
            if (-2147483648 ≤ (q15.2.1 235 (x2).toNat) ∧ (q15.2.1 235 (x2).toNat) ≤ 2147483647) then (
            if (q15.2.1 235 (x2).toNat) = 0 then (
              if (-9223372036854775808 ≤ ((gw1 q15.2 235 (x2).toNat (gn2 1)).2 230 (x2).toNat) ∧ ((gw1 q15.2 235 (x2).toNat (gn2 1)).2 230 (x2).toNat) ≤ 9223372036854775807) then (
              if (-9223372036854775808 ≤ ((gw1 q15.2 235 (x2).toNat (gn2 1)).2 229 (x2).toNat) ∧ ((gw1 q15.2 235 (x2).toNat (gn2 1)).2 229 (x2).toNat) ≤ 9223372036854775807) then (
              if ((gw1 q15.2 235 (x2).toNat (gn2 1)).2 230 (x2).toNat) < ((gw1 q15.2 235 (x2).toNat (gn2 1)).2 229 (x2).toNat) then (
                gm_168_88 k168 k169 x1 x2 (gw1 q15.2 235 (x2).toNat (gn2 1))) else (
                (k169 x2 (gw1 q15.2 235 (x2).toNat (gn2 1))).bind fun q36 =>
                if (gb q36.1) = 0 then (
                  gm_168_111 k168 k169 (gm_168_2 k168 k169 n) x1 x2 q36.2) else (
                  gm_168_88 k168 k169 x1 x2 q36.2))) else none) else none) else (
              gm_168_111 k168 k169 (gm_168_2 k168 k169 n) x1 x2 q15.2)) else none) else none)) else none) else none)) else none) else none))) else none) else none
theorem gf_168_2 {kf168 : Int32 → fx_S → Option (Bool × fx_S)} {kf169 : Int32 → fx_S → Option (Bool × fx_S)} {kg168 : Int → gx_S → Option (Bool × gx_S)} {kg169 : Int → gx_S → Option (Bool × gx_S)} (hg168 : ∀ (x1 : Int) (yx1 : Int32) (_ : yx1 = Int32.ofInt x1) (s : gx_S) (σ : fx_S) (_ : σ = gx s) (q : Bool × gx_S), kg168 x1 s = some q → kf168 yx1 σ = some (q.1, gx q.2)) (hg169 : ∀ (x1 : Int) (yx1 : Int32) (_ : yx1 = Int32.ofInt x1) (s : gx_S) (σ : fx_S) (_ : σ = gx s) (q : Bool × gx_S), kg169 x1 s = some q → kf169 yx1 σ = some (q.1, gx q.2)) : ∀ (n : Nat) (x1 : Int) (yx1 : Int32) (e1 : yx1 = Int32.ofInt x1) (x2 : Int) (yx2 : Int32) (e2 : yx2 = Int32.ofInt x2) (s : gx_S) (σ : fx_S) (es : σ = gx s) (q : Bool × gx_S), gm_168_2 kg168 kg169 n x1 x2 s = some q → fm_168_2 kf168 kf169 n yx1 yx2 σ = some (q.1, gx q.2) := by
  intro n
  induction n with
  | zero =>
    intro x1 yx1 e1 x2 yx2 e2 s σ es q  h
    rw [gm_168_2] at h
    exact fx_no h
  | succ n ih =>
    intro x1 yx1 e1 x2 yx2 e2 s σ es q  h
    rw [gm_168_2] at h
    rw [fm_168_2]
    obtain ⟨z1, h⟩ := fx_gd h
    obtain ⟨z2, h⟩ := fx_gd h
    by_cases c3 : (s.1 215 18) ≤ x2
    · rw [if_pos c3] at h
      refine gb_t ((gc_le (gf1 es 215 18) e2 z2 z1).mpr c3) ?_
      have h := Option.some.inj h
      subst h
      exact gretb es
    · rw [if_neg c3] at h
      refine gb_f (fun q => c3 ((gc_le (gf1 es 215 18) e2 z2 z1).mp q)) ?_
      obtain ⟨q5, w4, h⟩ := fx_bd h
      refine gb_bind (gf_167 e1 e2 es w4) ?_
      by_cases c6 : (gb q5.1) = 0
      · rw [if_pos c6] at h
        refine gb_t ((gc_eq (gb_b q5.1) kg_0 (gb_r _) (by decide)).mpr c6) ?_
        exact gf_168_111 hg168 hg169 ih _ _ e1 _ _ e2 _ _ (rfl : _ = gx q5.2) _ h
      · rw [if_neg c6] at h
        refine gb_f (fun q => c6 ((gc_eq (gb_b q5.1) kg_0 (gb_r _) (by decide)).mp q)) ?_
        obtain ⟨q8, w7, h⟩ := fx_bd h
        refine gb_bind (gf_160 e1 e2 (rfl : _ = gx q5.2) w7) ?_
        obtain ⟨z11, h⟩ := fx_gd h
        refine gb_bind (gl_ldb2 (rfl : _ = gx q8.2) (gr q8.1) ga_233 z11) ?_
        obtain ⟨z12, h⟩ := fx_gd h
        by_cases c13 : ¬ (q8.2.1 233 (q8.1).toNat) = 0
        · rw [if_pos c13] at h
          refine gb_t ((gc_ne (gr (q8.2.1 233 (q8.1).toNat)) kg_0 z12 (by decide)).mpr c13) ?_
          exact gf_168_111 hg168 hg169 ih _ _ e1 _ _ e2 _ _ (rfl : _ = gx q8.2) _ h
        · rw [if_neg c13] at h
          refine gb_f (fun q => c13 ((gc_ne (gr (q8.2.1 233 (q8.1).toNat)) kg_0 z12 (by decide)).mp q)) ?_
          obtain ⟨q15, w14, h⟩ := fx_bd h
          refine gb_bind (gf_160 e1 e2 (rfl : _ = gx q8.2) w14) ?_
          obtain ⟨z18, h⟩ := fx_gd h
          refine gb_bind (gl_ldb2 (rfl : _ = gx q15.2) (gr q15.1) ga_232 z18) ?_
          obtain ⟨z19, h⟩ := fx_gd h
          by_cases c20 : ¬ (q15.2.1 232 (q15.1).toNat) = 0
          · rw [if_pos c20] at h
            refine gb_t ((gc_ne (gr (q15.2.1 232 (q15.1).toNat)) kg_0 z19 (by decide)).mpr c20) ?_
            exact gf_168_111 hg168 hg169 ih _ _ e1 _ _ e2 _ _ (rfl : _ = gx q15.2) _ h
          · rw [if_neg c20] at h
            refine gb_f (fun q => c20 ((gc_ne (gr (q15.2.1 232 (q15.1).toNat)) kg_0 z19 (by decide)).mp q)) ?_
            obtain ⟨z23, h⟩ := fx_gd h
            refine gb_bind (gl_ldb2 (rfl : _ = gx q15.2) e2 ga_235 z23) ?_
            obtain ⟨z24, h⟩ := fx_gd h
            by_cases c25 : (q15.2.1 235 (x2).toNat) = 0
            · rw [if_pos c25] at h
              refine gb_t ((gc_eq (gr (q15.2.1 235 (x2).toNat)) kg_0 z24 (by decide)).mpr c25) ?_
              refine gb_bind (gl_stb2 (rfl : _ = gx q15.2) e2 kg_1 ga_235 z23) ?_
              refine gb_bind (gl_ldl (rfl : _ = gx (gw1 q15.2 235 (x2).toNat (gn2 1))) e2 ga_230 z23) ?_
              refine gb_bind (gl_ldl (rfl : _ = gx (gw1 q15.2 235 (x2).toNat (gn2 1))) e2 ga_229 z23) ?_
              obtain ⟨z32, h⟩ := fx_gd h
              obtain ⟨z33, h⟩ := fx_gd h
              by_cases c34 : ((gw1 q15.2 235 (x2).toNat (gn2 1)).2 230 (x2).toNat) < ((gw1 q15.2 235 (x2).toNat (gn2 1)).2 229 (x2).toNat)
              · rw [if_pos c34] at h
                refine gb_t ((gcl_lt (gr2 ((gw1 q15.2 235 (x2).toNat (gn2 1)).2 230 (x2).toNat)) (gr2 ((gw1 q15.2 235 (x2).toNat (gn2 1)).2 229 (x2).toNat)) z32 z33).mpr c34) ?_
                exact gf_168_88 hg168 hg169 _ _ e1 _ _ e2 _ _ (rfl : _ = gx (gw1 q15.2 235 (x2).toNat (gn2 1))) _ h
              · rw [if_neg c34] at h
                refine gb_f (fun q => c34 ((gcl_lt (gr2 ((gw1 q15.2 235 (x2).toNat (gn2 1)).2 230 (x2).toNat)) (gr2 ((gw1 q15.2 235 (x2).toNat (gn2 1)).2 229 (x2).toNat)) z32 z33).mp q)) ?_
                obtain ⟨q36, w35, h⟩ := fx_bd h
                refine gb_bind (hg169 _ _ e2 _ _ (rfl : _ = gx (gw1 q15.2 235 (x2).toNat (gn2 1))) _ w35) ?_
                by_cases c37 : (gb q36.1) = 0
                · rw [if_pos c37] at h
                  refine gb_t ((gc_eq (gb_b q36.1) kg_0 (gb_r _) (by decide)).mpr c37) ?_
                  exact gf_168_111 hg168 hg169 ih _ _ e1 _ _ e2 _ _ (rfl : _ = gx q36.2) _ h
                · rw [if_neg c37] at h
                  refine gb_f (fun q => c37 ((gc_eq (gb_b q36.1) kg_0 (gb_r _) (by decide)).mp q)) ?_
                  exact gf_168_88 hg168 hg169 _ _ e1 _ _ e2 _ _ (rfl : _ = gx q36.2) _ h
            · rw [if_neg c25] at h
              refine gb_f (fun q => c25 ((gc_eq (gr (q15.2.1 235 (x2).toNat)) kg_0 z24 (by decide)).mp q)) ?_
              exact gf_168_111 hg168 hg169 ih _ _ e1 _ _ e2 _ _ (rfl : _ = gx q15.2) _ h
def gm_168o (k168 : Int → gx_S → Option (Bool × gx_S)) (k169 : Int → gx_S → Option (Bool × gx_S)) (x1 : Int) (s : gx_S) : Option (Bool × gx_S) :=
  gm_168_2 k168 k169 100000 x1 0 s
theorem gf_168o {kf168 : Int32 → fx_S → Option (Bool × fx_S)} {kf169 : Int32 → fx_S → Option (Bool × fx_S)} {kg168 : Int → gx_S → Option (Bool × gx_S)} {kg169 : Int → gx_S → Option (Bool × gx_S)} (hg168 : ∀ (x1 : Int) (yx1 : Int32) (_ : yx1 = Int32.ofInt x1) (s : gx_S) (σ : fx_S) (_ : σ = gx s) (q : Bool × gx_S), kg168 x1 s = some q → kf168 yx1 σ = some (q.1, gx q.2)) (hg169 : ∀ (x1 : Int) (yx1 : Int32) (_ : yx1 = Int32.ofInt x1) (s : gx_S) (σ : fx_S) (_ : σ = gx s) (q : Bool × gx_S), kg169 x1 s = some q → kf169 yx1 σ = some (q.1, gx q.2)) {x1 : Int} {yx1 : Int32} (e1 : yx1 = Int32.ofInt x1) {s : gx_S} {σ : fx_S} (es : σ = gx s) {q : Bool × gx_S} (h : gm_168o kg168 kg169 x1 s = some q) : fm_168o kf168 kf169 yx1 σ = some (q.1, gx q.2) := by
  unfold gm_168o at h
  unfold fm_168o
  exact gf_168_2 hg168 hg169 100000 _ _ e1 _ _ kg_0 _ _ es _ h

/-! ZoneSharesModel.makesPlace(I)Z -/
def gm_169_67 (k168 : Int → gx_S → Option (Bool × gx_S)) (k169 : Int → gx_S → Option (Bool × gx_S)) (k_2 : Int → Int → gx_S → Option (Bool × gx_S)) (x1 : Int) (x2 : Int) (s : gx_S) : Option (Bool × gx_S) :=
  k_2 x1 (x2 + 1) s
theorem gf_169_67 {kf168 : Int32 → fx_S → Option (Bool × fx_S)} {kf169 : Int32 → fx_S → Option (Bool × fx_S)} {kg168 : Int → gx_S → Option (Bool × gx_S)} {kg169 : Int → gx_S → Option (Bool × gx_S)} (hg168 : ∀ (x1 : Int) (yx1 : Int32) (_ : yx1 = Int32.ofInt x1) (s : gx_S) (σ : fx_S) (_ : σ = gx s) (q : Bool × gx_S), kg168 x1 s = some q → kf168 yx1 σ = some (q.1, gx q.2)) (hg169 : ∀ (x1 : Int) (yx1 : Int32) (_ : yx1 = Int32.ofInt x1) (s : gx_S) (σ : fx_S) (_ : σ = gx s) (q : Bool × gx_S), kg169 x1 s = some q → kf169 yx1 σ = some (q.1, gx q.2)) {kf_2 : Int32 → Int32 → fx_S → Option (Bool × fx_S)} {kg_2 : Int → Int → gx_S → Option (Bool × gx_S)} (hk_2 : ∀ (x1 : Int) (yx1 : Int32) (e1 : yx1 = Int32.ofInt x1) (x2 : Int) (yx2 : Int32) (e2 : yx2 = Int32.ofInt x2) (s : gx_S) (σ : fx_S) (es : σ = gx s) (q : Bool × gx_S), kg_2 x1 x2 s = some q → kf_2 yx1 yx2 σ = some (q.1, gx q.2)) (x1 : Int) (yx1 : Int32) (e1 : yx1 = Int32.ofInt x1) (x2 : Int) (yx2 : Int32) (e2 : yx2 = Int32.ofInt x2) (s : gx_S) (σ : fx_S) (es : σ = gx s) (q : Bool × gx_S) (h : gm_169_67 kg168 kg169 kg_2 x1 x2 s = some q) : fm_169_67 kf168 kf169 kf_2 yx1 yx2 σ = some (q.1, gx q.2) := by
  unfold gm_169_67 at h
  unfold fm_169_67
  exact hk_2 _ _ e1 _ _ (ga_add e2 kg_1) _ _ es _ h
def gm_169_2 (k168 : Int → gx_S → Option (Bool × gx_S)) (k169 : Int → gx_S → Option (Bool × gx_S)) : Nat → Int → Int → gx_S → Option (Bool × gx_S)
  | 0, _, _, _ => none
  | n + 1, x1, x2, s =>
    if (-2147483648 ≤ x2 ∧ x2 ≤ 2147483647) then (
    if (-2147483648 ≤ (s.1 215 17) ∧ (s.1 215 17) ≤ 2147483647) then (
    if (s.1 215 17) ≤ x2 then (
      some (false, s)) else (
      (gm_160 x2 x1 s).bind fun q5 =>
      if 0 ≤ q5.1 ∧ q5.1 < 72 then (
      if (-2147483648 ≤ (q5.2.1 232 (q5.1).toNat) ∧ (q5.2.1 232 (q5.1).toNat) ≤ 2147483647) then (
      if (q5.2.1 232 (q5.1).toNat) = 0 then (
        gm_169_67 k168 k169 (gm_169_2 k168 k169 n) x1 x2 q5.2) else (
        (gm_160 x2 x1 q5.2).bind fun q12 =>
        if 0 ≤ q12.1 ∧ q12.1 < 72 then (
        if (-2147483648 ≤ (q12.2.1 233 (q12.1).toNat) ∧ (q12.2.1 233 (q12.1).toNat) ≤ 2147483647) then (
        if ¬ (q12.2.1 233 (q12.1).toNat) = 0 then (
          gm_169_67 k168 k169 (gm_169_2 k168 k169 n) x1 x2 q12.2) else (
          (k168 x2 q12.2).bind fun q19 =>
          if (gb q19.1) = 0 then (
            gm_169_67 k168 k169 (gm_169_2 k168 k169 n) x1 x2 q19.2) else (
            (gm_160 x2 x1 q19.2).bind fun q22 =>
            if 0 ≤ q22.1 ∧ q22.1 < 72 then (
            if 0 ≤ x1 ∧ x1 < 9 then (
            some (true, (gw2 (gw1 q22.2 232 (q22.1).toNat (gn2 0)) 230 (x1).toNat (((gw1 q22.2 232 (q22.1).toNat (gn2 0)).2 230 (x1).toNat) - 1)))) else none) else none))) else none) else none)) else none) else none)) else none) else none
theorem gf_169_2 {kf168 : Int32 → fx_S → Option (Bool × fx_S)} {kf169 : Int32 → fx_S → Option (Bool × fx_S)} {kg168 : Int → gx_S → Option (Bool × gx_S)} {kg169 : Int → gx_S → Option (Bool × gx_S)} (hg168 : ∀ (x1 : Int) (yx1 : Int32) (_ : yx1 = Int32.ofInt x1) (s : gx_S) (σ : fx_S) (_ : σ = gx s) (q : Bool × gx_S), kg168 x1 s = some q → kf168 yx1 σ = some (q.1, gx q.2)) (hg169 : ∀ (x1 : Int) (yx1 : Int32) (_ : yx1 = Int32.ofInt x1) (s : gx_S) (σ : fx_S) (_ : σ = gx s) (q : Bool × gx_S), kg169 x1 s = some q → kf169 yx1 σ = some (q.1, gx q.2)) : ∀ (n : Nat) (x1 : Int) (yx1 : Int32) (e1 : yx1 = Int32.ofInt x1) (x2 : Int) (yx2 : Int32) (e2 : yx2 = Int32.ofInt x2) (s : gx_S) (σ : fx_S) (es : σ = gx s) (q : Bool × gx_S), gm_169_2 kg168 kg169 n x1 x2 s = some q → fm_169_2 kf168 kf169 n yx1 yx2 σ = some (q.1, gx q.2) := by
  intro n
  induction n with
  | zero =>
    intro x1 yx1 e1 x2 yx2 e2 s σ es q  h
    rw [gm_169_2] at h
    exact fx_no h
  | succ n ih =>
    intro x1 yx1 e1 x2 yx2 e2 s σ es q  h
    rw [gm_169_2] at h
    rw [fm_169_2]
    obtain ⟨z1, h⟩ := fx_gd h
    obtain ⟨z2, h⟩ := fx_gd h
    by_cases c3 : (s.1 215 17) ≤ x2
    · rw [if_pos c3] at h
      refine gb_t ((gc_le (gf1 es 215 17) e2 z2 z1).mpr c3) ?_
      have h := Option.some.inj h
      subst h
      exact gretb es
    · rw [if_neg c3] at h
      refine gb_f (fun q => c3 ((gc_le (gf1 es 215 17) e2 z2 z1).mp q)) ?_
      obtain ⟨q5, w4, h⟩ := fx_bd h
      refine gb_bind (gf_160 e2 e1 es w4) ?_
      obtain ⟨z8, h⟩ := fx_gd h
      refine gb_bind (gl_ldb2 (rfl : _ = gx q5.2) (gr q5.1) ga_232 z8) ?_
      obtain ⟨z9, h⟩ := fx_gd h
      by_cases c10 : (q5.2.1 232 (q5.1).toNat) = 0
      · rw [if_pos c10] at h
        refine gb_t ((gc_eq (gr (q5.2.1 232 (q5.1).toNat)) kg_0 z9 (by decide)).mpr c10) ?_
        exact gf_169_67 hg168 hg169 ih _ _ e1 _ _ e2 _ _ (rfl : _ = gx q5.2) _ h
      · rw [if_neg c10] at h
        refine gb_f (fun q => c10 ((gc_eq (gr (q5.2.1 232 (q5.1).toNat)) kg_0 z9 (by decide)).mp q)) ?_
        obtain ⟨q12, w11, h⟩ := fx_bd h
        refine gb_bind (gf_160 e2 e1 (rfl : _ = gx q5.2) w11) ?_
        obtain ⟨z15, h⟩ := fx_gd h
        refine gb_bind (gl_ldb2 (rfl : _ = gx q12.2) (gr q12.1) ga_233 z15) ?_
        obtain ⟨z16, h⟩ := fx_gd h
        by_cases c17 : ¬ (q12.2.1 233 (q12.1).toNat) = 0
        · rw [if_pos c17] at h
          refine gb_t ((gc_ne (gr (q12.2.1 233 (q12.1).toNat)) kg_0 z16 (by decide)).mpr c17) ?_
          exact gf_169_67 hg168 hg169 ih _ _ e1 _ _ e2 _ _ (rfl : _ = gx q12.2) _ h
        · rw [if_neg c17] at h
          refine gb_f (fun q => c17 ((gc_ne (gr (q12.2.1 233 (q12.1).toNat)) kg_0 z16 (by decide)).mp q)) ?_
          obtain ⟨q19, w18, h⟩ := fx_bd h
          refine gb_bind (hg168 _ _ e2 _ _ (rfl : _ = gx q12.2) _ w18) ?_
          by_cases c20 : (gb q19.1) = 0
          · rw [if_pos c20] at h
            refine gb_t ((gc_eq (gb_b q19.1) kg_0 (gb_r _) (by decide)).mpr c20) ?_
            exact gf_169_67 hg168 hg169 ih _ _ e1 _ _ e2 _ _ (rfl : _ = gx q19.2) _ h
          · rw [if_neg c20] at h
            refine gb_f (fun q => c20 ((gc_eq (gb_b q19.1) kg_0 (gb_r _) (by decide)).mp q)) ?_
            obtain ⟨q22, w21, h⟩ := fx_bd h
            refine gb_bind (gf_160 e2 e1 (rfl : _ = gx q19.2) w21) ?_
            obtain ⟨z25, h⟩ := fx_gd h
            refine gb_bind (gl_stb2 (rfl : _ = gx q22.2) (gr q22.1) kg_0 ga_232 z25) ?_
            obtain ⟨z28, h⟩ := fx_gd h
            refine gb_bind (gl_ldl (rfl : _ = gx (gw1 q22.2 232 (q22.1).toNat (gn2 0))) e1 ga_230 z28) ?_
            refine gb_bind (gl_stl (rfl : _ = gx (gw1 q22.2 232 (q22.1).toNat (gn2 0))) e1 (gal_sub (gr2 ((gw1 q22.2 232 (q22.1).toNat (gn2 0)).2 230 (x1).toNat)) kgl_1) ga_230 z28) ?_
            have h := Option.some.inj h
            subst h
            exact gretb (rfl : _ = gx (gw2 (gw1 q22.2 232 (q22.1).toNat (gn2 0)) 230 (x1).toNat (((gw1 q22.2 232 (q22.1).toNat (gn2 0)).2 230 (x1).toNat) - 1)))
def gm_169o (k168 : Int → gx_S → Option (Bool × gx_S)) (k169 : Int → gx_S → Option (Bool × gx_S)) (x1 : Int) (s : gx_S) : Option (Bool × gx_S) :=
  gm_169_2 k168 k169 100000 x1 0 s
theorem gf_169o {kf168 : Int32 → fx_S → Option (Bool × fx_S)} {kf169 : Int32 → fx_S → Option (Bool × fx_S)} {kg168 : Int → gx_S → Option (Bool × gx_S)} {kg169 : Int → gx_S → Option (Bool × gx_S)} (hg168 : ∀ (x1 : Int) (yx1 : Int32) (_ : yx1 = Int32.ofInt x1) (s : gx_S) (σ : fx_S) (_ : σ = gx s) (q : Bool × gx_S), kg168 x1 s = some q → kf168 yx1 σ = some (q.1, gx q.2)) (hg169 : ∀ (x1 : Int) (yx1 : Int32) (_ : yx1 = Int32.ofInt x1) (s : gx_S) (σ : fx_S) (_ : σ = gx s) (q : Bool × gx_S), kg169 x1 s = some q → kf169 yx1 σ = some (q.1, gx q.2)) {x1 : Int} {yx1 : Int32} (e1 : yx1 = Int32.ofInt x1) {s : gx_S} {σ : fx_S} (es : σ = gx s) {q : Bool × gx_S} (h : gm_169o kg168 kg169 x1 s = some q) : fm_169o kf168 kf169 yx1 σ = some (q.1, gx q.2) := by
  unfold gm_169o at h
  unfold fm_169o
  exact gf_169_2 hg168 hg169 100000 _ _ e1 _ _ kg_0 _ _ es _ h

def gm_168f : Nat → Int → gx_S → Option (Bool × gx_S)
  | 0, _, _ => none
  | n + 1, r, s => gm_168o (fun _ _ => none) (fun c t => gm_169o (gm_168f n) (fun _ _ => none) c t) r s
theorem gf_168f : ∀ (n : Nat) (x1 : Int) (yx1 : Int32) (e1 : yx1 = Int32.ofInt x1) (s : gx_S) (σ : fx_S) (es : σ = gx s) (q : Bool × gx_S) (h : gm_168f n x1 s = some q), fm_168f n yx1 σ = some (q.1, gx q.2) := by
  intro n
  induction n with
  | zero => intro x1 y e1 s σ es q h; exact fx_no h
  | succ n ih =>
    intro x1 y e1 s σ es q h
    exact gf_168o (fun _ _ _ _ _ _ _ h => fx_no h) (fun x1 y e1 s σ es q h => gf_169o ih (fun _ _ _ _ _ _ _ h => fx_no h) e1 es h) e1 es h
def gm_168 (x1 : Int) (s : gx_S) : Option (Bool × gx_S) := gm_168f 12 x1 s
theorem gf_168 {x1 : Int} {yx1 : Int32} (e1 : yx1 = Int32.ofInt x1) {s : gx_S} {σ : fx_S} (es : σ = gx s) {q : Bool × gx_S} (h : gm_168 x1 s = some q) : fm_168 yx1 σ = some (q.1, gx q.2) := gf_168f 12 _ _ e1 _ _ es _ h

/-! ZoneSharesModel.fitsFrom(II)V -/
def gm_211_113 (k211 : Int → Int → gx_S → Option (gx_S)) : Nat → Int → gx_S → Option (gx_S)
  | 0, _, _ => none
  | n + 1, x3, s =>
    if (-2147483648 ≤ x3 ∧ x3 ≤ 2147483647) then (
    if 4 ≤ x3 then (
      some s) else (
      if 0 ≤ x3 ∧ x3 < 4 then (
      gm_211_113 k211 n (x3 + 1) (gw1 s 244 (x3).toNat (s.1 243 (x3).toNat))) else none)) else none
theorem gf_211_113 {kf211 : Int32 → Int32 → fx_S → Option (fx_S)} {kg211 : Int → Int → gx_S → Option (gx_S)} (hg211 : ∀ (x1 : Int) (yx1 : Int32) (_ : yx1 = Int32.ofInt x1) (x2 : Int) (yx2 : Int32) (_ : yx2 = Int32.ofInt x2) (s : gx_S) (σ : fx_S) (_ : σ = gx s) (q : gx_S), kg211 x1 x2 s = some q → kf211 yx1 yx2 σ = some (gx q)) : ∀ (n : Nat) (x3 : Int) (yx3 : Int32) (e3 : yx3 = Int32.ofInt x3) (s : gx_S) (σ : fx_S) (es : σ = gx s) (q : gx_S), gm_211_113 kg211 n x3 s = some q → fm_211_113 kf211 n yx3 σ = some (gx q) := by
  intro n
  induction n with
  | zero =>
    intro x3 yx3 e3 s σ es q  h
    rw [gm_211_113] at h
    exact fx_no h
  | succ n ih =>
    intro x3 yx3 e3 s σ es q  h
    rw [gm_211_113] at h
    rw [fm_211_113]
    obtain ⟨z1, h⟩ := fx_gd h
    by_cases c2 : 4 ≤ x3
    · rw [if_pos c2] at h
      refine gb_t ((gc_le kg_4 e3 (by decide) z1).mpr c2) ?_
      have h := Option.some.inj h
      subst h
      exact gretv es
    · rw [if_neg c2] at h
      refine gb_f (fun q => c2 ((gc_le kg_4 e3 (by decide) z1).mp q)) ?_
      obtain ⟨z5, h⟩ := fx_gd h
      refine gb_bind (gl_ld es e3 ga_243 z5) ?_
      refine gb_bind (gl_st es e3 (gr (s.1 243 (x3).toNat)) ga_244 z5) ?_
      exact ih _ _ (ga_add e3 kg_1) _ _ (rfl : _ = gx (gw1 s 244 (x3).toNat (s.1 243 (x3).toNat))) _ h
def gm_211_90 (k211 : Int → Int → gx_S → Option (gx_S)) (s : gx_S) : Option (gx_S) :=
  gm_211_113 k211 100000 0 (gw2 (gw2 (gw1 s 215 43 1) 215 44 ((gw1 s 215 43 1).2 215 40)) 215 45 ((gw2 (gw1 s 215 43 1) 215 44 ((gw1 s 215 43 1).2 215 40)).2 215 41))
theorem gf_211_90 {kf211 : Int32 → Int32 → fx_S → Option (fx_S)} {kg211 : Int → Int → gx_S → Option (gx_S)} (hg211 : ∀ (x1 : Int) (yx1 : Int32) (_ : yx1 = Int32.ofInt x1) (x2 : Int) (yx2 : Int32) (_ : yx2 = Int32.ofInt x2) (s : gx_S) (σ : fx_S) (_ : σ = gx s) (q : gx_S), kg211 x1 x2 s = some q → kf211 yx1 yx2 σ = some (gx q)) (s : gx_S) (σ : fx_S) (es : σ = gx s) (q : gx_S) (h : gm_211_90 kg211 s = some q) : fm_211_90 kf211 σ = some (gx q) := by
  unfold gm_211_90 at h
  unfold fm_211_90
  exact gf_211_113 hg211 100000 _ _ kg_0 _ _ (gx_w2 (gx_w2 (gx_w1 es kg_1) (gf2 (gx_w1 es kg_1) 215 40)) (gf2 (gx_w2 (gx_w1 es kg_1) (gf2 (gx_w1 es kg_1) 215 40)) 215 41)) _ h
def gm_211_24 (k211 : Int → Int → gx_S → Option (gx_S)) : Nat → Int → Int → Int → gx_S → Option (gx_S)
  | 0, _, _, _, _ => none
  | n + 1, x1, x2, x3, s =>
    if (-2147483648 ≤ x3 ∧ x3 ≤ 2147483647) then (
    if 10 ≤ x3 then (
      some s) else (
      if 0 ≤ x2 ∧ x2 < 4 then (
      (k211 x1 (x2 + 1) (gw1 s 243 (x2).toNat x3)).bind fun q7 =>
      gm_211_24 k211 n x1 x2 (x3 + 1) q7) else none)) else none
theorem gf_211_24 {kf211 : Int32 → Int32 → fx_S → Option (fx_S)} {kg211 : Int → Int → gx_S → Option (gx_S)} (hg211 : ∀ (x1 : Int) (yx1 : Int32) (_ : yx1 = Int32.ofInt x1) (x2 : Int) (yx2 : Int32) (_ : yx2 = Int32.ofInt x2) (s : gx_S) (σ : fx_S) (_ : σ = gx s) (q : gx_S), kg211 x1 x2 s = some q → kf211 yx1 yx2 σ = some (gx q)) : ∀ (n : Nat) (x1 : Int) (yx1 : Int32) (e1 : yx1 = Int32.ofInt x1) (x2 : Int) (yx2 : Int32) (e2 : yx2 = Int32.ofInt x2) (x3 : Int) (yx3 : Int32) (e3 : yx3 = Int32.ofInt x3) (s : gx_S) (σ : fx_S) (es : σ = gx s) (q : gx_S), gm_211_24 kg211 n x1 x2 x3 s = some q → fm_211_24 kf211 n yx1 yx2 yx3 σ = some (gx q) := by
  intro n
  induction n with
  | zero =>
    intro x1 yx1 e1 x2 yx2 e2 x3 yx3 e3 s σ es q  h
    rw [gm_211_24] at h
    exact fx_no h
  | succ n ih =>
    intro x1 yx1 e1 x2 yx2 e2 x3 yx3 e3 s σ es q  h
    rw [gm_211_24] at h
    rw [fm_211_24]
    obtain ⟨z1, h⟩ := fx_gd h
    by_cases c2 : 10 ≤ x3
    · rw [if_pos c2] at h
      refine gb_t ((gc_le kg_10 e3 (by decide) z1).mpr c2) ?_
      have h := Option.some.inj h
      subst h
      exact gretv es
    · rw [if_neg c2] at h
      refine gb_f (fun q => c2 ((gc_le kg_10 e3 (by decide) z1).mp q)) ?_
      obtain ⟨z5, h⟩ := fx_gd h
      refine gb_bind (gl_st es e2 e3 ga_243 z5) ?_
      obtain ⟨q7, w6, h⟩ := fx_bd h
      refine gb_bind (hg211 _ _ e1 _ _ (ga_add e2 kg_1) _ _ (rfl : _ = gx (gw1 s 243 (x2).toNat x3)) _ w6) ?_
      exact ih _ _ e1 _ _ e2 _ _ (ga_add e3 kg_1) _ _ (rfl : _ = gx q7) _ h
def gm_211o (k211 : Int → Int → gx_S → Option (gx_S)) (x1 : Int) (x2 : Int) (s : gx_S) : Option (gx_S) :=
  if (-2147483648 ≤ x2 ∧ x2 ≤ 2147483647) then (
  if 4 ≤ x2 then (
    (gm_209 x1 s).bind fun q34 =>
    if (gb q34.1) = 0 then (
      some q34.2) else (
      if (-2147483648 ≤ (q34.2.1 215 43) ∧ (q34.2.1 215 43) ≤ 2147483647) then (
      if (q34.2.1 215 43) = 0 then (
        gm_211_90 k211 q34.2) else (
        if (-9223372036854775808 ≤ ((q34.2.2 215 40) * (q34.2.2 215 45)) ∧ ((q34.2.2 215 40) * (q34.2.2 215 45)) ≤ 9223372036854775807) then (
        if (-9223372036854775808 ≤ ((q34.2.2 215 44) * (q34.2.2 215 41)) ∧ ((q34.2.2 215 44) * (q34.2.2 215 41)) ≤ 9223372036854775807) then (
        if ((q34.2.2 215 40) * (q34.2.2 215 45)) < ((q34.2.2 215 44) * (q34.2.2 215 41)) then (
          gm_211_90 k211 q34.2) else (
          some q34.2)) else none) else none)) else none)) else (
    (gm_207 x2 s).bind fun q42 =>
    if (-2147483648 ≤ q42.1 ∧ q42.1 ≤ 2147483647) then (
    if ¬ q42.1 = 0 then (
      gm_211_24 k211 100000 x1 x2 0 q42.2) else (
      (k211 x1 (x2 + 1) q42.2).bind fun q46 =>
      some q46)) else none)) else none
theorem gf_211o {kf211 : Int32 → Int32 → fx_S → Option (fx_S)} {kg211 : Int → Int → gx_S → Option (gx_S)} (hg211 : ∀ (x1 : Int) (yx1 : Int32) (_ : yx1 = Int32.ofInt x1) (x2 : Int) (yx2 : Int32) (_ : yx2 = Int32.ofInt x2) (s : gx_S) (σ : fx_S) (_ : σ = gx s) (q : gx_S), kg211 x1 x2 s = some q → kf211 yx1 yx2 σ = some (gx q)) {x1 : Int} {yx1 : Int32} (e1 : yx1 = Int32.ofInt x1) {x2 : Int} {yx2 : Int32} (e2 : yx2 = Int32.ofInt x2) {s : gx_S} {σ : fx_S} (es : σ = gx s) {q : gx_S} (h : gm_211o kg211 x1 x2 s = some q) : fm_211o kf211 yx1 yx2 σ = some (gx q) := by
  unfold gm_211o at h
  unfold fm_211o
  obtain ⟨z31, h⟩ := fx_gd h
  by_cases c32 : 4 ≤ x2
  · rw [if_pos c32] at h
    refine gb_t ((gc_le kg_4 e2 (by decide) z31).mpr c32) ?_
    obtain ⟨q34, w33, h⟩ := fx_bd h
    refine gb_bind (gf_209 e1 es w33) ?_
    by_cases c35 : (gb q34.1) = 0
    · rw [if_pos c35] at h
      refine gb_t ((gc_eq (gb_b q34.1) kg_0 (gb_r _) (by decide)).mpr c35) ?_
      have h := Option.some.inj h
      subst h
      exact gretv (rfl : _ = gx q34.2)
    · rw [if_neg c35] at h
      refine gb_f (fun q => c35 ((gc_eq (gb_b q34.1) kg_0 (gb_r _) (by decide)).mp q)) ?_
      obtain ⟨z36, h⟩ := fx_gd h
      by_cases c37 : (q34.2.1 215 43) = 0
      · rw [if_pos c37] at h
        refine gb_t ((gc_eq (gf1 (rfl : _ = gx q34.2) 215 43) kg_0 z36 (by decide)).mpr c37) ?_
        exact gf_211_90 hg211 _ _ (rfl : _ = gx q34.2) _ h
      · rw [if_neg c37] at h
        refine gb_f (fun q => c37 ((gc_eq (gf1 (rfl : _ = gx q34.2) 215 43) kg_0 z36 (by decide)).mp q)) ?_
        obtain ⟨z38, h⟩ := fx_gd h
        obtain ⟨z39, h⟩ := fx_gd h
        by_cases c40 : ((q34.2.2 215 40) * (q34.2.2 215 45)) < ((q34.2.2 215 44) * (q34.2.2 215 41))
        · rw [if_pos c40] at h
          refine gb_t ((gcl_lt (gal_mul (gf2 (rfl : _ = gx q34.2) 215 40) (gf2 (rfl : _ = gx q34.2) 215 45)) (gal_mul (gf2 (rfl : _ = gx q34.2) 215 44) (gf2 (rfl : _ = gx q34.2) 215 41)) z38 z39).mpr c40) ?_
          exact gf_211_90 hg211 _ _ (rfl : _ = gx q34.2) _ h
        · rw [if_neg c40] at h
          refine gb_f (fun q => c40 ((gcl_lt (gal_mul (gf2 (rfl : _ = gx q34.2) 215 40) (gf2 (rfl : _ = gx q34.2) 215 45)) (gal_mul (gf2 (rfl : _ = gx q34.2) 215 44) (gf2 (rfl : _ = gx q34.2) 215 41)) z38 z39).mp q)) ?_
          have h := Option.some.inj h
          subst h
          exact gretv (rfl : _ = gx q34.2)
  · rw [if_neg c32] at h
    refine gb_f (fun q => c32 ((gc_le kg_4 e2 (by decide) z31).mp q)) ?_
    obtain ⟨q42, w41, h⟩ := fx_bd h
    refine gb_bind (gf_207 e2 es w41) ?_
    obtain ⟨z43, h⟩ := fx_gd h
    by_cases c44 : ¬ q42.1 = 0
    · rw [if_pos c44] at h
      refine gb_t ((gc_ne (gr q42.1) kg_0 z43 (by decide)).mpr c44) ?_
      exact gf_211_24 hg211 100000 _ _ e1 _ _ e2 _ _ kg_0 _ _ (rfl : _ = gx q42.2) _ h
    · rw [if_neg c44] at h
      refine gb_f (fun q => c44 ((gc_ne (gr q42.1) kg_0 z43 (by decide)).mp q)) ?_
      obtain ⟨q46, w45, h⟩ := fx_bd h
      refine gb_bind (hg211 _ _ e1 _ _ (ga_add e2 kg_1) _ _ (rfl : _ = gx q42.2) _ w45) ?_
      have h := Option.some.inj h
      subst h
      exact gretv (rfl : _ = gx q46)

def gm_211f : Nat → Int → Int → gx_S → Option (gx_S)
  | 0, _, _, _ => none
  | n + 1, g, l, s => gm_211o (gm_211f n) g l s
theorem gf_211f : ∀ (n : Nat) (x1 : Int) (yx1 : Int32) (e1 : yx1 = Int32.ofInt x1) (x2 : Int) (yx2 : Int32) (e2 : yx2 = Int32.ofInt x2) (s : gx_S) (σ : fx_S) (es : σ = gx s) (q : gx_S) (h : gm_211f n x1 x2 s = some q), fm_211f n yx1 yx2 σ = some (gx q) := by
  intro n
  induction n with
  | zero => intro x1 y1 e1 x2 y2 e2 s σ es q h; exact fx_no h
  | succ n ih =>
    intro x1 y1 e1 x2 y2 e2 s σ es q h
    exact gf_211o ih e1 e2 es h
def gm_211 (x1 x2 : Int) (s : gx_S) : Option (gx_S) := gm_211f 6 x1 x2 s
theorem gf_211 {x1 x2 : Int} {yx1 yx2 : Int32} (e1 : yx1 = Int32.ofInt x1) (e2 : yx2 = Int32.ofInt x2) {s : gx_S} {σ : fx_S} (es : σ = gx s) {q : gx_S} (h : gm_211 x1 x2 s = some q) : fm_211 yx1 yx2 σ = some (gx q) := gf_211f 6 _ _ e1 _ _ e2 _ _ es _ h

/-! ZoneSharesModel.fillsUp()V -/
def gm_170_70 (k_10 : Int → Int → gx_S → Option (gx_S)) (x1 : Int) (x2 : Int) (s : gx_S) : Option (gx_S) :=
  k_10 x1 (x2 + 1) s
theorem gf_170_70 {kf_10 : Int32 → Int32 → fx_S → Option (fx_S)} {kg_10 : Int → Int → gx_S → Option (gx_S)} (hk_10 : ∀ (x1 : Int) (yx1 : Int32) (e1 : yx1 = Int32.ofInt x1) (x2 : Int) (yx2 : Int32) (e2 : yx2 = Int32.ofInt x2) (s : gx_S) (σ : fx_S) (es : σ = gx s) (q : gx_S), kg_10 x1 x2 s = some q → kf_10 yx1 yx2 σ = some (gx q)) (x1 : Int) (yx1 : Int32) (e1 : yx1 = Int32.ofInt x1) (x2 : Int) (yx2 : Int32) (e2 : yx2 = Int32.ofInt x2) (s : gx_S) (σ : fx_S) (es : σ = gx s) (q : gx_S) (h : gm_170_70 kg_10 x1 x2 s = some q) : fm_170_70 kf_10 yx1 yx2 σ = some (gx q) := by
  unfold gm_170_70 at h
  unfold fm_170_70
  exact hk_10 _ _ e1 _ _ (ga_add e2 kg_1) _ _ es _ h
def gm_170_20 (k_10 : Int → Int → gx_S → Option (gx_S)) : Nat → Int → Int → Int → gx_S → Option (gx_S)
  | 0, _, _, _, _ => none
  | n + 1, x1, x2, x3, s =>
    if (-2147483648 ≤ x3 ∧ x3 ≤ 2147483647) then (
    if 9 ≤ x3 then (
      if 0 ≤ x2 ∧ x2 < 8 then (
      if (-9223372036854775808 ≤ (s.2 231 (x2).toNat) ∧ (s.2 231 (x2).toNat) ≤ 9223372036854775807) then (
      if (s.2 231 (x2).toNat) ≤ 0 then (
        gm_170_70 k_10 x1 x2 s) else (
        (gm_168 x2 s).bind fun q9 =>
        if (gb q9.1) = 0 then (
          gm_170_70 k_10 x1 x2 q9.2) else (
          gm_170_70 k_10 1 x2 (gw2 q9.2 231 (x2).toNat ((q9.2.2 231 (x2).toNat) - 1))))) else none) else none) else (
      if 0 ≤ x3 ∧ x3 < 9 then (
      gm_170_20 k_10 n x1 x2 (x3 + 1) (gw1 s 235 (x3).toNat (gn2 0))) else none)) else none
theorem gf_170_20 {kf_10 : Int32 → Int32 → fx_S → Option (fx_S)} {kg_10 : Int → Int → gx_S → Option (gx_S)} (hk_10 : ∀ (x1 : Int) (yx1 : Int32) (e1 : yx1 = Int32.ofInt x1) (x2 : Int) (yx2 : Int32) (e2 : yx2 = Int32.ofInt x2) (s : gx_S) (σ : fx_S) (es : σ = gx s) (q : gx_S), kg_10 x1 x2 s = some q → kf_10 yx1 yx2 σ = some (gx q)) : ∀ (n : Nat) (x1 : Int) (yx1 : Int32) (e1 : yx1 = Int32.ofInt x1) (x2 : Int) (yx2 : Int32) (e2 : yx2 = Int32.ofInt x2) (x3 : Int) (yx3 : Int32) (e3 : yx3 = Int32.ofInt x3) (s : gx_S) (σ : fx_S) (es : σ = gx s) (q : gx_S), gm_170_20 kg_10 n x1 x2 x3 s = some q → fm_170_20 kf_10 n yx1 yx2 yx3 σ = some (gx q) := by
  intro n
  induction n with
  | zero =>
    intro x1 yx1 e1 x2 yx2 e2 x3 yx3 e3 s σ es q  h
    rw [gm_170_20] at h
    exact fx_no h
  | succ n ih =>
    intro x1 yx1 e1 x2 yx2 e2 x3 yx3 e3 s σ es q  h
    rw [gm_170_20] at h
    rw [fm_170_20]
    obtain ⟨z1, h⟩ := fx_gd h
    by_cases c2 : 9 ≤ x3
    · rw [if_pos c2] at h
      refine gb_t ((gc_le kg_9 e3 (by decide) z1).mpr c2) ?_
      obtain ⟨z5, h⟩ := fx_gd h
      refine gb_bind (gl_ldl es e2 ga_231 z5) ?_
      obtain ⟨z6, h⟩ := fx_gd h
      by_cases c7 : (s.2 231 (x2).toNat) ≤ 0
      · rw [if_pos c7] at h
        refine gb_t ((gcl_le (gr2 (s.2 231 (x2).toNat)) kgl_0 z6 (by decide)).mpr c7) ?_
        exact gf_170_70 hk_10 _ _ e1 _ _ e2 _ _ es _ h
      · rw [if_neg c7] at h
        refine gb_f (fun q => c7 ((gcl_le (gr2 (s.2 231 (x2).toNat)) kgl_0 z6 (by decide)).mp q)) ?_
        obtain ⟨q9, w8, h⟩ := fx_bd h
        refine gb_bind (gf_168 e2 es w8) ?_
        by_cases c10 : (gb q9.1) = 0
        · rw [if_pos c10] at h
          refine gb_t ((gc_eq (gb_b q9.1) kg_0 (gb_r _) (by decide)).mpr c10) ?_
          exact gf_170_70 hk_10 _ _ e1 _ _ e2 _ _ (rfl : _ = gx q9.2) _ h
        · rw [if_neg c10] at h
          refine gb_f (fun q => c10 ((gc_eq (gb_b q9.1) kg_0 (gb_r _) (by decide)).mp q)) ?_
          refine gb_bind (gl_ldl (rfl : _ = gx q9.2) e2 ga_231 z5) ?_
          refine gb_bind (gl_stl (rfl : _ = gx q9.2) e2 (gal_sub (gr2 (q9.2.2 231 (x2).toNat)) kgl_1) ga_231 z5) ?_
          exact gf_170_70 hk_10 _ _ kg_1 _ _ e2 _ _ (rfl : _ = gx (gw2 q9.2 231 (x2).toNat ((q9.2.2 231 (x2).toNat) - 1))) _ h
    · rw [if_neg c2] at h
      refine gb_f (fun q => c2 ((gc_le kg_9 e3 (by decide) z1).mp q)) ?_
      obtain ⟨z17, h⟩ := fx_gd h
      refine gb_bind (gl_stb2 es e3 kg_0 ga_235 z17) ?_
      exact ih _ _ e1 _ _ e2 _ _ (ga_add e3 kg_1) _ _ (rfl : _ = gx (gw1 s 235 (x3).toNat (gn2 0))) _ h
def gm_170_10 (k_2 : Int → gx_S → Option (gx_S)) : Nat → Int → Int → gx_S → Option (gx_S)
  | 0, _, _, _ => none
  | n + 1, x1, x2, s =>
    if (-2147483648 ≤ x2 ∧ x2 ≤ 2147483647) then (
    if (-2147483648 ≤ (s.1 215 17) ∧ (s.1 215 17) ≤ 2147483647) then (
    if (s.1 215 17) ≤ x2 then (
      k_2 x1 s) else (
      gm_170_20 (gm_170_10 k_2 n) 100000 x1 x2 0 s)) else none) else none
theorem gf_170_10 {kf_2 : Int32 → fx_S → Option (fx_S)} {kg_2 : Int → gx_S → Option (gx_S)} (hk_2 : ∀ (x1 : Int) (yx1 : Int32) (e1 : yx1 = Int32.ofInt x1) (s : gx_S) (σ : fx_S) (es : σ = gx s) (q : gx_S), kg_2 x1 s = some q → kf_2 yx1 σ = some (gx q)) : ∀ (n : Nat) (x1 : Int) (yx1 : Int32) (e1 : yx1 = Int32.ofInt x1) (x2 : Int) (yx2 : Int32) (e2 : yx2 = Int32.ofInt x2) (s : gx_S) (σ : fx_S) (es : σ = gx s) (q : gx_S), gm_170_10 kg_2 n x1 x2 s = some q → fm_170_10 kf_2 n yx1 yx2 σ = some (gx q) := by
  intro n
  induction n with
  | zero =>
    intro x1 yx1 e1 x2 yx2 e2 s σ es q  h
    rw [gm_170_10] at h
    exact fx_no h
  | succ n ih =>
    intro x1 yx1 e1 x2 yx2 e2 s σ es q  h
    rw [gm_170_10] at h
    rw [fm_170_10]
    obtain ⟨z1, h⟩ := fx_gd h
    obtain ⟨z2, h⟩ := fx_gd h
    by_cases c3 : (s.1 215 17) ≤ x2
    · rw [if_pos c3] at h
      refine gb_t ((gc_le (gf1 es 215 17) e2 z2 z1).mpr c3) ?_
      exact hk_2 _ _ e1 _ _ es _ h
    · rw [if_neg c3] at h
      refine gb_f (fun q => c3 ((gc_le (gf1 es 215 17) e2 z2 z1).mp q)) ?_
      exact gf_170_20 ih 100000 _ _ e1 _ _ e2 _ _ kg_0 _ _ es _ h
def gm_170_2 : Nat → Int → gx_S → Option (gx_S)
  | 0, _, _ => none
  | n + 1, x1, s =>
    if (-2147483648 ≤ x1 ∧ x1 ≤ 2147483647) then (
    if x1 = 0 then (
      some s) else (
      gm_170_10 (gm_170_2 n) 100000 0 0 s)) else none
theorem gf_170_2 : ∀ (n : Nat) (x1 : Int) (yx1 : Int32) (e1 : yx1 = Int32.ofInt x1) (s : gx_S) (σ : fx_S) (es : σ = gx s) (q : gx_S), gm_170_2 n x1 s = some q → fm_170_2 n yx1 σ = some (gx q) := by
  intro n
  induction n with
  | zero =>
    intro x1 yx1 e1 s σ es q  h
    rw [gm_170_2] at h
    exact fx_no h
  | succ n ih =>
    intro x1 yx1 e1 s σ es q  h
    rw [gm_170_2] at h
    rw [fm_170_2]
    obtain ⟨z1, h⟩ := fx_gd h
    by_cases c2 : x1 = 0
    · rw [if_pos c2] at h
      refine gb_t ((gc_eq e1 kg_0 z1 (by decide)).mpr c2) ?_
      have h := Option.some.inj h
      subst h
      exact gretv es
    · rw [if_neg c2] at h
      refine gb_f (fun q => c2 ((gc_eq e1 kg_0 z1 (by decide)).mp q)) ?_
      exact gf_170_10 ih 100000 _ _ kg_0 _ _ kg_0 _ _ es _ h
def gm_170 (s : gx_S) : Option (gx_S) :=
  gm_170_2 100000 1 s
theorem gf_170 {s : gx_S} {σ : fx_S} (es : σ = gx s) {q : gx_S} (h : gm_170 s = some q) : fm_170 σ = some (gx q) := by
  unfold gm_170 at h
  unfold fm_170
  exact gf_170_2 100000 _ _ kg_1 _ _ es _ h

/-! ZoneSharesModel.canBe()Z -/
def gm_171_254 : Nat → Int → gx_S → Option (Bool × gx_S)
  | 0, _, _ => none
  | n + 1, x1, s =>
    if (-2147483648 ≤ x1 ∧ x1 ≤ 2147483647) then (
    if (-2147483648 ≤ (s.1 215 17) ∧ (s.1 215 17) ≤ 2147483647) then (
    if (s.1 215 17) ≤ x1 then (
      some (true, s)) else (
      if 0 ≤ x1 ∧ x1 < 8 then (
      if (-9223372036854775808 ≤ (s.2 231 (x1).toNat) ∧ (s.2 231 (x1).toNat) ≤ 9223372036854775807) then (
      if (s.2 231 (x1).toNat) = 0 then (
        gm_171_254 n (x1 + 1) s) else (
        some (false, s))) else none) else none)) else none) else none
theorem gf_171_254 : ∀ (n : Nat) (x1 : Int) (yx1 : Int32) (e1 : yx1 = Int32.ofInt x1) (s : gx_S) (σ : fx_S) (es : σ = gx s) (q : Bool × gx_S), gm_171_254 n x1 s = some q → fm_171_254 n yx1 σ = some (q.1, gx q.2) := by
  intro n
  induction n with
  | zero =>
    intro x1 yx1 e1 s σ es q  h
    rw [gm_171_254] at h
    exact fx_no h
  | succ n ih =>
    intro x1 yx1 e1 s σ es q  h
    rw [gm_171_254] at h
    rw [fm_171_254]
    obtain ⟨z1, h⟩ := fx_gd h
    obtain ⟨z2, h⟩ := fx_gd h
    by_cases c3 : (s.1 215 17) ≤ x1
    · rw [if_pos c3] at h
      refine gb_t ((gc_le (gf1 es 215 17) e1 z2 z1).mpr c3) ?_
      have h := Option.some.inj h
      subst h
      exact gretb es
    · rw [if_neg c3] at h
      refine gb_f (fun q => c3 ((gc_le (gf1 es 215 17) e1 z2 z1).mp q)) ?_
      obtain ⟨z6, h⟩ := fx_gd h
      refine gb_bind (gl_ldl es e1 ga_231 z6) ?_
      obtain ⟨z7, h⟩ := fx_gd h
      by_cases c8 : (s.2 231 (x1).toNat) = 0
      · rw [if_pos c8] at h
        refine gb_t ((gcl_eq (gr2 (s.2 231 (x1).toNat)) kgl_0 z7 (by decide)).mpr c8) ?_
        exact ih _ _ (ga_add e1 kg_1) _ _ es _ h
      · rw [if_neg c8] at h
        refine gb_f (fun q => c8 ((gcl_eq (gr2 (s.2 231 (x1).toNat)) kgl_0 z7 (by decide)).mp q)) ?_
        have h := Option.some.inj h
        subst h
        exact gretb es
def gm_171_188 : Nat → Int → gx_S → Option (Bool × gx_S)
  | 0, _, _ => none
  | n + 1, x1, s =>
    if (-2147483648 ≤ x1 ∧ x1 ≤ 2147483647) then (
    if (-2147483648 ≤ (s.1 215 18) ∧ (s.1 215 18) ≤ 2147483647) then (
    if (s.1 215 18) ≤ x1 then (
      (gm_170 s).bind fun q5 =>
      gm_171_254 100000 0 q5) else (
      if 0 ≤ x1 ∧ x1 < 9 then (
      if (-9223372036854775808 ≤ (s.2 230 (x1).toNat) ∧ (s.2 230 (x1).toNat) ≤ 9223372036854775807) then (
      if (-9223372036854775808 ≤ (s.2 227 (x1).toNat) ∧ (s.2 227 (x1).toNat) ≤ 9223372036854775807) then (
      if (s.2 230 (x1).toNat) < (s.2 227 (x1).toNat) then (
        some (false, s)) else (
        if (-9223372036854775808 ≤ (s.2 228 (x1).toNat) ∧ (s.2 228 (x1).toNat) ≤ 9223372036854775807) then (
        if (s.2 230 (x1).toNat) ≤ (s.2 228 (x1).toNat) then (
          gm_171_188 n (x1 + 1) (gw2 s 229 (x1).toNat (s.2 228 (x1).toNat))) else (
          some (false, s))) else none)) else none) else none) else none)) else none) else none
theorem gf_171_188 : ∀ (n : Nat) (x1 : Int) (yx1 : Int32) (e1 : yx1 = Int32.ofInt x1) (s : gx_S) (σ : fx_S) (es : σ = gx s) (q : Bool × gx_S), gm_171_188 n x1 s = some q → fm_171_188 n yx1 σ = some (q.1, gx q.2) := by
  intro n
  induction n with
  | zero =>
    intro x1 yx1 e1 s σ es q  h
    rw [gm_171_188] at h
    exact fx_no h
  | succ n ih =>
    intro x1 yx1 e1 s σ es q  h
    rw [gm_171_188] at h
    rw [fm_171_188]
    obtain ⟨z1, h⟩ := fx_gd h
    obtain ⟨z2, h⟩ := fx_gd h
    by_cases c3 : (s.1 215 18) ≤ x1
    · rw [if_pos c3] at h
      refine gb_t ((gc_le (gf1 es 215 18) e1 z2 z1).mpr c3) ?_
      obtain ⟨q5, w4, h⟩ := fx_bd h
      refine gb_bind (gf_170 es w4) ?_
      exact gf_171_254 100000 _ _ kg_0 _ _ (rfl : _ = gx q5) _ h
    · rw [if_neg c3] at h
      refine gb_f (fun q => c3 ((gc_le (gf1 es 215 18) e1 z2 z1).mp q)) ?_
      obtain ⟨z8, h⟩ := fx_gd h
      refine gb_bind (gl_ldl es e1 ga_230 z8) ?_
      refine gb_bind (gl_ldl es e1 ga_227 z8) ?_
      obtain ⟨z11, h⟩ := fx_gd h
      obtain ⟨z12, h⟩ := fx_gd h
      by_cases c13 : (s.2 230 (x1).toNat) < (s.2 227 (x1).toNat)
      · rw [if_pos c13] at h
        refine gb_t ((gcl_lt (gr2 (s.2 230 (x1).toNat)) (gr2 (s.2 227 (x1).toNat)) z11 z12).mpr c13) ?_
        have h := Option.some.inj h
        subst h
        exact gretb es
      · rw [if_neg c13] at h
        refine gb_f (fun q => c13 ((gcl_lt (gr2 (s.2 230 (x1).toNat)) (gr2 (s.2 227 (x1).toNat)) z11 z12).mp q)) ?_
        refine gb_bind (gl_ldl es e1 ga_230 z8) ?_
        refine gb_bind (gl_ldl es e1 ga_228 z8) ?_
        obtain ⟨z18, h⟩ := fx_gd h
        by_cases c19 : (s.2 230 (x1).toNat) ≤ (s.2 228 (x1).toNat)
        · rw [if_pos c19] at h
          refine gb_t ((gcl_le (gr2 (s.2 230 (x1).toNat)) (gr2 (s.2 228 (x1).toNat)) z11 z18).mpr c19) ?_
          refine gb_bind (gl_ldl es e1 ga_228 z8) ?_
          refine gb_bind (gl_stl es e1 (gr2 (s.2 228 (x1).toNat)) ga_229 z8) ?_
          exact ih _ _ (ga_add e1 kg_1) _ _ (rfl : _ = gx (gw2 s 229 (x1).toNat (s.2 228 (x1).toNat))) _ h
        · rw [if_neg c19] at h
          refine gb_f (fun q => c19 ((gcl_le (gr2 (s.2 230 (x1).toNat)) (gr2 (s.2 228 (x1).toNat)) z11 z18).mp q)) ?_
          have h := Option.some.inj h
          subst h
          exact gretb es
def gm_171_123 (k_75 : Int → Int → gx_S → Option (Bool × gx_S)) (x1 : Int) (x2 : Int) (s1 : Int) (s2 : Int) (s : gx_S) : Option (Bool × gx_S) :=
  if 0 ≤ s1 ∧ s1 < 72 then (
  if 0 ≤ x1 ∧ x1 < 8 then (
  (gm_160 x1 x2 (gw1 s 232 (s1).toNat (gn2 s2))).bind fun q8 =>
  if 0 ≤ q8.1 ∧ q8.1 < 72 then (
  (gm_131 (q8.2.1 232 (q8.1).toNat) q8.2).bind fun q13 =>
  if (-2147483648 ≤ q13.1 ∧ q13.1 ≤ 2147483647) then (
  if 0 ≤ x2 ∧ x2 < 9 then (
  (gm_160 x1 x2 (gw2 q13.2 231 (x1).toNat (((gw1 s 232 (s1).toNat (gn2 s2)).2 231 (x1).toNat) - q13.1))).bind fun q21 =>
  if 0 ≤ q21.1 ∧ q21.1 < 72 then (
  (gm_131 (q21.2.1 232 (q21.1).toNat) q21.2).bind fun q26 =>
  if (-2147483648 ≤ q26.1 ∧ q26.1 ≤ 2147483647) then (
  k_75 x1 (x2 + 1) (gw2 q26.2 230 (x2).toNat (((gw2 q13.2 231 (x1).toNat (((gw1 s 232 (s1).toNat (gn2 s2)).2 231 (x1).toNat) - q13.1)).2 230 (x2).toNat) + q26.1))) else none) else none) else none) else none) else none) else none) else none
theorem gf_171_123 {kf_75 : Int32 → Int32 → fx_S → Option (Bool × fx_S)} {kg_75 : Int → Int → gx_S → Option (Bool × gx_S)} (hk_75 : ∀ (x1 : Int) (yx1 : Int32) (e1 : yx1 = Int32.ofInt x1) (x2 : Int) (yx2 : Int32) (e2 : yx2 = Int32.ofInt x2) (s : gx_S) (σ : fx_S) (es : σ = gx s) (q : Bool × gx_S), kg_75 x1 x2 s = some q → kf_75 yx1 yx2 σ = some (q.1, gx q.2)) (x1 : Int) (yx1 : Int32) (e1 : yx1 = Int32.ofInt x1) (x2 : Int) (yx2 : Int32) (e2 : yx2 = Int32.ofInt x2) (s1 : Int) (ys1 : Int32) (es1 : ys1 = Int32.ofInt s1) (s2 : Int) (ys2 : Int32) (es2 : ys2 = Int32.ofInt s2) (s : gx_S) (σ : fx_S) (es : σ = gx s) (q : Bool × gx_S) (h : gm_171_123 kg_75 x1 x2 s1 s2 s = some q) : fm_171_123 kf_75 yx1 yx2 ys1 ys2 σ = some (q.1, gx q.2) := by
  unfold gm_171_123 at h
  unfold fm_171_123
  obtain ⟨z3, h⟩ := fx_gd h
  refine gb_bind (gl_stb2 es es1 es2 ga_232 z3) ?_
  obtain ⟨z6, h⟩ := fx_gd h
  refine gb_bind (gl_ldl (rfl : _ = gx (gw1 s 232 (s1).toNat (gn2 s2))) e1 ga_231 z6) ?_
  obtain ⟨q8, w7, h⟩ := fx_bd h
  refine gb_bind (gf_160 e1 e2 (rfl : _ = gx (gw1 s 232 (s1).toNat (gn2 s2))) w7) ?_
  obtain ⟨z11, h⟩ := fx_gd h
  refine gb_bind (gl_ldb2 (rfl : _ = gx q8.2) (gr q8.1) ga_232 z11) ?_
  obtain ⟨q13, w12, h⟩ := fx_bd h
  refine gb_bind (gf_131 (gr (q8.2.1 232 (q8.1).toNat)) (rfl : _ = gx q8.2) w12) ?_
  obtain ⟨z14, h⟩ := fx_gd h
  refine gb_bind (gl_stl (rfl : _ = gx q13.2) e1 (gal_sub (gr2 ((gw1 s 232 (s1).toNat (gn2 s2)).2 231 (x1).toNat)) (ga_i2l (gr q13.1) z14)) ga_231 z6) ?_
  obtain ⟨z19, h⟩ := fx_gd h
  refine gb_bind (gl_ldl (rfl : _ = gx (gw2 q13.2 231 (x1).toNat (((gw1 s 232 (s1).toNat (gn2 s2)).2 231 (x1).toNat) - q13.1))) e2 ga_230 z19) ?_
  obtain ⟨q21, w20, h⟩ := fx_bd h
  refine gb_bind (gf_160 e1 e2 (rfl : _ = gx (gw2 q13.2 231 (x1).toNat (((gw1 s 232 (s1).toNat (gn2 s2)).2 231 (x1).toNat) - q13.1))) w20) ?_
  obtain ⟨z24, h⟩ := fx_gd h
  refine gb_bind (gl_ldb2 (rfl : _ = gx q21.2) (gr q21.1) ga_232 z24) ?_
  obtain ⟨q26, w25, h⟩ := fx_bd h
  refine gb_bind (gf_131 (gr (q21.2.1 232 (q21.1).toNat)) (rfl : _ = gx q21.2) w25) ?_
  obtain ⟨z27, h⟩ := fx_gd h
  refine gb_bind (gl_stl (rfl : _ = gx q26.2) e2 (gal_add (gr2 ((gw2 q13.2 231 (x1).toNat (((gw1 s 232 (s1).toNat (gn2 s2)).2 231 (x1).toNat) - q13.1)).2 230 (x2).toNat)) (ga_i2l (gr q26.1) z27)) ga_230 z19) ?_
  exact hk_75 _ _ e1 _ _ (ga_add e2 kg_1) _ _ (rfl : _ = gx (gw2 q26.2 230 (x2).toNat (((gw2 q13.2 231 (x1).toNat (((gw1 s 232 (s1).toNat (gn2 s2)).2 231 (x1).toNat) - q13.1)).2 230 (x2).toNat) + q26.1))) _ h
def gm_171_75 (k_65 : Int → gx_S → Option (Bool × gx_S)) : Nat → Int → Int → gx_S → Option (Bool × gx_S)
  | 0, _, _, _ => none
  | n + 1, x1, x2, s =>
    if (-2147483648 ≤ x2 ∧ x2 ≤ 2147483647) then (
    if (-2147483648 ≤ (s.1 215 18) ∧ (s.1 215 18) ≤ 2147483647) then (
    if (s.1 215 18) ≤ x2 then (
      k_65 (x1 + 1) s) else (
      (gm_160 x1 x2 s).bind fun q5 =>
      (gm_160 x1 x2 q5.2).bind fun q7 =>
      if 0 ≤ q7.1 ∧ q7.1 < 72 then (
      if (-2147483648 ≤ (q7.2.1 233 (q7.1).toNat) ∧ (q7.2.1 233 (q7.1).toNat) ≤ 2147483647) then (
      if (q7.2.1 233 (q7.1).toNat) = 0 then (
        gm_171_123 (gm_171_75 k_65 n) x1 x2 q5.1 0 q7.2) else (
        (gm_160 x1 x2 q7.2).bind fun q14 =>
        if 0 ≤ q14.1 ∧ q14.1 < 72 then (
        if (-2147483648 ≤ (q14.2.1 234 (q14.1).toNat) ∧ (q14.2.1 234 (q14.1).toNat) ≤ 2147483647) then (
        if (q14.2.1 234 (q14.1).toNat) = 0 then (
          gm_171_123 (gm_171_75 k_65 n) x1 x2 q5.1 0 q14.2) else (
          gm_171_123 (gm_171_75 k_65 n) x1 x2 q5.1 1 q14.2)) else none) else none)) else none) else none)) else none) else none
theorem gf_171_75 {kf_65 : Int32 → fx_S → Option (Bool × fx_S)} {kg_65 : Int → gx_S → Option (Bool × gx_S)} (hk_65 : ∀ (x1 : Int) (yx1 : Int32) (e1 : yx1 = Int32.ofInt x1) (s : gx_S) (σ : fx_S) (es : σ = gx s) (q : Bool × gx_S), kg_65 x1 s = some q → kf_65 yx1 σ = some (q.1, gx q.2)) : ∀ (n : Nat) (x1 : Int) (yx1 : Int32) (e1 : yx1 = Int32.ofInt x1) (x2 : Int) (yx2 : Int32) (e2 : yx2 = Int32.ofInt x2) (s : gx_S) (σ : fx_S) (es : σ = gx s) (q : Bool × gx_S), gm_171_75 kg_65 n x1 x2 s = some q → fm_171_75 kf_65 n yx1 yx2 σ = some (q.1, gx q.2) := by
  intro n
  induction n with
  | zero =>
    intro x1 yx1 e1 x2 yx2 e2 s σ es q  h
    rw [gm_171_75] at h
    exact fx_no h
  | succ n ih =>
    intro x1 yx1 e1 x2 yx2 e2 s σ es q  h
    rw [gm_171_75] at h
    rw [fm_171_75]
    obtain ⟨z1, h⟩ := fx_gd h
    obtain ⟨z2, h⟩ := fx_gd h
    by_cases c3 : (s.1 215 18) ≤ x2
    · rw [if_pos c3] at h
      refine gb_t ((gc_le (gf1 es 215 18) e2 z2 z1).mpr c3) ?_
      exact hk_65 _ _ (ga_add e1 kg_1) _ _ es _ h
    · rw [if_neg c3] at h
      refine gb_f (fun q => c3 ((gc_le (gf1 es 215 18) e2 z2 z1).mp q)) ?_
      obtain ⟨q5, w4, h⟩ := fx_bd h
      refine gb_bind (gf_160 e1 e2 es w4) ?_
      obtain ⟨q7, w6, h⟩ := fx_bd h
      refine gb_bind (gf_160 e1 e2 (rfl : _ = gx q5.2) w6) ?_
      obtain ⟨z10, h⟩ := fx_gd h
      refine gb_bind (gl_ldb2 (rfl : _ = gx q7.2) (gr q7.1) ga_233 z10) ?_
      obtain ⟨z11, h⟩ := fx_gd h
      by_cases c12 : (q7.2.1 233 (q7.1).toNat) = 0
      · rw [if_pos c12] at h
        refine gb_t ((gc_eq (gr (q7.2.1 233 (q7.1).toNat)) kg_0 z11 (by decide)).mpr c12) ?_
        exact gf_171_123 ih _ _ e1 _ _ e2 _ _ (gr q5.1) _ _ kg_0 _ _ (rfl : _ = gx q7.2) _ h
      · rw [if_neg c12] at h
        refine gb_f (fun q => c12 ((gc_eq (gr (q7.2.1 233 (q7.1).toNat)) kg_0 z11 (by decide)).mp q)) ?_
        obtain ⟨q14, w13, h⟩ := fx_bd h
        refine gb_bind (gf_160 e1 e2 (rfl : _ = gx q7.2) w13) ?_
        obtain ⟨z17, h⟩ := fx_gd h
        refine gb_bind (gl_ldb2 (rfl : _ = gx q14.2) (gr q14.1) ga_234 z17) ?_
        obtain ⟨z18, h⟩ := fx_gd h
        by_cases c19 : (q14.2.1 234 (q14.1).toNat) = 0
        · rw [if_pos c19] at h
          refine gb_t ((gc_eq (gr (q14.2.1 234 (q14.1).toNat)) kg_0 z18 (by decide)).mpr c19) ?_
          exact gf_171_123 ih _ _ e1 _ _ e2 _ _ (gr q5.1) _ _ kg_0 _ _ (rfl : _ = gx q14.2) _ h
        · rw [if_neg c19] at h
          refine gb_f (fun q => c19 ((gc_eq (gr (q14.2.1 234 (q14.1).toNat)) kg_0 z18 (by decide)).mp q)) ?_
          exact gf_171_123 ih _ _ e1 _ _ e2 _ _ (gr q5.1) _ _ kg_1 _ _ (rfl : _ = gx q14.2) _ h
def gm_171_65 : Nat → Int → gx_S → Option (Bool × gx_S)
  | 0, _, _ => none
  | n + 1, x1, s =>
    if (-2147483648 ≤ x1 ∧ x1 ≤ 2147483647) then (
    if (-2147483648 ≤ (s.1 215 17) ∧ (s.1 215 17) ≤ 2147483647) then (
    if (s.1 215 17) ≤ x1 then (
      (gm_170 s).bind fun q5 =>
      gm_171_188 100000 0 q5) else (
      gm_171_75 (gm_171_65 n) 100000 x1 0 s)) else none) else none
theorem gf_171_65 : ∀ (n : Nat) (x1 : Int) (yx1 : Int32) (e1 : yx1 = Int32.ofInt x1) (s : gx_S) (σ : fx_S) (es : σ = gx s) (q : Bool × gx_S), gm_171_65 n x1 s = some q → fm_171_65 n yx1 σ = some (q.1, gx q.2) := by
  intro n
  induction n with
  | zero =>
    intro x1 yx1 e1 s σ es q  h
    rw [gm_171_65] at h
    exact fx_no h
  | succ n ih =>
    intro x1 yx1 e1 s σ es q  h
    rw [gm_171_65] at h
    rw [fm_171_65]
    obtain ⟨z1, h⟩ := fx_gd h
    obtain ⟨z2, h⟩ := fx_gd h
    by_cases c3 : (s.1 215 17) ≤ x1
    · rw [if_pos c3] at h
      refine gb_t ((gc_le (gf1 es 215 17) e1 z2 z1).mpr c3) ?_
      obtain ⟨q5, w4, h⟩ := fx_bd h
      refine gb_bind (gf_170 es w4) ?_
      exact gf_171_188 100000 _ _ kg_0 _ _ (rfl : _ = gx q5) _ h
    · rw [if_neg c3] at h
      refine gb_f (fun q => c3 ((gc_le (gf1 es 215 17) e1 z2 z1).mp q)) ?_
      exact gf_171_75 ih 100000 _ _ e1 _ _ kg_0 _ _ es _ h
def gm_171_30 : Nat → Int → gx_S → Option (Bool × gx_S)
  | 0, _, _ => none
  | n + 1, x1, s =>
    if (-2147483648 ≤ x1 ∧ x1 ≤ 2147483647) then (
    if (-2147483648 ≤ (s.1 215 18) ∧ (s.1 215 18) ≤ 2147483647) then (
    if (s.1 215 18) ≤ x1 then (
      gm_171_65 100000 0 s) else (
      if 0 ≤ x1 ∧ x1 < 9 then (
      gm_171_30 n (x1 + 1) (gw2 (gw2 s 230 (x1).toNat 0) 229 (x1).toNat ((gw2 s 230 (x1).toNat 0).2 227 (x1).toNat))) else none)) else none) else none
theorem gf_171_30 : ∀ (n : Nat) (x1 : Int) (yx1 : Int32) (e1 : yx1 = Int32.ofInt x1) (s : gx_S) (σ : fx_S) (es : σ = gx s) (q : Bool × gx_S), gm_171_30 n x1 s = some q → fm_171_30 n yx1 σ = some (q.1, gx q.2) := by
  intro n
  induction n with
  | zero =>
    intro x1 yx1 e1 s σ es q  h
    rw [gm_171_30] at h
    exact fx_no h
  | succ n ih =>
    intro x1 yx1 e1 s σ es q  h
    rw [gm_171_30] at h
    rw [fm_171_30]
    obtain ⟨z1, h⟩ := fx_gd h
    obtain ⟨z2, h⟩ := fx_gd h
    by_cases c3 : (s.1 215 18) ≤ x1
    · rw [if_pos c3] at h
      refine gb_t ((gc_le (gf1 es 215 18) e1 z2 z1).mpr c3) ?_
      exact gf_171_65 100000 _ _ kg_0 _ _ es _ h
    · rw [if_neg c3] at h
      refine gb_f (fun q => c3 ((gc_le (gf1 es 215 18) e1 z2 z1).mp q)) ?_
      obtain ⟨z6, h⟩ := fx_gd h
      refine gb_bind (gl_stl es e1 kgl_0 ga_230 z6) ?_
      refine gb_bind (gl_ldl (rfl : _ = gx (gw2 s 230 (x1).toNat 0)) e1 ga_227 z6) ?_
      refine gb_bind (gl_stl (rfl : _ = gx (gw2 s 230 (x1).toNat 0)) e1 (gr2 ((gw2 s 230 (x1).toNat 0).2 227 (x1).toNat)) ga_229 z6) ?_
      exact ih _ _ (ga_add e1 kg_1) _ _ (rfl : _ = gx (gw2 (gw2 s 230 (x1).toNat 0) 229 (x1).toNat ((gw2 s 230 (x1).toNat 0).2 227 (x1).toNat))) _ h
def gm_171_2 : Nat → Int → gx_S → Option (Bool × gx_S)
  | 0, _, _ => none
  | n + 1, x1, s =>
    if (-2147483648 ≤ x1 ∧ x1 ≤ 2147483647) then (
    if (-2147483648 ≤ (s.1 215 17) ∧ (s.1 215 17) ≤ 2147483647) then (
    if (s.1 215 17) ≤ x1 then (
      gm_171_30 100000 0 s) else (
      if 0 ≤ x1 ∧ x1 < 8 then (
      gm_171_2 n (x1 + 1) (gw2 s 231 (x1).toNat (s.2 226 (x1).toNat))) else none)) else none) else none
theorem gf_171_2 : ∀ (n : Nat) (x1 : Int) (yx1 : Int32) (e1 : yx1 = Int32.ofInt x1) (s : gx_S) (σ : fx_S) (es : σ = gx s) (q : Bool × gx_S), gm_171_2 n x1 s = some q → fm_171_2 n yx1 σ = some (q.1, gx q.2) := by
  intro n
  induction n with
  | zero =>
    intro x1 yx1 e1 s σ es q  h
    rw [gm_171_2] at h
    exact fx_no h
  | succ n ih =>
    intro x1 yx1 e1 s σ es q  h
    rw [gm_171_2] at h
    rw [fm_171_2]
    obtain ⟨z1, h⟩ := fx_gd h
    obtain ⟨z2, h⟩ := fx_gd h
    by_cases c3 : (s.1 215 17) ≤ x1
    · rw [if_pos c3] at h
      refine gb_t ((gc_le (gf1 es 215 17) e1 z2 z1).mpr c3) ?_
      exact gf_171_30 100000 _ _ kg_0 _ _ es _ h
    · rw [if_neg c3] at h
      refine gb_f (fun q => c3 ((gc_le (gf1 es 215 17) e1 z2 z1).mp q)) ?_
      obtain ⟨z6, h⟩ := fx_gd h
      refine gb_bind (gl_ldl es e1 ga_226 z6) ?_
      refine gb_bind (gl_stl es e1 (gr2 (s.2 226 (x1).toNat)) ga_231 z6) ?_
      exact ih _ _ (ga_add e1 kg_1) _ _ (rfl : _ = gx (gw2 s 231 (x1).toNat (s.2 226 (x1).toNat))) _ h
def gm_171 (s : gx_S) : Option (Bool × gx_S) :=
  gm_171_2 100000 0 s
theorem gf_171 {s : gx_S} {σ : fx_S} (es : σ = gx s) {q : Bool × gx_S} (h : gm_171 s = some q) : fm_171 σ = some (q.1, gx q.2) := by
  unfold gm_171 at h
  unfold fm_171
  exact gf_171_2 100000 _ _ kg_0 _ _ es _ h

/-! ZoneSharesModel.balances()V -/
def gm_172_146 (k_81 : Int → Int → gx_S → Option (gx_S)) (x1 : Int) (x2 : Int) (s1 : Int) (s2 : Int) (s : gx_S) : Option (gx_S) :=
  if 0 ≤ s1 ∧ s1 < 72 then (
  (gm_160 x1 x2 (gw1 s 234 (s1).toNat (gn2 s2))).bind fun q5 =>
  if 0 ≤ q5.1 ∧ q5.1 < 72 then (
  (gm_160 x1 x2 q5.2).bind fun q10 =>
  if 0 ≤ q10.1 ∧ q10.1 < 72 then (
  (gm_131 (q10.2.1 234 (q10.1).toNat) q10.2).bind fun q15 =>
  if (-2147483648 ≤ q15.1 ∧ q15.1 ≤ 2147483647) then (
  k_81 x1 (x2 + 1) (gw2 q15.2 224 (q5.1).toNat ((q5.2.2 224 (q5.1).toNat) + q15.1))) else none) else none) else none) else none
theorem gf_172_146 {kf_81 : Int32 → Int32 → fx_S → Option (fx_S)} {kg_81 : Int → Int → gx_S → Option (gx_S)} (hk_81 : ∀ (x1 : Int) (yx1 : Int32) (e1 : yx1 = Int32.ofInt x1) (x2 : Int) (yx2 : Int32) (e2 : yx2 = Int32.ofInt x2) (s : gx_S) (σ : fx_S) (es : σ = gx s) (q : gx_S), kg_81 x1 x2 s = some q → kf_81 yx1 yx2 σ = some (gx q)) (x1 : Int) (yx1 : Int32) (e1 : yx1 = Int32.ofInt x1) (x2 : Int) (yx2 : Int32) (e2 : yx2 = Int32.ofInt x2) (s1 : Int) (ys1 : Int32) (es1 : ys1 = Int32.ofInt s1) (s2 : Int) (ys2 : Int32) (es2 : ys2 = Int32.ofInt s2) (s : gx_S) (σ : fx_S) (es : σ = gx s) (q : gx_S) (h : gm_172_146 kg_81 x1 x2 s1 s2 s = some q) : fm_172_146 kf_81 yx1 yx2 ys1 ys2 σ = some (gx q) := by
  unfold gm_172_146 at h
  unfold fm_172_146
  obtain ⟨z3, h⟩ := fx_gd h
  refine gb_bind (gl_stb2 es es1 es2 ga_234 z3) ?_
  obtain ⟨q5, w4, h⟩ := fx_bd h
  refine gb_bind (gf_160 e1 e2 (rfl : _ = gx (gw1 s 234 (s1).toNat (gn2 s2))) w4) ?_
  obtain ⟨z8, h⟩ := fx_gd h
  refine gb_bind (gl_ldl (rfl : _ = gx q5.2) (gr q5.1) ga_224 z8) ?_
  obtain ⟨q10, w9, h⟩ := fx_bd h
  refine gb_bind (gf_160 e1 e2 (rfl : _ = gx q5.2) w9) ?_
  obtain ⟨z13, h⟩ := fx_gd h
  refine gb_bind (gl_ldb2 (rfl : _ = gx q10.2) (gr q10.1) ga_234 z13) ?_
  obtain ⟨q15, w14, h⟩ := fx_bd h
  refine gb_bind (gf_131 (gr (q10.2.1 234 (q10.1).toNat)) (rfl : _ = gx q10.2) w14) ?_
  obtain ⟨z16, h⟩ := fx_gd h
  refine gb_bind (gl_stl (rfl : _ = gx q15.2) (gr q5.1) (gal_add (gr2 (q5.2.2 224 (q5.1).toNat)) (ga_i2l (gr q15.1) z16)) ga_224 z8) ?_
  exact hk_81 _ _ e1 _ _ (ga_add e2 kg_1) _ _ (rfl : _ = gx (gw2 q15.2 224 (q5.1).toNat ((q5.2.2 224 (q5.1).toNat) + q15.1))) _ h
def gm_172_81 (k_71 : Int → gx_S → Option (gx_S)) : Nat → Int → Int → gx_S → Option (gx_S)
  | 0, _, _, _ => none
  | n + 1, x1, x2, s =>
    if (-2147483648 ≤ x2 ∧ x2 ≤ 2147483647) then (
    if (-2147483648 ≤ (s.1 215 18) ∧ (s.1 215 18) ≤ 2147483647) then (
    if (s.1 215 18) ≤ x2 then (
      k_71 (x1 + 1) s) else (
      (gm_160 x1 x2 s).bind fun q5 =>
      if 0 ≤ q5.1 ∧ q5.1 < 72 then (
      (gm_160 x1 x2 (gw1 q5.2 233 (q5.1).toNat (gn2 1))).bind fun q10 =>
      (gm_167 x1 x2 q10.2).bind fun q12 =>
      if 0 ≤ q10.1 ∧ q10.1 < 72 then (
      (gm_160 x1 x2 (gw1 q12.2 234 (q10.1).toNat (gn2 (gb q12.1)))).bind fun q17 =>
      (gm_167 x1 x2 q17.2).bind fun q19 =>
      if (gb q19.1) = 0 then (
        gm_172_146 (gm_172_81 k_71 n) x1 x2 q17.1 0 q19.2) else (
        (gm_171 q19.2).bind fun q22 =>
        if (gb q22.1) = 0 then (
          gm_172_146 (gm_172_81 k_71 n) x1 x2 q17.1 0 q22.2) else (
          gm_172_146 (gm_172_81 k_71 n) x1 x2 q17.1 1 q22.2))) else none) else none)) else none) else none
theorem gf_172_81 {kf_71 : Int32 → fx_S → Option (fx_S)} {kg_71 : Int → gx_S → Option (gx_S)} (hk_71 : ∀ (x1 : Int) (yx1 : Int32) (e1 : yx1 = Int32.ofInt x1) (s : gx_S) (σ : fx_S) (es : σ = gx s) (q : gx_S), kg_71 x1 s = some q → kf_71 yx1 σ = some (gx q)) : ∀ (n : Nat) (x1 : Int) (yx1 : Int32) (e1 : yx1 = Int32.ofInt x1) (x2 : Int) (yx2 : Int32) (e2 : yx2 = Int32.ofInt x2) (s : gx_S) (σ : fx_S) (es : σ = gx s) (q : gx_S), gm_172_81 kg_71 n x1 x2 s = some q → fm_172_81 kf_71 n yx1 yx2 σ = some (gx q) := by
  intro n
  induction n with
  | zero =>
    intro x1 yx1 e1 x2 yx2 e2 s σ es q  h
    rw [gm_172_81] at h
    exact fx_no h
  | succ n ih =>
    intro x1 yx1 e1 x2 yx2 e2 s σ es q  h
    rw [gm_172_81] at h
    rw [fm_172_81]
    obtain ⟨z1, h⟩ := fx_gd h
    obtain ⟨z2, h⟩ := fx_gd h
    by_cases c3 : (s.1 215 18) ≤ x2
    · rw [if_pos c3] at h
      refine gb_t ((gc_le (gf1 es 215 18) e2 z2 z1).mpr c3) ?_
      exact hk_71 _ _ (ga_add e1 kg_1) _ _ es _ h
    · rw [if_neg c3] at h
      refine gb_f (fun q => c3 ((gc_le (gf1 es 215 18) e2 z2 z1).mp q)) ?_
      obtain ⟨q5, w4, h⟩ := fx_bd h
      refine gb_bind (gf_160 e1 e2 es w4) ?_
      obtain ⟨z8, h⟩ := fx_gd h
      refine gb_bind (gl_stb2 (rfl : _ = gx q5.2) (gr q5.1) kg_1 ga_233 z8) ?_
      obtain ⟨q10, w9, h⟩ := fx_bd h
      refine gb_bind (gf_160 e1 e2 (rfl : _ = gx (gw1 q5.2 233 (q5.1).toNat (gn2 1))) w9) ?_
      obtain ⟨q12, w11, h⟩ := fx_bd h
      refine gb_bind (gf_167 e1 e2 (rfl : _ = gx q10.2) w11) ?_
      obtain ⟨z15, h⟩ := fx_gd h
      refine gb_bind (gl_stb2 (rfl : _ = gx q12.2) (gr q10.1) (gb_b q12.1) ga_234 z15) ?_
      obtain ⟨q17, w16, h⟩ := fx_bd h
      refine gb_bind (gf_160 e1 e2 (rfl : _ = gx (gw1 q12.2 234 (q10.1).toNat (gn2 (gb q12.1)))) w16) ?_
      obtain ⟨q19, w18, h⟩ := fx_bd h
      refine gb_bind (gf_167 e1 e2 (rfl : _ = gx q17.2) w18) ?_
      by_cases c20 : (gb q19.1) = 0
      · rw [if_pos c20] at h
        refine gb_t ((gc_eq (gb_b q19.1) kg_0 (gb_r _) (by decide)).mpr c20) ?_
        exact gf_172_146 ih _ _ e1 _ _ e2 _ _ (gr q17.1) _ _ kg_0 _ _ (rfl : _ = gx q19.2) _ h
      · rw [if_neg c20] at h
        refine gb_f (fun q => c20 ((gc_eq (gb_b q19.1) kg_0 (gb_r _) (by decide)).mp q)) ?_
        obtain ⟨q22, w21, h⟩ := fx_bd h
        refine gb_bind (gf_171 (rfl : _ = gx q19.2) w21) ?_
        by_cases c23 : (gb q22.1) = 0
        · rw [if_pos c23] at h
          refine gb_t ((gc_eq (gb_b q22.1) kg_0 (gb_r _) (by decide)).mpr c23) ?_
          exact gf_172_146 ih _ _ e1 _ _ e2 _ _ (gr q17.1) _ _ kg_0 _ _ (rfl : _ = gx q22.2) _ h
        · rw [if_neg c23] at h
          refine gb_f (fun q => c23 ((gc_eq (gb_b q22.1) kg_0 (gb_r _) (by decide)).mp q)) ?_
          exact gf_172_146 ih _ _ e1 _ _ e2 _ _ (gr q17.1) _ _ kg_1 _ _ (rfl : _ = gx q22.2) _ h
def gm_172_71 : Nat → Int → gx_S → Option (gx_S)
  | 0, _, _ => none
  | n + 1, x1, s =>
    if (-2147483648 ≤ x1 ∧ x1 ≤ 2147483647) then (
    if (-2147483648 ≤ (s.1 215 17) ∧ (s.1 215 17) ≤ 2147483647) then (
    if (s.1 215 17) ≤ x1 then (
      some s) else (
      gm_172_81 (gm_172_71 n) 100000 x1 0 s)) else none) else none
theorem gf_172_71 : ∀ (n : Nat) (x1 : Int) (yx1 : Int32) (e1 : yx1 = Int32.ofInt x1) (s : gx_S) (σ : fx_S) (es : σ = gx s) (q : gx_S), gm_172_71 n x1 s = some q → fm_172_71 n yx1 σ = some (gx q) := by
  intro n
  induction n with
  | zero =>
    intro x1 yx1 e1 s σ es q  h
    rw [gm_172_71] at h
    exact fx_no h
  | succ n ih =>
    intro x1 yx1 e1 s σ es q  h
    rw [gm_172_71] at h
    rw [fm_172_71]
    obtain ⟨z1, h⟩ := fx_gd h
    obtain ⟨z2, h⟩ := fx_gd h
    by_cases c3 : (s.1 215 17) ≤ x1
    · rw [if_pos c3] at h
      refine gb_t ((gc_le (gf1 es 215 17) e1 z2 z1).mpr c3) ?_
      have h := Option.some.inj h
      subst h
      exact gretv es
    · rw [if_neg c3] at h
      refine gb_f (fun q => c3 ((gc_le (gf1 es 215 17) e1 z2 z1).mp q)) ?_
      exact gf_172_81 ih 100000 _ _ e1 _ _ kg_0 _ _ es _ h
def gm_172_50 : Nat → Int → gx_S → Option (gx_S)
  | 0, _, _ => none
  | n + 1, x1, s =>
    if (-2147483648 ≤ x1 ∧ x1 ≤ 2147483647) then (
    if 72 ≤ x1 then (
      gm_172_71 100000 0 s) else (
      if 0 ≤ x1 ∧ x1 < 72 then (
      gm_172_50 n (x1 + 1) (gw1 s 233 (x1).toNat (gn2 0))) else none)) else none
theorem gf_172_50 : ∀ (n : Nat) (x1 : Int) (yx1 : Int32) (e1 : yx1 = Int32.ofInt x1) (s : gx_S) (σ : fx_S) (es : σ = gx s) (q : gx_S), gm_172_50 n x1 s = some q → fm_172_50 n yx1 σ = some (gx q) := by
  intro n
  induction n with
  | zero =>
    intro x1 yx1 e1 s σ es q  h
    rw [gm_172_50] at h
    exact fx_no h
  | succ n ih =>
    intro x1 yx1 e1 s σ es q  h
    rw [gm_172_50] at h
    rw [fm_172_50]
    obtain ⟨z1, h⟩ := fx_gd h
    by_cases c2 : 72 ≤ x1
    · rw [if_pos c2] at h
      refine gb_t ((gc_le kg_72 e1 (by decide) z1).mpr c2) ?_
      exact gf_172_71 100000 _ _ kg_0 _ _ es _ h
    · rw [if_neg c2] at h
      refine gb_f (fun q => c2 ((gc_le kg_72 e1 (by decide) z1).mp q)) ?_
      obtain ⟨z5, h⟩ := fx_gd h
      refine gb_bind (gl_stb2 es e1 kg_0 ga_233 z5) ?_
      exact ih _ _ (ga_add e1 kg_1) _ _ (rfl : _ = gx (gw1 s 233 (x1).toNat (gn2 0))) _ h
def gm_172_29 : Nat → Int → gx_S → Option (gx_S)
  | 0, _, _ => none
  | n + 1, x1, s =>
    if (-2147483648 ≤ x1 ∧ x1 ≤ 2147483647) then (
    if (-2147483648 ≤ (s.1 215 18) ∧ (s.1 215 18) ≤ 2147483647) then (
    if (s.1 215 18) ≤ x1 then (
      gm_172_50 100000 0 s) else (
      (gm_166 x1 s).bind fun q5 =>
      gm_172_29 n (x1 + 1) q5)) else none) else none
theorem gf_172_29 : ∀ (n : Nat) (x1 : Int) (yx1 : Int32) (e1 : yx1 = Int32.ofInt x1) (s : gx_S) (σ : fx_S) (es : σ = gx s) (q : gx_S), gm_172_29 n x1 s = some q → fm_172_29 n yx1 σ = some (gx q) := by
  intro n
  induction n with
  | zero =>
    intro x1 yx1 e1 s σ es q  h
    rw [gm_172_29] at h
    exact fx_no h
  | succ n ih =>
    intro x1 yx1 e1 s σ es q  h
    rw [gm_172_29] at h
    rw [fm_172_29]
    obtain ⟨z1, h⟩ := fx_gd h
    obtain ⟨z2, h⟩ := fx_gd h
    by_cases c3 : (s.1 215 18) ≤ x1
    · rw [if_pos c3] at h
      refine gb_t ((gc_le (gf1 es 215 18) e1 z2 z1).mpr c3) ?_
      exact gf_172_50 100000 _ _ kg_0 _ _ es _ h
    · rw [if_neg c3] at h
      refine gb_f (fun q => c3 ((gc_le (gf1 es 215 18) e1 z2 z1).mp q)) ?_
      obtain ⟨q5, w4, h⟩ := fx_bd h
      refine gb_bind (gf_166 e1 es w4) ?_
      exact ih _ _ (ga_add e1 kg_1) _ _ (rfl : _ = gx q5) _ h
def gm_172_2 : Nat → Int → gx_S → Option (gx_S)
  | 0, _, _ => none
  | n + 1, x1, s =>
    if (-2147483648 ≤ x1 ∧ x1 ≤ 2147483647) then (
    if (-2147483648 ≤ (s.1 215 17) ∧ (s.1 215 17) ≤ 2147483647) then (
    if (s.1 215 17) ≤ x1 then (
      gm_172_29 100000 0 s) else (
      (gm_162 x1 s).bind fun q5 =>
      if 0 ≤ x1 ∧ x1 < 8 then (
      gm_172_2 n (x1 + 1) (gw2 q5.2 226 (x1).toNat q5.1)) else none)) else none) else none
theorem gf_172_2 : ∀ (n : Nat) (x1 : Int) (yx1 : Int32) (e1 : yx1 = Int32.ofInt x1) (s : gx_S) (σ : fx_S) (es : σ = gx s) (q : gx_S), gm_172_2 n x1 s = some q → fm_172_2 n yx1 σ = some (gx q) := by
  intro n
  induction n with
  | zero =>
    intro x1 yx1 e1 s σ es q  h
    rw [gm_172_2] at h
    exact fx_no h
  | succ n ih =>
    intro x1 yx1 e1 s σ es q  h
    rw [gm_172_2] at h
    rw [fm_172_2]
    obtain ⟨z1, h⟩ := fx_gd h
    obtain ⟨z2, h⟩ := fx_gd h
    by_cases c3 : (s.1 215 17) ≤ x1
    · rw [if_pos c3] at h
      refine gb_t ((gc_le (gf1 es 215 17) e1 z2 z1).mpr c3) ?_
      exact gf_172_29 100000 _ _ kg_0 _ _ es _ h
    · rw [if_neg c3] at h
      refine gb_f (fun q => c3 ((gc_le (gf1 es 215 17) e1 z2 z1).mp q)) ?_
      obtain ⟨q5, w4, h⟩ := fx_bd h
      refine gb_bind (gf_162 e1 es w4) ?_
      obtain ⟨z8, h⟩ := fx_gd h
      refine gb_bind (gl_stl (rfl : _ = gx q5.2) e1 (gr2 q5.1) ga_226 z8) ?_
      exact ih _ _ (ga_add e1 kg_1) _ _ (rfl : _ = gx (gw2 q5.2 226 (x1).toNat q5.1)) _ h
def gm_172 (s : gx_S) : Option (gx_S) :=
  gm_172_2 100000 0 s
theorem gf_172 {s : gx_S} {σ : fx_S} (es : σ = gx s) {q : gx_S} (h : gm_172 s = some q) : fm_172 σ = some (gx q) := by
  unfold gm_172 at h
  unfold fm_172
  exact gf_172_2 100000 _ _ kg_0 _ _ es _ h

/-! ZoneSharesModel.fills()V -/
def gm_173_39 : Nat → Int → gx_S → Option (gx_S)
  | 0, _, _ => none
  | n + 1, x1, s =>
    if (-2147483648 ≤ x1 ∧ x1 ≤ 2147483647) then (
    if (-2147483648 ≤ (s.1 215 17) ∧ (s.1 215 17) ≤ 2147483647) then (
    if (s.1 215 17) ≤ x1 then (
      some s) else (
      (gm_163 x1 s).bind fun q5 =>
      gm_173_39 n (x1 + 1) q5)) else none) else none
theorem gf_173_39 : ∀ (n : Nat) (x1 : Int) (yx1 : Int32) (e1 : yx1 = Int32.ofInt x1) (s : gx_S) (σ : fx_S) (es : σ = gx s) (q : gx_S), gm_173_39 n x1 s = some q → fm_173_39 n yx1 σ = some (gx q) := by
  intro n
  induction n with
  | zero =>
    intro x1 yx1 e1 s σ es q  h
    rw [gm_173_39] at h
    exact fx_no h
  | succ n ih =>
    intro x1 yx1 e1 s σ es q  h
    rw [gm_173_39] at h
    rw [fm_173_39]
    obtain ⟨z1, h⟩ := fx_gd h
    obtain ⟨z2, h⟩ := fx_gd h
    by_cases c3 : (s.1 215 17) ≤ x1
    · rw [if_pos c3] at h
      refine gb_t ((gc_le (gf1 es 215 17) e1 z2 z1).mpr c3) ?_
      have h := Option.some.inj h
      subst h
      exact gretv es
    · rw [if_neg c3] at h
      refine gb_f (fun q => c3 ((gc_le (gf1 es 215 17) e1 z2 z1).mp q)) ?_
      obtain ⟨q5, w4, h⟩ := fx_bd h
      refine gb_bind (gf_163 e1 es w4) ?_
      exact ih _ _ (ga_add e1 kg_1) _ _ (rfl : _ = gx q5) _ h
def gm_173_2 : Nat → Int → gx_S → Option (gx_S)
  | 0, _, _ => none
  | n + 1, x1, s =>
    if (-2147483648 ≤ x1 ∧ x1 ≤ 2147483647) then (
    if (-2147483648 ≤ (s.1 215 17) ∧ (s.1 215 17) ≤ 2147483647) then (
    if (s.1 215 17) ≤ x1 then (
      if (-2147483648 ≤ (s.1 216 3) ∧ (s.1 216 3) ≤ 2147483647) then (
      if ¬ (s.1 216 3) = 1 then (
        gm_173_39 100000 0 s) else (
        (gm_172 s).bind fun q9 =>
        some q9)) else none) else (
      (gm_161 x1 s).bind fun q11 =>
      gm_173_2 n (x1 + 1) q11.2)) else none) else none
theorem gf_173_2 : ∀ (n : Nat) (x1 : Int) (yx1 : Int32) (e1 : yx1 = Int32.ofInt x1) (s : gx_S) (σ : fx_S) (es : σ = gx s) (q : gx_S), gm_173_2 n x1 s = some q → fm_173_2 n yx1 σ = some (gx q) := by
  intro n
  induction n with
  | zero =>
    intro x1 yx1 e1 s σ es q  h
    rw [gm_173_2] at h
    exact fx_no h
  | succ n ih =>
    intro x1 yx1 e1 s σ es q  h
    rw [gm_173_2] at h
    rw [fm_173_2]
    obtain ⟨z1, h⟩ := fx_gd h
    obtain ⟨z2, h⟩ := fx_gd h
    by_cases c3 : (s.1 215 17) ≤ x1
    · rw [if_pos c3] at h
      refine gb_t ((gc_le (gf1 es 215 17) e1 z2 z1).mpr c3) ?_
      refine gb_bind (gl_ld es kg_3 ga_216 (by decide)) ?_
      obtain ⟨z6, h⟩ := fx_gd h
      by_cases c7 : ¬ (s.1 216 3) = 1
      · rw [if_pos c7] at h
        refine gb_t ((gc_ne (gr (s.1 216 3)) kg_1 z6 (by decide)).mpr c7) ?_
        exact gf_173_39 100000 _ _ kg_0 _ _ es _ h
      · rw [if_neg c7] at h
        refine gb_f (fun q => c7 ((gc_ne (gr (s.1 216 3)) kg_1 z6 (by decide)).mp q)) ?_
        obtain ⟨q9, w8, h⟩ := fx_bd h
        refine gb_bind (gf_172 es w8) ?_
        have h := Option.some.inj h
        subst h
        exact gretv (rfl : _ = gx q9)
    · rw [if_neg c3] at h
      refine gb_f (fun q => c3 ((gc_le (gf1 es 215 17) e1 z2 z1).mp q)) ?_
      obtain ⟨q11, w10, h⟩ := fx_bd h
      refine gb_bind (gf_161 e1 es w10) ?_
      exact ih _ _ (ga_add e1 kg_1) _ _ (rfl : _ = gx q11.2) _ h
def gm_173 (s : gx_S) : Option (gx_S) :=
  gm_173_2 100000 0 s
theorem gf_173 {s : gx_S} {σ : fx_S} (es : σ = gx s) {q : gx_S} (h : gm_173 s = some q) : fm_173 σ = some (gx q) := by
  unfold gm_173 at h
  unfold fm_173
  exact gf_173_2 100000 _ _ kg_0 _ _ es _ h

/-! ZoneSharesModel.moved(III)I -/
def gm_185 (x1 : Int) (x2 : Int) (x3 : Int) (s : gx_S) : Option (Int × gx_S) :=
  (gm_150 s).bind fun q34 =>
  if (gb q34.1) = 0 then (
    some ((-1), q34.2)) else (
    (gm_148 x1 q34.2).bind fun q37 =>
    if (gb q37.1) = 0 then (
      some ((-1), q37.2)) else (
      if (-2147483648 ≤ x2 ∧ x2 ≤ 2147483647) then (
      (gm_130 x2 (-1) 7 q37.2).bind fun q41 =>
      if (gb q41.1) = 0 then (
        some ((-1), q41.2)) else (
        if (-2147483648 ≤ x3 ∧ x3 ≤ 2147483647) then (
        (gm_130 x3 (-1) 8 q41.2).bind fun q45 =>
        if ¬ (gb q45.1) = 0 then (
          (gm_181 x1 q45.2).bind fun q48 =>
          (gm_173 q48).bind fun q50 =>
          if ¬ x2 = (-1) then (
            if ¬ x3 = (-1) then (
              (gm_160 x2 x3 q50).bind fun q54 =>
              if 0 ≤ q54.1 ∧ q54.1 < 72 then (
              some ((q54.2.2 224 (q54.1).toNat), q54.2)) else none) else (
              (gm_182 x2 q50).bind fun q59 =>
              some (q59.1, q59.2))) else (
            if ¬ x3 = (-1) then (
              (gm_183 x3 q50).bind fun q62 =>
              some (q62.1, q62.2)) else (
              (gm_184 q50).bind fun q64 =>
              some (q64.1, q64.2)))) else (
          some ((-1), q45.2))) else none)) else none))
theorem gf_185 {x1 : Int} {yx1 : Int32} (e1 : yx1 = Int32.ofInt x1) {x2 : Int} {yx2 : Int32} (e2 : yx2 = Int32.ofInt x2) {x3 : Int} {yx3 : Int32} (e3 : yx3 = Int32.ofInt x3) {s : gx_S} {σ : fx_S} (es : σ = gx s) {q : Int × gx_S} (h : gm_185 x1 x2 x3 s = some q) : fm_185 yx1 yx2 yx3 σ = some (Int32.ofInt q.1, gx q.2) := by
  unfold gm_185 at h
  unfold fm_185
  obtain ⟨q34, w33, h⟩ := fx_bd h
  refine gb_bind (gf_150 es w33) ?_
  by_cases c35 : (gb q34.1) = 0
  · rw [if_pos c35] at h
    refine gb_t ((gc_eq (gb_b q34.1) kg_0 (gb_r _) (by decide)).mpr c35) ?_
    have h := Option.some.inj h
    subst h
    exact gret kg_m1 (rfl : _ = gx q34.2)
  · rw [if_neg c35] at h
    refine gb_f (fun q => c35 ((gc_eq (gb_b q34.1) kg_0 (gb_r _) (by decide)).mp q)) ?_
    obtain ⟨q37, w36, h⟩ := fx_bd h
    refine gb_bind (gf_148 e1 (rfl : _ = gx q34.2) w36) ?_
    by_cases c38 : (gb q37.1) = 0
    · rw [if_pos c38] at h
      refine gb_t ((gc_eq (gb_b q37.1) kg_0 (gb_r _) (by decide)).mpr c38) ?_
      have h := Option.some.inj h
      subst h
      exact gret kg_m1 (rfl : _ = gx q37.2)
    · rw [if_neg c38] at h
      refine gb_f (fun q => c38 ((gc_eq (gb_b q37.1) kg_0 (gb_r _) (by decide)).mp q)) ?_
      obtain ⟨z39, h⟩ := fx_gd h
      obtain ⟨q41, w40, h⟩ := fx_bd h
      refine gb_bind (gf_130 (ga_i2l e2 z39) kgl_m1 kgl_7 (rfl : _ = gx q37.2) w40) ?_
      by_cases c42 : (gb q41.1) = 0
      · rw [if_pos c42] at h
        refine gb_t ((gc_eq (gb_b q41.1) kg_0 (gb_r _) (by decide)).mpr c42) ?_
        have h := Option.some.inj h
        subst h
        exact gret kg_m1 (rfl : _ = gx q41.2)
      · rw [if_neg c42] at h
        refine gb_f (fun q => c42 ((gc_eq (gb_b q41.1) kg_0 (gb_r _) (by decide)).mp q)) ?_
        obtain ⟨z43, h⟩ := fx_gd h
        obtain ⟨q45, w44, h⟩ := fx_bd h
        refine gb_bind (gf_130 (ga_i2l e3 z43) kgl_m1 kgl_8 (rfl : _ = gx q41.2) w44) ?_
        by_cases c46 : ¬ (gb q45.1) = 0
        · rw [if_pos c46] at h
          refine gb_t ((gc_ne (gb_b q45.1) kg_0 (gb_r _) (by decide)).mpr c46) ?_
          obtain ⟨q48, w47, h⟩ := fx_bd h
          refine gb_bind (gf_181 e1 (rfl : _ = gx q45.2) w47) ?_
          obtain ⟨q50, w49, h⟩ := fx_bd h
          refine gb_bind (gf_173 (rfl : _ = gx q48) w49) ?_
          by_cases c51 : ¬ x2 = (-1)
          · rw [if_pos c51] at h
            refine gb_t ((gc_ne e2 kg_m1 z39 (by decide)).mpr c51) ?_
            by_cases c52 : ¬ x3 = (-1)
            · rw [if_pos c52] at h
              refine gb_t ((gc_ne e3 kg_m1 z43 (by decide)).mpr c52) ?_
              obtain ⟨q54, w53, h⟩ := fx_bd h
              refine gb_bind (gf_160 e2 e3 (rfl : _ = gx q50) w53) ?_
              obtain ⟨z57, h⟩ := fx_gd h
              refine gb_bind (gl_ldl (rfl : _ = gx q54.2) (gr q54.1) ga_224 z57) ?_
              have h := Option.some.inj h
              subst h
              exact gret (ga_l2i (gr2 (q54.2.2 224 (q54.1).toNat))) (rfl : _ = gx q54.2)
            · rw [if_neg c52] at h
              refine gb_f (fun q => c52 ((gc_ne e3 kg_m1 z43 (by decide)).mp q)) ?_
              obtain ⟨q59, w58, h⟩ := fx_bd h
              refine gb_bind (gf_182 e2 (rfl : _ = gx q50) w58) ?_
              have h := Option.some.inj h
              subst h
              exact gret (gr q59.1) (rfl : _ = gx q59.2)
          · rw [if_neg c51] at h
            refine gb_f (fun q => c51 ((gc_ne e2 kg_m1 z39 (by decide)).mp q)) ?_
            by_cases c60 : ¬ x3 = (-1)
            · rw [if_pos c60] at h
              refine gb_t ((gc_ne e3 kg_m1 z43 (by decide)).mpr c60) ?_
              obtain ⟨q62, w61, h⟩ := fx_bd h
              refine gb_bind (gf_183 e3 (rfl : _ = gx q50) w61) ?_
              have h := Option.some.inj h
              subst h
              exact gret (gr q62.1) (rfl : _ = gx q62.2)
            · rw [if_neg c60] at h
              refine gb_f (fun q => c60 ((gc_ne e3 kg_m1 z43 (by decide)).mp q)) ?_
              obtain ⟨q64, w63, h⟩ := fx_bd h
              refine gb_bind (gf_184 (rfl : _ = gx q50) w63) ?_
              have h := Option.some.inj h
              subst h
              exact gret (gr q64.1) (rfl : _ = gx q64.2)
        · rw [if_neg c46] at h
          refine gb_f (fun q => c46 ((gc_ne (gb_b q45.1) kg_0 (gb_r _) (by decide)).mp q)) ?_
          have h := Option.some.inj h
          subst h
          exact gret kg_m1 (rfl : _ = gx q45.2)

/-! ZoneSharesModel.coarse(III)I -/
def gm_188_102 (k_73 : Int → Int → Int → gx_S → Option (Int × gx_S)) (x2 : Int) (x5 : Int) (s0 : Int) (s1 : Int) (s : gx_S) : Option (Int × gx_S) :=
  k_73 x2 (s0 + s1) (x5 + 1) s
theorem gf_188_102 {kf_73 : Int32 → Int32 → Int32 → fx_S → Option (Int32 × fx_S)} {kg_73 : Int → Int → Int → gx_S → Option (Int × gx_S)} (hk_73 : ∀ (x2 : Int) (yx2 : Int32) (e2 : yx2 = Int32.ofInt x2) (x4 : Int) (yx4 : Int32) (e4 : yx4 = Int32.ofInt x4) (x5 : Int) (yx5 : Int32) (e5 : yx5 = Int32.ofInt x5) (s : gx_S) (σ : fx_S) (es : σ = gx s) (q : Int × gx_S), kg_73 x2 x4 x5 s = some q → kf_73 yx2 yx4 yx5 σ = some (Int32.ofInt q.1, gx q.2)) (x2 : Int) (yx2 : Int32) (e2 : yx2 = Int32.ofInt x2) (x5 : Int) (yx5 : Int32) (e5 : yx5 = Int32.ofInt x5) (s0 : Int) (ys0 : Int32) (es0 : ys0 = Int32.ofInt s0) (s1 : Int) (ys1 : Int32) (es1 : ys1 = Int32.ofInt s1) (s : gx_S) (σ : fx_S) (es : σ = gx s) (q : Int × gx_S) (h : gm_188_102 kg_73 x2 x5 s0 s1 s = some q) : fm_188_102 kf_73 yx2 yx5 ys0 ys1 σ = some (Int32.ofInt q.1, gx q.2) := by
  unfold gm_188_102 at h
  unfold fm_188_102
  exact hk_73 _ _ e2 _ _ (ga_add es0 es1) _ _ (ga_add e5 kg_1) _ _ es _ h
def gm_188_73 : Nat → Int → Int → Int → gx_S → Option (Int × gx_S)
  | 0, _, _, _, _ => none
  | n + 1, x2, x4, x5, s =>
    if (-2147483648 ≤ x5 ∧ x5 ≤ 2147483647) then (
    if 8 ≤ x5 then (
      some (x4, s)) else (
      (gm_186 x5 s).bind fun q4 =>
      if (-2147483648 ≤ q4.1 ∧ q4.1 ≤ 2147483647) then (
      if (-2147483648 ≤ x2 ∧ x2 ≤ 2147483647) then (
      if ¬ q4.1 = x2 then (
        gm_188_102 (gm_188_73 n) x2 x5 x4 0 q4.2) else (
        (gm_183 x5 q4.2).bind fun q9 =>
        gm_188_102 (gm_188_73 n) x2 x5 x4 q9.1 q9.2)) else none) else none)) else none
theorem gf_188_73 : ∀ (n : Nat) (x2 : Int) (yx2 : Int32) (e2 : yx2 = Int32.ofInt x2) (x4 : Int) (yx4 : Int32) (e4 : yx4 = Int32.ofInt x4) (x5 : Int) (yx5 : Int32) (e5 : yx5 = Int32.ofInt x5) (s : gx_S) (σ : fx_S) (es : σ = gx s) (q : Int × gx_S), gm_188_73 n x2 x4 x5 s = some q → fm_188_73 n yx2 yx4 yx5 σ = some (Int32.ofInt q.1, gx q.2) := by
  intro n
  induction n with
  | zero =>
    intro x2 yx2 e2 x4 yx4 e4 x5 yx5 e5 s σ es q  h
    rw [gm_188_73] at h
    exact fx_no h
  | succ n ih =>
    intro x2 yx2 e2 x4 yx4 e4 x5 yx5 e5 s σ es q  h
    rw [gm_188_73] at h
    rw [fm_188_73]
    obtain ⟨z1, h⟩ := fx_gd h
    by_cases c2 : 8 ≤ x5
    · rw [if_pos c2] at h
      refine gb_t ((gc_le kg_8 e5 (by decide) z1).mpr c2) ?_
      have h := Option.some.inj h
      subst h
      exact gret e4 es
    · rw [if_neg c2] at h
      refine gb_f (fun q => c2 ((gc_le kg_8 e5 (by decide) z1).mp q)) ?_
      obtain ⟨q4, w3, h⟩ := fx_bd h
      refine gb_bind (gf_186 e5 es w3) ?_
      obtain ⟨z5, h⟩ := fx_gd h
      obtain ⟨z6, h⟩ := fx_gd h
      by_cases c7 : ¬ q4.1 = x2
      · rw [if_pos c7] at h
        refine gb_t ((gc_ne (gr q4.1) e2 z5 z6).mpr c7) ?_
        exact gf_188_102 ih _ _ e2 _ _ e5 _ _ e4 _ _ kg_0 _ _ (rfl : _ = gx q4.2) _ h
      · rw [if_neg c7] at h
        refine gb_f (fun q => c7 ((gc_ne (gr q4.1) e2 z5 z6).mp q)) ?_
        obtain ⟨q9, w8, h⟩ := fx_bd h
        refine gb_bind (gf_183 e5 (rfl : _ = gx q4.2) w8) ?_
        exact gf_188_102 ih _ _ e2 _ _ e5 _ _ e4 _ _ (gr q9.1) _ _ (rfl : _ = gx q9.2) _ h
def gm_188 (x1 : Int) (x2 : Int) (x3 : Int) (s : gx_S) : Option (Int × gx_S) :=
  (gm_150 s).bind fun q36 =>
  if (gb q36.1) = 0 then (
    some ((-1), q36.2)) else (
    (gm_148 x1 q36.2).bind fun q39 =>
    if (gb q39.1) = 0 then (
      some ((-1), q39.2)) else (
      if (-2147483648 ≤ x2 ∧ x2 ≤ 2147483647) then (
      (gm_130 x2 0 3 q39.2).bind fun q43 =>
      if (gb q43.1) = 0 then (
        some ((-1), q43.2)) else (
        if (-2147483648 ≤ x3 ∧ x3 ≤ 2147483647) then (
        (gm_130 x3 0 1 q43.2).bind fun q47 =>
        if ¬ (gb q47.1) = 0 then (
          if ¬ x3 = 1 then (
            (gm_181 x1 q47.2).bind fun q51 =>
            (gm_173 q51).bind fun q53 =>
            gm_188_73 100000 x2 0 0 q53) else (
            (gm_187 x1 q47.2).bind fun q55 =>
            (gm_173 q55).bind fun q57 =>
            (gm_183 x2 q57).bind fun q59 =>
            some (q59.1, q59.2))) else (
          some ((-1), q47.2))) else none)) else none))
theorem gf_188 {x1 : Int} {yx1 : Int32} (e1 : yx1 = Int32.ofInt x1) {x2 : Int} {yx2 : Int32} (e2 : yx2 = Int32.ofInt x2) {x3 : Int} {yx3 : Int32} (e3 : yx3 = Int32.ofInt x3) {s : gx_S} {σ : fx_S} (es : σ = gx s) {q : Int × gx_S} (h : gm_188 x1 x2 x3 s = some q) : fm_188 yx1 yx2 yx3 σ = some (Int32.ofInt q.1, gx q.2) := by
  unfold gm_188 at h
  unfold fm_188
  obtain ⟨q36, w35, h⟩ := fx_bd h
  refine gb_bind (gf_150 es w35) ?_
  by_cases c37 : (gb q36.1) = 0
  · rw [if_pos c37] at h
    refine gb_t ((gc_eq (gb_b q36.1) kg_0 (gb_r _) (by decide)).mpr c37) ?_
    have h := Option.some.inj h
    subst h
    exact gret kg_m1 (rfl : _ = gx q36.2)
  · rw [if_neg c37] at h
    refine gb_f (fun q => c37 ((gc_eq (gb_b q36.1) kg_0 (gb_r _) (by decide)).mp q)) ?_
    obtain ⟨q39, w38, h⟩ := fx_bd h
    refine gb_bind (gf_148 e1 (rfl : _ = gx q36.2) w38) ?_
    by_cases c40 : (gb q39.1) = 0
    · rw [if_pos c40] at h
      refine gb_t ((gc_eq (gb_b q39.1) kg_0 (gb_r _) (by decide)).mpr c40) ?_
      have h := Option.some.inj h
      subst h
      exact gret kg_m1 (rfl : _ = gx q39.2)
    · rw [if_neg c40] at h
      refine gb_f (fun q => c40 ((gc_eq (gb_b q39.1) kg_0 (gb_r _) (by decide)).mp q)) ?_
      obtain ⟨z41, h⟩ := fx_gd h
      obtain ⟨q43, w42, h⟩ := fx_bd h
      refine gb_bind (gf_130 (ga_i2l e2 z41) kgl_0 kgl_3 (rfl : _ = gx q39.2) w42) ?_
      by_cases c44 : (gb q43.1) = 0
      · rw [if_pos c44] at h
        refine gb_t ((gc_eq (gb_b q43.1) kg_0 (gb_r _) (by decide)).mpr c44) ?_
        have h := Option.some.inj h
        subst h
        exact gret kg_m1 (rfl : _ = gx q43.2)
      · rw [if_neg c44] at h
        refine gb_f (fun q => c44 ((gc_eq (gb_b q43.1) kg_0 (gb_r _) (by decide)).mp q)) ?_
        obtain ⟨z45, h⟩ := fx_gd h
        obtain ⟨q47, w46, h⟩ := fx_bd h
        refine gb_bind (gf_130 (ga_i2l e3 z45) kgl_0 kgl_1 (rfl : _ = gx q43.2) w46) ?_
        by_cases c48 : ¬ (gb q47.1) = 0
        · rw [if_pos c48] at h
          refine gb_t ((gc_ne (gb_b q47.1) kg_0 (gb_r _) (by decide)).mpr c48) ?_
          by_cases c49 : ¬ x3 = 1
          · rw [if_pos c49] at h
            refine gb_t ((gc_ne e3 kg_1 z45 (by decide)).mpr c49) ?_
            obtain ⟨q51, w50, h⟩ := fx_bd h
            refine gb_bind (gf_181 e1 (rfl : _ = gx q47.2) w50) ?_
            obtain ⟨q53, w52, h⟩ := fx_bd h
            refine gb_bind (gf_173 (rfl : _ = gx q51) w52) ?_
            exact gf_188_73 100000 _ _ e2 _ _ kg_0 _ _ kg_0 _ _ (rfl : _ = gx q53) _ h
          · rw [if_neg c49] at h
            refine gb_f (fun q => c49 ((gc_ne e3 kg_1 z45 (by decide)).mp q)) ?_
            obtain ⟨q55, w54, h⟩ := fx_bd h
            refine gb_bind (gf_187 e1 (rfl : _ = gx q47.2) w54) ?_
            obtain ⟨q57, w56, h⟩ := fx_bd h
            refine gb_bind (gf_173 (rfl : _ = gx q55) w56) ?_
            obtain ⟨q59, w58, h⟩ := fx_bd h
            refine gb_bind (gf_183 e2 (rfl : _ = gx q57) w58) ?_
            have h := Option.some.inj h
            subst h
            exact gret (gr q59.1) (rfl : _ = gx q59.2)
        · rw [if_neg c48] at h
          refine gb_f (fun q => c48 ((gc_ne (gb_b q47.1) kg_0 (gb_r _) (by decide)).mp q)) ?_
          have h := Option.some.inj h
          subst h
          exact gret kg_m1 (rfl : _ = gx q47.2)

/-! ZoneSharesModel.byWay(II)I -/
def gm_189_110 (k_70 : Int → Int → Int → gx_S → Option (Int × gx_S)) (x1 : Int) (x2 : Int) (x3 : Int) (s : gx_S) : Option (Int × gx_S) :=
  k_70 x1 x2 (x3 + 1) s
theorem gf_189_110 {kf_70 : Int32 → Int32 → Int32 → fx_S → Option (Int32 × fx_S)} {kg_70 : Int → Int → Int → gx_S → Option (Int × gx_S)} (hk_70 : ∀ (x1 : Int) (yx1 : Int32) (e1 : yx1 = Int32.ofInt x1) (x2 : Int) (yx2 : Int32) (e2 : yx2 = Int32.ofInt x2) (x3 : Int) (yx3 : Int32) (e3 : yx3 = Int32.ofInt x3) (s : gx_S) (σ : fx_S) (es : σ = gx s) (q : Int × gx_S), kg_70 x1 x2 x3 s = some q → kf_70 yx1 yx2 yx3 σ = some (Int32.ofInt q.1, gx q.2)) (x1 : Int) (yx1 : Int32) (e1 : yx1 = Int32.ofInt x1) (x2 : Int) (yx2 : Int32) (e2 : yx2 = Int32.ofInt x2) (x3 : Int) (yx3 : Int32) (e3 : yx3 = Int32.ofInt x3) (s : gx_S) (σ : fx_S) (es : σ = gx s) (q : Int × gx_S) (h : gm_189_110 kg_70 x1 x2 x3 s = some q) : fm_189_110 kf_70 yx1 yx2 yx3 σ = some (Int32.ofInt q.1, gx q.2) := by
  unfold gm_189_110 at h
  unfold fm_189_110
  exact hk_70 _ _ e1 _ _ e2 _ _ (ga_add e3 kg_1) _ _ es _ h
def gm_189_70 : Nat → Int → Int → Int → gx_S → Option (Int × gx_S)
  | 0, _, _, _, _ => none
  | n + 1, x1, x2, x3, s =>
    if (-2147483648 ≤ x3 ∧ x3 ≤ 2147483647) then (
    if 4 ≤ x3 then (
      (gm_173 s).bind fun q4 =>
      (gm_183 x2 q4).bind fun q6 =>
      some (q6.1, q6.2)) else (
      if 0 ≤ x3 ∧ x3 < 4 then (
      if (-2147483648 ≤ (s.1 238 (x3).toNat) ∧ (s.1 238 (x3).toNat) ≤ 2147483647) then (
      if 0 ≤ x3 ∧ x3 < 8 then (
      (gm_190 x1 x3 0 (gw2 s 221 (x3).toNat (s.1 238 (x3).toNat))).bind fun q15 =>
      (gm_161 x3 q15).bind fun q17 =>
      if (-2147483648 ≤ q17.1 ∧ q17.1 ≤ 2147483647) then (
      if ¬ q17.1 = 0 then (
        gm_189_110 (gm_189_70 n) x1 x2 x3 q17.2) else (
        (gm_190 x1 x3 1 q17.2).bind fun q21 =>
        gm_189_110 (gm_189_70 n) x1 x2 x3 q21)) else none) else none) else none) else none)) else none
theorem gf_189_70 : ∀ (n : Nat) (x1 : Int) (yx1 : Int32) (e1 : yx1 = Int32.ofInt x1) (x2 : Int) (yx2 : Int32) (e2 : yx2 = Int32.ofInt x2) (x3 : Int) (yx3 : Int32) (e3 : yx3 = Int32.ofInt x3) (s : gx_S) (σ : fx_S) (es : σ = gx s) (q : Int × gx_S), gm_189_70 n x1 x2 x3 s = some q → fm_189_70 n yx1 yx2 yx3 σ = some (Int32.ofInt q.1, gx q.2) := by
  intro n
  induction n with
  | zero =>
    intro x1 yx1 e1 x2 yx2 e2 x3 yx3 e3 s σ es q  h
    rw [gm_189_70] at h
    exact fx_no h
  | succ n ih =>
    intro x1 yx1 e1 x2 yx2 e2 x3 yx3 e3 s σ es q  h
    rw [gm_189_70] at h
    rw [fm_189_70]
    obtain ⟨z1, h⟩ := fx_gd h
    by_cases c2 : 4 ≤ x3
    · rw [if_pos c2] at h
      refine gb_t ((gc_le kg_4 e3 (by decide) z1).mpr c2) ?_
      obtain ⟨q4, w3, h⟩ := fx_bd h
      refine gb_bind (gf_173 es w3) ?_
      obtain ⟨q6, w5, h⟩ := fx_bd h
      refine gb_bind (gf_183 e2 (rfl : _ = gx q4) w5) ?_
      have h := Option.some.inj h
      subst h
      exact gret (gr q6.1) (rfl : _ = gx q6.2)
    · rw [if_neg c2] at h
      refine gb_f (fun q => c2 ((gc_le kg_4 e3 (by decide) z1).mp q)) ?_
      obtain ⟨z9, h⟩ := fx_gd h
      refine gb_bind (gl_ld es e3 ga_238 z9) ?_
      obtain ⟨z10, h⟩ := fx_gd h
      obtain ⟨z13, h⟩ := fx_gd h
      refine gb_bind (gl_stl es e3 (ga_i2l (gr (s.1 238 (x3).toNat)) z10) ga_221 z13) ?_
      obtain ⟨q15, w14, h⟩ := fx_bd h
      refine gb_bind (gf_190 e1 e3 kg_0 (rfl : _ = gx (gw2 s 221 (x3).toNat (s.1 238 (x3).toNat))) w14) ?_
      obtain ⟨q17, w16, h⟩ := fx_bd h
      refine gb_bind (gf_161 e3 (rfl : _ = gx q15) w16) ?_
      obtain ⟨z18, h⟩ := fx_gd h
      by_cases c19 : ¬ q17.1 = 0
      · rw [if_pos c19] at h
        refine gb_t ((gc_ne (gr q17.1) kg_0 z18 (by decide)).mpr c19) ?_
        exact gf_189_110 ih _ _ e1 _ _ e2 _ _ e3 _ _ (rfl : _ = gx q17.2) _ h
      · rw [if_neg c19] at h
        refine gb_f (fun q => c19 ((gc_ne (gr q17.1) kg_0 z18 (by decide)).mp q)) ?_
        obtain ⟨q21, w20, h⟩ := fx_bd h
        refine gb_bind (gf_190 e1 e3 kg_1 (rfl : _ = gx q17.2) w20) ?_
        exact gf_189_110 ih _ _ e1 _ _ e2 _ _ e3 _ _ (rfl : _ = gx q21) _ h
def gm_189_39 : Nat → Int → Int → Int → gx_S → Option (Int × gx_S)
  | 0, _, _, _, _ => none
  | n + 1, x1, x2, x3, s =>
    if (-2147483648 ≤ x3 ∧ x3 ≤ 2147483647) then (
    if 4 ≤ x3 then (
      (gm_159 4 8 s).bind fun q4 =>
      gm_189_70 100000 x1 x2 0 q4) else (
      (gm_183 x3 s).bind fun q6 =>
      if 0 ≤ x3 ∧ x3 < 4 then (
      gm_189_39 n x1 x2 (x3 + 1) (gw1 q6.2 238 (x3).toNat q6.1)) else none)) else none
theorem gf_189_39 : ∀ (n : Nat) (x1 : Int) (yx1 : Int32) (e1 : yx1 = Int32.ofInt x1) (x2 : Int) (yx2 : Int32) (e2 : yx2 = Int32.ofInt x2) (x3 : Int) (yx3 : Int32) (e3 : yx3 = Int32.ofInt x3) (s : gx_S) (σ : fx_S) (es : σ = gx s) (q : Int × gx_S), gm_189_39 n x1 x2 x3 s = some q → fm_189_39 n yx1 yx2 yx3 σ = some (Int32.ofInt q.1, gx q.2) := by
  intro n
  induction n with
  | zero =>
    intro x1 yx1 e1 x2 yx2 e2 x3 yx3 e3 s σ es q  h
    rw [gm_189_39] at h
    exact fx_no h
  | succ n ih =>
    intro x1 yx1 e1 x2 yx2 e2 x3 yx3 e3 s σ es q  h
    rw [gm_189_39] at h
    rw [fm_189_39]
    obtain ⟨z1, h⟩ := fx_gd h
    by_cases c2 : 4 ≤ x3
    · rw [if_pos c2] at h
      refine gb_t ((gc_le kg_4 e3 (by decide) z1).mpr c2) ?_
      obtain ⟨q4, w3, h⟩ := fx_bd h
      refine gb_bind (gf_159 kg_4 kg_8 es w3) ?_
      exact gf_189_70 100000 _ _ e1 _ _ e2 _ _ kg_0 _ _ (rfl : _ = gx q4) _ h
    · rw [if_neg c2] at h
      refine gb_f (fun q => c2 ((gc_le kg_4 e3 (by decide) z1).mp q)) ?_
      obtain ⟨q6, w5, h⟩ := fx_bd h
      refine gb_bind (gf_183 e3 es w5) ?_
      obtain ⟨z9, h⟩ := fx_gd h
      refine gb_bind (gl_st (rfl : _ = gx q6.2) e3 (gr q6.1) ga_238 z9) ?_
      exact ih _ _ e1 _ _ e2 _ _ (ga_add e3 kg_1) _ _ (rfl : _ = gx (gw1 q6.2 238 (x3).toNat q6.1)) _ h
def gm_189 (x1 : Int) (x2 : Int) (s : gx_S) : Option (Int × gx_S) :=
  (gm_150 s).bind fun q46 =>
  if (gb q46.1) = 0 then (
    some ((-1), q46.2)) else (
    (gm_148 x1 q46.2).bind fun q49 =>
    if (gb q49.1) = 0 then (
      some ((-1), q49.2)) else (
      if (-2147483648 ≤ x2 ∧ x2 ≤ 2147483647) then (
      (gm_130 x2 0 7 q49.2).bind fun q53 =>
      if ¬ (gb q53.1) = 0 then (
        (gm_187 x1 q53.2).bind fun q56 =>
        (gm_173 q56).bind fun q58 =>
        gm_189_39 100000 x1 x2 0 q58) else (
        some ((-1), q53.2))) else none))
theorem gf_189 {x1 : Int} {yx1 : Int32} (e1 : yx1 = Int32.ofInt x1) {x2 : Int} {yx2 : Int32} (e2 : yx2 = Int32.ofInt x2) {s : gx_S} {σ : fx_S} (es : σ = gx s) {q : Int × gx_S} (h : gm_189 x1 x2 s = some q) : fm_189 yx1 yx2 σ = some (Int32.ofInt q.1, gx q.2) := by
  unfold gm_189 at h
  unfold fm_189
  obtain ⟨q46, w45, h⟩ := fx_bd h
  refine gb_bind (gf_150 es w45) ?_
  by_cases c47 : (gb q46.1) = 0
  · rw [if_pos c47] at h
    refine gb_t ((gc_eq (gb_b q46.1) kg_0 (gb_r _) (by decide)).mpr c47) ?_
    have h := Option.some.inj h
    subst h
    exact gret kg_m1 (rfl : _ = gx q46.2)
  · rw [if_neg c47] at h
    refine gb_f (fun q => c47 ((gc_eq (gb_b q46.1) kg_0 (gb_r _) (by decide)).mp q)) ?_
    obtain ⟨q49, w48, h⟩ := fx_bd h
    refine gb_bind (gf_148 e1 (rfl : _ = gx q46.2) w48) ?_
    by_cases c50 : (gb q49.1) = 0
    · rw [if_pos c50] at h
      refine gb_t ((gc_eq (gb_b q49.1) kg_0 (gb_r _) (by decide)).mpr c50) ?_
      have h := Option.some.inj h
      subst h
      exact gret kg_m1 (rfl : _ = gx q49.2)
    · rw [if_neg c50] at h
      refine gb_f (fun q => c50 ((gc_eq (gb_b q49.1) kg_0 (gb_r _) (by decide)).mp q)) ?_
      obtain ⟨z51, h⟩ := fx_gd h
      obtain ⟨q53, w52, h⟩ := fx_bd h
      refine gb_bind (gf_130 (ga_i2l e2 z51) kgl_0 kgl_7 (rfl : _ = gx q49.2) w52) ?_
      by_cases c54 : ¬ (gb q53.1) = 0
      · rw [if_pos c54] at h
        refine gb_t ((gc_ne (gb_b q53.1) kg_0 (gb_r _) (by decide)).mpr c54) ?_
        obtain ⟨q56, w55, h⟩ := fx_bd h
        refine gb_bind (gf_187 e1 (rfl : _ = gx q53.2) w55) ?_
        obtain ⟨q58, w57, h⟩ := fx_bd h
        refine gb_bind (gf_173 (rfl : _ = gx q56) w57) ?_
        exact gf_189_39 100000 _ _ e1 _ _ e2 _ _ kg_0 _ _ (rfl : _ = gx q58) _ h
      · rw [if_neg c54] at h
        refine gb_f (fun q => c54 ((gc_ne (gb_b q53.1) kg_0 (gb_r _) (by decide)).mp q)) ?_
        have h := Option.some.inj h
        subst h
        exact gret kg_m1 (rfl : _ = gx q53.2)

/-! ZoneSharesModel.laysReturned(I)V -/
def gm_191_83 (k_44 : Int → Int → gx_S → Option (gx_S)) : Nat → Int → Int → Int → Int → gx_S → Option (gx_S)
  | 0, _, _, _, _, _ => none
  | n + 1, x1, x2, x3, x4, s =>
    if (-2147483648 ≤ x4 ∧ x4 ≤ 2147483647) then (
    if 9 ≤ x4 then (
      k_44 x1 (x2 + 1) s) else (
      (gm_160 x2 x4 s).bind fun q4 =>
      (gm_157 x1 x4 x2 x3 q4.2).bind fun q6 =>
      if 0 ≤ q4.1 ∧ q4.1 < 72 then (
      gm_191_83 k_44 n x1 x2 x3 (x4 + 1) (gw1 q6.2 222 (q4.1).toNat q6.1)) else none)) else none
theorem gf_191_83 {kf_44 : Int32 → Int32 → fx_S → Option (fx_S)} {kg_44 : Int → Int → gx_S → Option (gx_S)} (hk_44 : ∀ (x1 : Int) (yx1 : Int32) (e1 : yx1 = Int32.ofInt x1) (x2 : Int) (yx2 : Int32) (e2 : yx2 = Int32.ofInt x2) (s : gx_S) (σ : fx_S) (es : σ = gx s) (q : gx_S), kg_44 x1 x2 s = some q → kf_44 yx1 yx2 σ = some (gx q)) : ∀ (n : Nat) (x1 : Int) (yx1 : Int32) (e1 : yx1 = Int32.ofInt x1) (x2 : Int) (yx2 : Int32) (e2 : yx2 = Int32.ofInt x2) (x3 : Int) (yx3 : Int32) (e3 : yx3 = Int32.ofInt x3) (x4 : Int) (yx4 : Int32) (e4 : yx4 = Int32.ofInt x4) (s : gx_S) (σ : fx_S) (es : σ = gx s) (q : gx_S), gm_191_83 kg_44 n x1 x2 x3 x4 s = some q → fm_191_83 kf_44 n yx1 yx2 yx3 yx4 σ = some (gx q) := by
  intro n
  induction n with
  | zero =>
    intro x1 yx1 e1 x2 yx2 e2 x3 yx3 e3 x4 yx4 e4 s σ es q  h
    rw [gm_191_83] at h
    exact fx_no h
  | succ n ih =>
    intro x1 yx1 e1 x2 yx2 e2 x3 yx3 e3 x4 yx4 e4 s σ es q  h
    rw [gm_191_83] at h
    rw [fm_191_83]
    obtain ⟨z1, h⟩ := fx_gd h
    by_cases c2 : 9 ≤ x4
    · rw [if_pos c2] at h
      refine gb_t ((gc_le kg_9 e4 (by decide) z1).mpr c2) ?_
      exact hk_44 _ _ e1 _ _ (ga_add e2 kg_1) _ _ es _ h
    · rw [if_neg c2] at h
      refine gb_f (fun q => c2 ((gc_le kg_9 e4 (by decide) z1).mp q)) ?_
      obtain ⟨q4, w3, h⟩ := fx_bd h
      refine gb_bind (gf_160 e2 e4 es w3) ?_
      obtain ⟨q6, w5, h⟩ := fx_bd h
      refine gb_bind (gf_157 e1 e4 e2 e3 (rfl : _ = gx q4.2) w5) ?_
      obtain ⟨z9, h⟩ := fx_gd h
      refine gb_bind (gl_st (rfl : _ = gx q6.2) (gr q4.1) (gr q6.1) ga_222 z9) ?_
      exact ih _ _ e1 _ _ e2 _ _ e3 _ _ (ga_add e4 kg_1) _ _ (rfl : _ = gx (gw1 q6.2 222 (q4.1).toNat q6.1)) _ h
def gm_191_79 (k_44 : Int → Int → gx_S → Option (gx_S)) (x1 : Int) (x2 : Int) (s0 : Int) (s : gx_S) : Option (gx_S) :=
  gm_191_83 k_44 100000 x1 x2 s0 0 s
theorem gf_191_79 {kf_44 : Int32 → Int32 → fx_S → Option (fx_S)} {kg_44 : Int → Int → gx_S → Option (gx_S)} (hk_44 : ∀ (x1 : Int) (yx1 : Int32) (e1 : yx1 = Int32.ofInt x1) (x2 : Int) (yx2 : Int32) (e2 : yx2 = Int32.ofInt x2) (s : gx_S) (σ : fx_S) (es : σ = gx s) (q : gx_S), kg_44 x1 x2 s = some q → kf_44 yx1 yx2 σ = some (gx q)) (x1 : Int) (yx1 : Int32) (e1 : yx1 = Int32.ofInt x1) (x2 : Int) (yx2 : Int32) (e2 : yx2 = Int32.ofInt x2) (s0 : Int) (ys0 : Int32) (es0 : ys0 = Int32.ofInt s0) (s : gx_S) (σ : fx_S) (es : σ = gx s) (q : gx_S) (h : gm_191_79 kg_44 x1 x2 s0 s = some q) : fm_191_79 kf_44 yx1 yx2 ys0 σ = some (gx q) := by
  unfold gm_191_79 at h
  unfold fm_191_79
  exact gf_191_83 hk_44 100000 _ _ e1 _ _ e2 _ _ es0 _ _ kg_0 _ _ es _ h
def gm_191_44 : Nat → Int → Int → gx_S → Option (gx_S)
  | 0, _, _, _ => none
  | n + 1, x1, x2, s =>
    if (-2147483648 ≤ x2 ∧ x2 ≤ 2147483647) then (
    if 8 ≤ x2 then (
      (gm_173 s).bind fun q4 =>
      some q4) else (
      if 0 ≤ x2 ∧ x2 < 9 then (
      if (-2147483648 ≤ (s.1 239 (x2).toNat) ∧ (s.1 239 (x2).toNat) ≤ 2147483647) then (
      if 0 ≤ x2 ∧ x2 < 8 then (
      (gm_157 x1 (-1) x2 0 (gw2 s 221 (x2).toNat (s.1 239 (x2).toNat))).bind fun q13 =>
      if (-2147483648 ≤ q13.1 ∧ q13.1 ≤ 2147483647) then (
      if ¬ q13.1 = 0 then (
        gm_191_79 (gm_191_44 n) x1 x2 0 q13.2) else (
        gm_191_79 (gm_191_44 n) x1 x2 1 q13.2)) else none) else none) else none) else none)) else none
theorem gf_191_44 : ∀ (n : Nat) (x1 : Int) (yx1 : Int32) (e1 : yx1 = Int32.ofInt x1) (x2 : Int) (yx2 : Int32) (e2 : yx2 = Int32.ofInt x2) (s : gx_S) (σ : fx_S) (es : σ = gx s) (q : gx_S), gm_191_44 n x1 x2 s = some q → fm_191_44 n yx1 yx2 σ = some (gx q) := by
  intro n
  induction n with
  | zero =>
    intro x1 yx1 e1 x2 yx2 e2 s σ es q  h
    rw [gm_191_44] at h
    exact fx_no h
  | succ n ih =>
    intro x1 yx1 e1 x2 yx2 e2 s σ es q  h
    rw [gm_191_44] at h
    rw [fm_191_44]
    obtain ⟨z1, h⟩ := fx_gd h
    by_cases c2 : 8 ≤ x2
    · rw [if_pos c2] at h
      refine gb_t ((gc_le kg_8 e2 (by decide) z1).mpr c2) ?_
      obtain ⟨q4, w3, h⟩ := fx_bd h
      refine gb_bind (gf_173 es w3) ?_
      have h := Option.some.inj h
      subst h
      exact gretv (rfl : _ = gx q4)
    · rw [if_neg c2] at h
      refine gb_f (fun q => c2 ((gc_le kg_8 e2 (by decide) z1).mp q)) ?_
      obtain ⟨z7, h⟩ := fx_gd h
      refine gb_bind (gl_ld es e2 ga_239 z7) ?_
      obtain ⟨z8, h⟩ := fx_gd h
      obtain ⟨z11, h⟩ := fx_gd h
      refine gb_bind (gl_stl es e2 (ga_i2l (gr (s.1 239 (x2).toNat)) z8) ga_221 z11) ?_
      obtain ⟨q13, w12, h⟩ := fx_bd h
      refine gb_bind (gf_157 e1 kg_m1 e2 kg_0 (rfl : _ = gx (gw2 s 221 (x2).toNat (s.1 239 (x2).toNat))) w12) ?_
      obtain ⟨z14, h⟩ := fx_gd h
      by_cases c15 : ¬ q13.1 = 0
      · rw [if_pos c15] at h
        refine gb_t ((gc_ne (gr q13.1) kg_0 z14 (by decide)).mpr c15) ?_
        exact gf_191_79 ih _ _ e1 _ _ e2 _ _ kg_0 _ _ (rfl : _ = gx q13.2) _ h
      · rw [if_neg c15] at h
        refine gb_f (fun q => c15 ((gc_ne (gr q13.1) kg_0 z14 (by decide)).mp q)) ?_
        exact gf_191_79 ih _ _ e1 _ _ e2 _ _ kg_1 _ _ (rfl : _ = gx q13.2) _ h
def gm_191_11 : Nat → Int → Int → gx_S → Option (gx_S)
  | 0, _, _, _ => none
  | n + 1, x1, x2, s =>
    if (-2147483648 ≤ x2 ∧ x2 ≤ 2147483647) then (
    if 8 ≤ x2 then (
      (gm_159 8 9 s).bind fun q4 =>
      gm_191_44 100000 x1 0 q4) else (
      (gm_183 x2 s).bind fun q6 =>
      if 0 ≤ x2 ∧ x2 < 9 then (
      gm_191_11 n x1 (x2 + 1) (gw1 q6.2 239 (x2).toNat q6.1)) else none)) else none
theorem gf_191_11 : ∀ (n : Nat) (x1 : Int) (yx1 : Int32) (e1 : yx1 = Int32.ofInt x1) (x2 : Int) (yx2 : Int32) (e2 : yx2 = Int32.ofInt x2) (s : gx_S) (σ : fx_S) (es : σ = gx s) (q : gx_S), gm_191_11 n x1 x2 s = some q → fm_191_11 n yx1 yx2 σ = some (gx q) := by
  intro n
  induction n with
  | zero =>
    intro x1 yx1 e1 x2 yx2 e2 s σ es q  h
    rw [gm_191_11] at h
    exact fx_no h
  | succ n ih =>
    intro x1 yx1 e1 x2 yx2 e2 s σ es q  h
    rw [gm_191_11] at h
    rw [fm_191_11]
    obtain ⟨z1, h⟩ := fx_gd h
    by_cases c2 : 8 ≤ x2
    · rw [if_pos c2] at h
      refine gb_t ((gc_le kg_8 e2 (by decide) z1).mpr c2) ?_
      obtain ⟨q4, w3, h⟩ := fx_bd h
      refine gb_bind (gf_159 kg_8 kg_9 es w3) ?_
      exact gf_191_44 100000 _ _ e1 _ _ kg_0 _ _ (rfl : _ = gx q4) _ h
    · rw [if_neg c2] at h
      refine gb_f (fun q => c2 ((gc_le kg_8 e2 (by decide) z1).mp q)) ?_
      obtain ⟨q6, w5, h⟩ := fx_bd h
      refine gb_bind (gf_183 e2 es w5) ?_
      obtain ⟨z9, h⟩ := fx_gd h
      refine gb_bind (gl_st (rfl : _ = gx q6.2) e2 (gr q6.1) ga_239 z9) ?_
      exact ih _ _ e1 _ _ (ga_add e2 kg_1) _ _ (rfl : _ = gx (gw1 q6.2 239 (x2).toNat q6.1)) _ h
def gm_191 (x1 : Int) (s : gx_S) : Option (gx_S) :=
  (gm_181 x1 s).bind fun q54 =>
  (gm_173 q54).bind fun q56 =>
  gm_191_11 100000 x1 0 q56
theorem gf_191 {x1 : Int} {yx1 : Int32} (e1 : yx1 = Int32.ofInt x1) {s : gx_S} {σ : fx_S} (es : σ = gx s) {q : gx_S} (h : gm_191 x1 s = some q) : fm_191 yx1 σ = some (gx q) := by
  unfold gm_191 at h
  unfold fm_191
  obtain ⟨q54, w53, h⟩ := fx_bd h
  refine gb_bind (gf_181 e1 es w53) ?_
  obtain ⟨q56, w55, h⟩ := fx_bd h
  refine gb_bind (gf_173 (rfl : _ = gx q54) w55) ?_
  exact gf_191_11 100000 _ _ e1 _ _ kg_0 _ _ (rfl : _ = gx q56) _ h

/-! ZoneSharesModel.returned(II)I -/
def gm_192 (x1 : Int) (x2 : Int) (s : gx_S) : Option (Int × gx_S) :=
  (gm_150 s).bind fun q16 =>
  if (gb q16.1) = 0 then (
    some ((-1), q16.2)) else (
    (gm_148 x1 q16.2).bind fun q19 =>
    if (gb q19.1) = 0 then (
      some ((-1), q19.2)) else (
      if (-2147483648 ≤ x2 ∧ x2 ≤ 2147483647) then (
      (gm_130 x2 0 8 q19.2).bind fun q23 =>
      if ¬ (gb q23.1) = 0 then (
        (gm_191 x1 q23.2).bind fun q26 =>
        (gm_183 x2 q26).bind fun q28 =>
        some (q28.1, q28.2)) else (
        some ((-1), q23.2))) else none))
theorem gf_192 {x1 : Int} {yx1 : Int32} (e1 : yx1 = Int32.ofInt x1) {x2 : Int} {yx2 : Int32} (e2 : yx2 = Int32.ofInt x2) {s : gx_S} {σ : fx_S} (es : σ = gx s) {q : Int × gx_S} (h : gm_192 x1 x2 s = some q) : fm_192 yx1 yx2 σ = some (Int32.ofInt q.1, gx q.2) := by
  unfold gm_192 at h
  unfold fm_192
  obtain ⟨q16, w15, h⟩ := fx_bd h
  refine gb_bind (gf_150 es w15) ?_
  by_cases c17 : (gb q16.1) = 0
  · rw [if_pos c17] at h
    refine gb_t ((gc_eq (gb_b q16.1) kg_0 (gb_r _) (by decide)).mpr c17) ?_
    have h := Option.some.inj h
    subst h
    exact gret kg_m1 (rfl : _ = gx q16.2)
  · rw [if_neg c17] at h
    refine gb_f (fun q => c17 ((gc_eq (gb_b q16.1) kg_0 (gb_r _) (by decide)).mp q)) ?_
    obtain ⟨q19, w18, h⟩ := fx_bd h
    refine gb_bind (gf_148 e1 (rfl : _ = gx q16.2) w18) ?_
    by_cases c20 : (gb q19.1) = 0
    · rw [if_pos c20] at h
      refine gb_t ((gc_eq (gb_b q19.1) kg_0 (gb_r _) (by decide)).mpr c20) ?_
      have h := Option.some.inj h
      subst h
      exact gret kg_m1 (rfl : _ = gx q19.2)
    · rw [if_neg c20] at h
      refine gb_f (fun q => c20 ((gc_eq (gb_b q19.1) kg_0 (gb_r _) (by decide)).mp q)) ?_
      obtain ⟨z21, h⟩ := fx_gd h
      obtain ⟨q23, w22, h⟩ := fx_bd h
      refine gb_bind (gf_130 (ga_i2l e2 z21) kgl_0 kgl_8 (rfl : _ = gx q19.2) w22) ?_
      by_cases c24 : ¬ (gb q23.1) = 0
      · rw [if_pos c24] at h
        refine gb_t ((gc_ne (gb_b q23.1) kg_0 (gb_r _) (by decide)).mpr c24) ?_
        obtain ⟨q26, w25, h⟩ := fx_bd h
        refine gb_bind (gf_191 e1 (rfl : _ = gx q23.2) w25) ?_
        obtain ⟨q28, w27, h⟩ := fx_bd h
        refine gb_bind (gf_183 e2 (rfl : _ = gx q26) w27) ?_
        have h := Option.some.inj h
        subst h
        exact gret (gr q28.1) (rfl : _ = gx q28.2)
      · rw [if_neg c24] at h
        refine gb_f (fun q => c24 ((gc_ne (gb_b q23.1) kg_0 (gb_r _) (by decide)).mp q)) ?_
        have h := Option.some.inj h
        subst h
        exact gret kg_m1 (rfl : _ = gx q23.2)

/-! ZoneSharesModel.astray(I)I -/
def gm_193_55 : Nat → Int → Int → gx_S → Option (Int × gx_S)
  | 0, _, _, _ => none
  | n + 1, x2, x3, s =>
    if (-2147483648 ≤ x3 ∧ x3 ≤ 2147483647) then (
    if 8 ≤ x3 then (
      some (x2, s)) else (
      if 0 ≤ x3 ∧ x3 < 8 then (
      if 0 ≤ x3 ∧ x3 < 9 then (
      if (-2147483648 ≤ ((s.1 236 (x3).toNat) - (s.1 239 (x3).toNat)) ∧ ((s.1 236 (x3).toNat) - (s.1 239 (x3).toNat)) ≤ 2147483647) then (
      gm_193_55 n (x2 + (if 0 ≤ ((s.1 236 (x3).toNat) - (s.1 239 (x3).toNat)) then ((s.1 236 (x3).toNat) - (s.1 239 (x3).toNat)) else 0 - ((s.1 236 (x3).toNat) - (s.1 239 (x3).toNat)))) (x3 + 1) s) else none) else none) else none)) else none
theorem gf_193_55 : ∀ (n : Nat) (x2 : Int) (yx2 : Int32) (e2 : yx2 = Int32.ofInt x2) (x3 : Int) (yx3 : Int32) (e3 : yx3 = Int32.ofInt x3) (s : gx_S) (σ : fx_S) (es : σ = gx s) (q : Int × gx_S), gm_193_55 n x2 x3 s = some q → fm_193_55 n yx2 yx3 σ = some (Int32.ofInt q.1, gx q.2) := by
  intro n
  induction n with
  | zero =>
    intro x2 yx2 e2 x3 yx3 e3 s σ es q  h
    rw [gm_193_55] at h
    exact fx_no h
  | succ n ih =>
    intro x2 yx2 e2 x3 yx3 e3 s σ es q  h
    rw [gm_193_55] at h
    rw [fm_193_55]
    obtain ⟨z1, h⟩ := fx_gd h
    by_cases c2 : 8 ≤ x3
    · rw [if_pos c2] at h
      refine gb_t ((gc_le kg_8 e3 (by decide) z1).mpr c2) ?_
      have h := Option.some.inj h
      subst h
      exact gret e2 es
    · rw [if_neg c2] at h
      refine gb_f (fun q => c2 ((gc_le kg_8 e3 (by decide) z1).mp q)) ?_
      obtain ⟨z5, h⟩ := fx_gd h
      refine gb_bind (gl_ld es e3 ga_236 z5) ?_
      obtain ⟨z8, h⟩ := fx_gd h
      refine gb_bind (gl_ld es e3 ga_239 z8) ?_
      obtain ⟨z9, h⟩ := fx_gd h
      exact ih _ _ (ga_add e2 (ga_ite (gc_le kg_0 (ga_sub (gr (s.1 236 (x3).toNat)) (gr (s.1 239 (x3).toNat))) (by decide) z9) (ga_sub (gr (s.1 236 (x3).toNat)) (gr (s.1 239 (x3).toNat))) (ga_sub kg_0 (ga_sub (gr (s.1 236 (x3).toNat)) (gr (s.1 239 (x3).toNat)))))) _ _ (ga_add e3 kg_1) _ _ es _ h
def gm_193_23 : Nat → Int → Int → gx_S → Option (Int × gx_S)
  | 0, _, _, _ => none
  | n + 1, x1, x2, s =>
    if (-2147483648 ≤ x2 ∧ x2 ≤ 2147483647) then (
    if 8 ≤ x2 then (
      (gm_177 x1 s).bind fun q4 =>
      gm_193_55 100000 0 0 q4) else (
      (gm_183 x2 s).bind fun q6 =>
      if 0 ≤ x2 ∧ x2 < 9 then (
      gm_193_23 n x1 (x2 + 1) (gw1 q6.2 239 (x2).toNat q6.1)) else none)) else none
theorem gf_193_23 : ∀ (n : Nat) (x1 : Int) (yx1 : Int32) (e1 : yx1 = Int32.ofInt x1) (x2 : Int) (yx2 : Int32) (e2 : yx2 = Int32.ofInt x2) (s : gx_S) (σ : fx_S) (es : σ = gx s) (q : Int × gx_S), gm_193_23 n x1 x2 s = some q → fm_193_23 n yx1 yx2 σ = some (Int32.ofInt q.1, gx q.2) := by
  intro n
  induction n with
  | zero =>
    intro x1 yx1 e1 x2 yx2 e2 s σ es q  h
    rw [gm_193_23] at h
    exact fx_no h
  | succ n ih =>
    intro x1 yx1 e1 x2 yx2 e2 s σ es q  h
    rw [gm_193_23] at h
    rw [fm_193_23]
    obtain ⟨z1, h⟩ := fx_gd h
    by_cases c2 : 8 ≤ x2
    · rw [if_pos c2] at h
      refine gb_t ((gc_le kg_8 e2 (by decide) z1).mpr c2) ?_
      obtain ⟨q4, w3, h⟩ := fx_bd h
      refine gb_bind (gf_177 e1 es w3) ?_
      exact gf_193_55 100000 _ _ kg_0 _ _ kg_0 _ _ (rfl : _ = gx q4) _ h
    · rw [if_neg c2] at h
      refine gb_f (fun q => c2 ((gc_le kg_8 e2 (by decide) z1).mp q)) ?_
      obtain ⟨q6, w5, h⟩ := fx_bd h
      refine gb_bind (gf_183 e2 es w5) ?_
      obtain ⟨z9, h⟩ := fx_gd h
      refine gb_bind (gl_st (rfl : _ = gx q6.2) e2 (gr q6.1) ga_239 z9) ?_
      exact ih _ _ e1 _ _ (ga_add e2 kg_1) _ _ (rfl : _ = gx (gw1 q6.2 239 (x2).toNat q6.1)) _ h
def gm_193 (x1 : Int) (s : gx_S) : Option (Int × gx_S) :=
  (gm_150 s).bind fun q28 =>
  if (gb q28.1) = 0 then (
    some ((-1), q28.2)) else (
    (gm_148 x1 q28.2).bind fun q31 =>
    if ¬ (gb q31.1) = 0 then (
      (gm_191 x1 q31.2).bind fun q34 =>
      gm_193_23 100000 x1 0 q34) else (
      some ((-1), q31.2)))
theorem gf_193 {x1 : Int} {yx1 : Int32} (e1 : yx1 = Int32.ofInt x1) {s : gx_S} {σ : fx_S} (es : σ = gx s) {q : Int × gx_S} (h : gm_193 x1 s = some q) : fm_193 yx1 σ = some (Int32.ofInt q.1, gx q.2) := by
  unfold gm_193 at h
  unfold fm_193
  obtain ⟨q28, w27, h⟩ := fx_bd h
  refine gb_bind (gf_150 es w27) ?_
  by_cases c29 : (gb q28.1) = 0
  · rw [if_pos c29] at h
    refine gb_t ((gc_eq (gb_b q28.1) kg_0 (gb_r _) (by decide)).mpr c29) ?_
    have h := Option.some.inj h
    subst h
    exact gret kg_m1 (rfl : _ = gx q28.2)
  · rw [if_neg c29] at h
    refine gb_f (fun q => c29 ((gc_eq (gb_b q28.1) kg_0 (gb_r _) (by decide)).mp q)) ?_
    obtain ⟨q31, w30, h⟩ := fx_bd h
    refine gb_bind (gf_148 e1 (rfl : _ = gx q28.2) w30) ?_
    by_cases c32 : ¬ (gb q31.1) = 0
    · rw [if_pos c32] at h
      refine gb_t ((gc_ne (gb_b q31.1) kg_0 (gb_r _) (by decide)).mpr c32) ?_
      obtain ⟨q34, w33, h⟩ := fx_bd h
      refine gb_bind (gf_191 e1 (rfl : _ = gx q31.2) w33) ?_
      exact gf_193_23 100000 _ _ e1 _ _ kg_0 _ _ (rfl : _ = gx q34) _ h
    · rw [if_neg c32] at h
      refine gb_f (fun q => c32 ((gc_ne (gb_b q31.1) kg_0 (gb_r _) (by decide)).mp q)) ?_
      have h := Option.some.inj h
      subst h
      exact gret kg_m1 (rfl : _ = gx q31.2)

/-! ZoneSharesModel.fit(I)I -/
def gm_212_102 : Nat → Int → Int → Int → gx_S → Option (Int × gx_S)
  | 0, _, _, _, _ => none
  | n + 1, x1, x2, x3, s =>
    if (-2147483648 ≤ x3 ∧ x3 ≤ 2147483647) then (
    if 4 ≤ x3 then (
      some (x2, s)) else (
      if 0 ≤ x3 ∧ x3 < 4 then (
      if 0 ≤ ((32 + (4 * x1)) + x3) ∧ ((32 + (4 * x1)) + x3) < 340 then (
      gm_212_102 n x1 x2 (x3 + 1) (gw1 s 216 (((32 + (4 * x1)) + x3)).toNat (s.1 244 (x3).toNat))) else none) else none)) else none
theorem gf_212_102 : ∀ (n : Nat) (x1 : Int) (yx1 : Int32) (e1 : yx1 = Int32.ofInt x1) (x2 : Int) (yx2 : Int32) (e2 : yx2 = Int32.ofInt x2) (x3 : Int) (yx3 : Int32) (e3 : yx3 = Int32.ofInt x3) (s : gx_S) (σ : fx_S) (es : σ = gx s) (q : Int × gx_S), gm_212_102 n x1 x2 x3 s = some q → fm_212_102 n yx1 yx2 yx3 σ = some (Int32.ofInt q.1, gx q.2) := by
  intro n
  induction n with
  | zero =>
    intro x1 yx1 e1 x2 yx2 e2 x3 yx3 e3 s σ es q  h
    rw [gm_212_102] at h
    exact fx_no h
  | succ n ih =>
    intro x1 yx1 e1 x2 yx2 e2 x3 yx3 e3 s σ es q  h
    rw [gm_212_102] at h
    rw [fm_212_102]
    obtain ⟨z1, h⟩ := fx_gd h
    by_cases c2 : 4 ≤ x3
    · rw [if_pos c2] at h
      refine gb_t ((gc_le kg_4 e3 (by decide) z1).mpr c2) ?_
      have h := Option.some.inj h
      subst h
      exact gret e2 es
    · rw [if_neg c2] at h
      refine gb_f (fun q => c2 ((gc_le kg_4 e3 (by decide) z1).mp q)) ?_
      obtain ⟨z5, h⟩ := fx_gd h
      refine gb_bind (gl_ld es e3 ga_244 z5) ?_
      obtain ⟨z8, h⟩ := fx_gd h
      refine gb_bind (gl_st es (ga_add (ga_add kg_32 (ga_mul kg_4 e1)) e3) (gr (s.1 244 (x3).toNat)) ga_216 z8) ?_
      exact ih _ _ e1 _ _ e2 _ _ (ga_add e3 kg_1) _ _ (rfl : _ = gx (gw1 s 216 (((32 + (4 * x1)) + x3)).toNat (s.1 244 (x3).toNat))) _ h
def gm_212_78 (k_45 : Int → Int → Int → gx_S → Option (Int × gx_S)) (x1 : Int) (x3 : Int) (s0 : Int) (s1 : Int) (s : gx_S) : Option (Int × gx_S) :=
  (gm_131 s1 s).bind fun q2 =>
  k_45 x1 (s0 + q2.1) (x3 + 1) q2.2
theorem gf_212_78 {kf_45 : Int32 → Int32 → Int32 → fx_S → Option (Int32 × fx_S)} {kg_45 : Int → Int → Int → gx_S → Option (Int × gx_S)} (hk_45 : ∀ (x1 : Int) (yx1 : Int32) (e1 : yx1 = Int32.ofInt x1) (x2 : Int) (yx2 : Int32) (e2 : yx2 = Int32.ofInt x2) (x3 : Int) (yx3 : Int32) (e3 : yx3 = Int32.ofInt x3) (s : gx_S) (σ : fx_S) (es : σ = gx s) (q : Int × gx_S), kg_45 x1 x2 x3 s = some q → kf_45 yx1 yx2 yx3 σ = some (Int32.ofInt q.1, gx q.2)) (x1 : Int) (yx1 : Int32) (e1 : yx1 = Int32.ofInt x1) (x3 : Int) (yx3 : Int32) (e3 : yx3 = Int32.ofInt x3) (s0 : Int) (ys0 : Int32) (es0 : ys0 = Int32.ofInt s0) (s1 : Int) (ys1 : Int32) (es1 : ys1 = Int32.ofInt s1) (s : gx_S) (σ : fx_S) (es : σ = gx s) (q : Int × gx_S) (h : gm_212_78 kg_45 x1 x3 s0 s1 s = some q) : fm_212_78 kf_45 yx1 yx3 ys0 ys1 σ = some (Int32.ofInt q.1, gx q.2) := by
  unfold gm_212_78 at h
  unfold fm_212_78
  obtain ⟨q2, w1, h⟩ := fx_bd h
  refine gb_bind (gf_131 es1 es w1) ?_
  exact hk_45 _ _ e1 _ _ (ga_add es0 (gr q2.1)) _ _ (ga_add e3 kg_1) _ _ (rfl : _ = gx q2.2) _ h
def gm_212_45 : Nat → Int → Int → Int → gx_S → Option (Int × gx_S)
  | 0, _, _, _, _ => none
  | n + 1, x1, x2, x3, s =>
    if (-2147483648 ≤ x3 ∧ x3 ≤ 2147483647) then (
    if 4 ≤ x3 then (
      if (-2147483648 ≤ x2 ∧ x2 ≤ 2147483647) then (
      if ¬ x2 = 0 then (
        (gm_132 s).bind fun q6 =>
        gm_212_102 100000 x1 x2 0 q6) else (
        some ((-2), s))) else none) else (
      if 0 ≤ x3 ∧ x3 < 4 then (
      if 0 ≤ ((32 + (4 * x1)) + x3) ∧ ((32 + (4 * x1)) + x3) < 340 then (
      if (-2147483648 ≤ (s.1 244 (x3).toNat) ∧ (s.1 244 (x3).toNat) ≤ 2147483647) then (
      if (-2147483648 ≤ (s.1 216 (((32 + (4 * x1)) + x3)).toNat) ∧ (s.1 216 (((32 + (4 * x1)) + x3)).toNat) ≤ 2147483647) then (
      if (s.1 244 (x3).toNat) = (s.1 216 (((32 + (4 * x1)) + x3)).toNat) then (
        gm_212_78 (gm_212_45 n) x1 x3 x2 0 s) else (
        gm_212_78 (gm_212_45 n) x1 x3 x2 1 s)) else none) else none) else none) else none)) else none
theorem gf_212_45 : ∀ (n : Nat) (x1 : Int) (yx1 : Int32) (e1 : yx1 = Int32.ofInt x1) (x2 : Int) (yx2 : Int32) (e2 : yx2 = Int32.ofInt x2) (x3 : Int) (yx3 : Int32) (e3 : yx3 = Int32.ofInt x3) (s : gx_S) (σ : fx_S) (es : σ = gx s) (q : Int × gx_S), gm_212_45 n x1 x2 x3 s = some q → fm_212_45 n yx1 yx2 yx3 σ = some (Int32.ofInt q.1, gx q.2) := by
  intro n
  induction n with
  | zero =>
    intro x1 yx1 e1 x2 yx2 e2 x3 yx3 e3 s σ es q  h
    rw [gm_212_45] at h
    exact fx_no h
  | succ n ih =>
    intro x1 yx1 e1 x2 yx2 e2 x3 yx3 e3 s σ es q  h
    rw [gm_212_45] at h
    rw [fm_212_45]
    obtain ⟨z1, h⟩ := fx_gd h
    by_cases c2 : 4 ≤ x3
    · rw [if_pos c2] at h
      refine gb_t ((gc_le kg_4 e3 (by decide) z1).mpr c2) ?_
      obtain ⟨z3, h⟩ := fx_gd h
      by_cases c4 : ¬ x2 = 0
      · rw [if_pos c4] at h
        refine gb_t ((gc_ne e2 kg_0 z3 (by decide)).mpr c4) ?_
        obtain ⟨q6, w5, h⟩ := fx_bd h
        refine gb_bind (gf_132 es w5) ?_
        exact gf_212_102 100000 _ _ e1 _ _ e2 _ _ kg_0 _ _ (rfl : _ = gx q6) _ h
      · rw [if_neg c4] at h
        refine gb_f (fun q => c4 ((gc_ne e2 kg_0 z3 (by decide)).mp q)) ?_
        have h := Option.some.inj h
        subst h
        exact gret kg_m2 es
    · rw [if_neg c2] at h
      refine gb_f (fun q => c2 ((gc_le kg_4 e3 (by decide) z1).mp q)) ?_
      obtain ⟨z9, h⟩ := fx_gd h
      refine gb_bind (gl_ld es e3 ga_244 z9) ?_
      obtain ⟨z12, h⟩ := fx_gd h
      refine gb_bind (gl_ld es (ga_add (ga_add kg_32 (ga_mul kg_4 e1)) e3) ga_216 z12) ?_
      obtain ⟨z13, h⟩ := fx_gd h
      obtain ⟨z14, h⟩ := fx_gd h
      by_cases c15 : (s.1 244 (x3).toNat) = (s.1 216 (((32 + (4 * x1)) + x3)).toNat)
      · rw [if_pos c15] at h
        refine gb_t ((gc_eq (gr (s.1 244 (x3).toNat)) (gr (s.1 216 (((32 + (4 * x1)) + x3)).toNat)) z13 z14).mpr c15) ?_
        exact gf_212_78 ih _ _ e1 _ _ e3 _ _ e2 _ _ kg_0 _ _ es _ h
      · rw [if_neg c15] at h
        refine gb_f (fun q => c15 ((gc_eq (gr (s.1 244 (x3).toNat)) (gr (s.1 216 (((32 + (4 * x1)) + x3)).toNat)) z13 z14).mp q)) ?_
        exact gf_212_78 ih _ _ e1 _ _ e3 _ _ e2 _ _ kg_1 _ _ es _ h
def gm_212 (x1 : Int) (s : gx_S) : Option (Int × gx_S) :=
  (gm_150 s).bind fun q39 =>
  if (gb q39.1) = 0 then (
    some ((-1), q39.2)) else (
    (gm_148 x1 q39.2).bind fun q42 =>
    if ¬ (gb q42.1) = 0 then (
      (gm_205 x1 q42.2).bind fun q45 =>
      if (-2147483648 ≤ (q45.1 215 42) ∧ (q45.1 215 42) ≤ 2147483647) then (
      if ¬ (q45.1 215 42) = 0 then (
        (gm_211 x1 0 (gw1 q45 215 43 0)).bind fun q49 =>
        gm_212_45 100000 x1 0 0 q49) else (
        some ((-1), q45))) else none) else (
      some ((-1), q42.2)))
theorem gf_212 {x1 : Int} {yx1 : Int32} (e1 : yx1 = Int32.ofInt x1) {s : gx_S} {σ : fx_S} (es : σ = gx s) {q : Int × gx_S} (h : gm_212 x1 s = some q) : fm_212 yx1 σ = some (Int32.ofInt q.1, gx q.2) := by
  unfold gm_212 at h
  unfold fm_212
  obtain ⟨q39, w38, h⟩ := fx_bd h
  refine gb_bind (gf_150 es w38) ?_
  by_cases c40 : (gb q39.1) = 0
  · rw [if_pos c40] at h
    refine gb_t ((gc_eq (gb_b q39.1) kg_0 (gb_r _) (by decide)).mpr c40) ?_
    have h := Option.some.inj h
    subst h
    exact gret kg_m1 (rfl : _ = gx q39.2)
  · rw [if_neg c40] at h
    refine gb_f (fun q => c40 ((gc_eq (gb_b q39.1) kg_0 (gb_r _) (by decide)).mp q)) ?_
    obtain ⟨q42, w41, h⟩ := fx_bd h
    refine gb_bind (gf_148 e1 (rfl : _ = gx q39.2) w41) ?_
    by_cases c43 : ¬ (gb q42.1) = 0
    · rw [if_pos c43] at h
      refine gb_t ((gc_ne (gb_b q42.1) kg_0 (gb_r _) (by decide)).mpr c43) ?_
      obtain ⟨q45, w44, h⟩ := fx_bd h
      refine gb_bind (gf_205 e1 (rfl : _ = gx q42.2) w44) ?_
      obtain ⟨z46, h⟩ := fx_gd h
      by_cases c47 : ¬ (q45.1 215 42) = 0
      · rw [if_pos c47] at h
        refine gb_t ((gc_ne (gf1 (rfl : _ = gx q45) 215 42) kg_0 z46 (by decide)).mpr c47) ?_
        obtain ⟨q49, w48, h⟩ := fx_bd h
        refine gb_bind (gf_211 e1 kg_0 (gx_w1 (rfl : _ = gx q45) kg_0) w48) ?_
        exact gf_212_45 100000 _ _ e1 _ _ kg_0 _ _ kg_0 _ _ (rfl : _ = gx q49) _ h
      · rw [if_neg c47] at h
        refine gb_f (fun q => c47 ((gc_ne (gf1 (rfl : _ = gx q45) 215 42) kg_0 z46 (by decide)).mp q)) ?_
        have h := Option.some.inj h
        subst h
        exact gret kg_m1 (rfl : _ = gx q45)
    · rw [if_neg c43] at h
      refine gb_f (fun q => c43 ((gc_ne (gb_b q42.1) kg_0 (gb_r _) (by decide)).mp q)) ?_
      have h := Option.some.inj h
      subst h
      exact gret kg_m1 (rfl : _ = gx q42.2)

/-! ZoneSharesModel.adopt()I -/
def gm_217_135 : Nat → Int → Int → gx_S → Option (Int × gx_S)
  | 0, _, _, _ => none
  | n + 1, x1, x2, s =>
    if (-2147483648 ≤ x2 ∧ x2 ≤ 2147483647) then (
    if 96 ≤ x2 then (
      some (x1, s)) else (
      if 0 ≤ (148 + x2) ∧ (148 + x2) < 340 then (
      if 0 ≤ (52 + x2) ∧ (52 + x2) < 340 then (
      gm_217_135 n x1 (x2 + 1) (gw1 s 216 ((52 + x2)).toNat (s.1 216 ((148 + x2)).toNat))) else none) else none)) else none
theorem gf_217_135 : ∀ (n : Nat) (x1 : Int) (yx1 : Int32) (e1 : yx1 = Int32.ofInt x1) (x2 : Int) (yx2 : Int32) (e2 : yx2 = Int32.ofInt x2) (s : gx_S) (σ : fx_S) (es : σ = gx s) (q : Int × gx_S), gm_217_135 n x1 x2 s = some q → fm_217_135 n yx1 yx2 σ = some (Int32.ofInt q.1, gx q.2) := by
  intro n
  induction n with
  | zero =>
    intro x1 yx1 e1 x2 yx2 e2 s σ es q  h
    rw [gm_217_135] at h
    exact fx_no h
  | succ n ih =>
    intro x1 yx1 e1 x2 yx2 e2 s σ es q  h
    rw [gm_217_135] at h
    rw [fm_217_135]
    obtain ⟨z1, h⟩ := fx_gd h
    by_cases c2 : 96 ≤ x2
    · rw [if_pos c2] at h
      refine gb_t ((gc_le kg_96 e2 (by decide) z1).mpr c2) ?_
      have h := Option.some.inj h
      subst h
      exact gret e1 es
    · rw [if_neg c2] at h
      refine gb_f (fun q => c2 ((gc_le kg_96 e2 (by decide) z1).mp q)) ?_
      obtain ⟨z5, h⟩ := fx_gd h
      refine gb_bind (gl_ld es (ga_add kg_148 e2) ga_216 z5) ?_
      obtain ⟨z8, h⟩ := fx_gd h
      refine gb_bind (gl_st es (ga_add kg_52 e2) (gr (s.1 216 ((148 + x2)).toNat)) ga_216 z8) ?_
      exact ih _ _ e1 _ _ (ga_add e2 kg_1) _ _ (rfl : _ = gx (gw1 s 216 ((52 + x2)).toNat (s.1 216 ((148 + x2)).toNat))) _ h
def gm_217_107 : Nat → Int → Int → gx_S → Option (Int × gx_S)
  | 0, _, _, _ => none
  | n + 1, x1, x2, s =>
    if (-2147483648 ≤ x2 ∧ x2 ≤ 2147483647) then (
    if 27 ≤ x2 then (
      gm_217_135 100000 x1 0 s) else (
      if 0 ≤ x2 ∧ x2 < 27 then (
      if 0 ≤ (5 + x2) ∧ (5 + x2) < 340 then (
      gm_217_107 n x1 (x2 + 1) (gw1 s 216 ((5 + x2)).toNat (s.1 245 (x2).toNat))) else none) else none)) else none
theorem gf_217_107 : ∀ (n : Nat) (x1 : Int) (yx1 : Int32) (e1 : yx1 = Int32.ofInt x1) (x2 : Int) (yx2 : Int32) (e2 : yx2 = Int32.ofInt x2) (s : gx_S) (σ : fx_S) (es : σ = gx s) (q : Int × gx_S), gm_217_107 n x1 x2 s = some q → fm_217_107 n yx1 yx2 σ = some (Int32.ofInt q.1, gx q.2) := by
  intro n
  induction n with
  | zero =>
    intro x1 yx1 e1 x2 yx2 e2 s σ es q  h
    rw [gm_217_107] at h
    exact fx_no h
  | succ n ih =>
    intro x1 yx1 e1 x2 yx2 e2 s σ es q  h
    rw [gm_217_107] at h
    rw [fm_217_107]
    obtain ⟨z1, h⟩ := fx_gd h
    by_cases c2 : 27 ≤ x2
    · rw [if_pos c2] at h
      refine gb_t ((gc_le kg_27 e2 (by decide) z1).mpr c2) ?_
      exact gf_217_135 100000 _ _ e1 _ _ kg_0 _ _ es _ h
    · rw [if_neg c2] at h
      refine gb_f (fun q => c2 ((gc_le kg_27 e2 (by decide) z1).mp q)) ?_
      obtain ⟨z5, h⟩ := fx_gd h
      refine gb_bind (gl_ld es e2 ga_245 z5) ?_
      obtain ⟨z8, h⟩ := fx_gd h
      refine gb_bind (gl_st es (ga_add kg_5 e2) (gr (s.1 245 (x2).toNat)) ga_216 z8) ?_
      exact ih _ _ e1 _ _ (ga_add e2 kg_1) _ _ (rfl : _ = gx (gw1 s 216 ((5 + x2)).toNat (s.1 245 (x2).toNat))) _ h
def gm_217_67 (k_29 : Int → Int → Int → gx_S → Option (Int × gx_S)) (x2 : Int) (x3 : Int) (s0 : Int) (s1 : Int) (s : gx_S) : Option (Int × gx_S) :=
  k_29 (s0 + s1) x2 (x3 + 1) s
theorem gf_217_67 {kf_29 : Int32 → Int32 → Int32 → fx_S → Option (Int32 × fx_S)} {kg_29 : Int → Int → Int → gx_S → Option (Int × gx_S)} (hk_29 : ∀ (x1 : Int) (yx1 : Int32) (e1 : yx1 = Int32.ofInt x1) (x2 : Int) (yx2 : Int32) (e2 : yx2 = Int32.ofInt x2) (x3 : Int) (yx3 : Int32) (e3 : yx3 = Int32.ofInt x3) (s : gx_S) (σ : fx_S) (es : σ = gx s) (q : Int × gx_S), kg_29 x1 x2 x3 s = some q → kf_29 yx1 yx2 yx3 σ = some (Int32.ofInt q.1, gx q.2)) (x2 : Int) (yx2 : Int32) (e2 : yx2 = Int32.ofInt x2) (x3 : Int) (yx3 : Int32) (e3 : yx3 = Int32.ofInt x3) (s0 : Int) (ys0 : Int32) (es0 : ys0 = Int32.ofInt s0) (s1 : Int) (ys1 : Int32) (es1 : ys1 = Int32.ofInt s1) (s : gx_S) (σ : fx_S) (es : σ = gx s) (q : Int × gx_S) (h : gm_217_67 kg_29 x2 x3 s0 s1 s = some q) : fm_217_67 kf_29 yx2 yx3 ys0 ys1 σ = some (Int32.ofInt q.1, gx q.2) := by
  unfold gm_217_67 at h
  unfold fm_217_67
  exact hk_29 _ _ (ga_add es0 es1) _ _ e2 _ _ (ga_add e3 kg_1) _ _ es _ h
def gm_217_29 (k_13 : Int → Int → gx_S → Option (Int × gx_S)) : Nat → Int → Int → Int → gx_S → Option (Int × gx_S)
  | 0, _, _, _, _ => none
  | n + 1, x1, x2, x3, s =>
    if (-2147483648 ≤ x3 ∧ x3 ≤ 2147483647) then (
    if 9 ≤ x3 then (
      if 0 ≤ ((9 * x2) + 8) ∧ ((9 * x2) + 8) < 27 then (
      (gm_176 x2 s).bind fun q7 =>
      k_13 x1 (x2 + 1) (gw1 q7.2 245 (((9 * x2) + 8)).toNat ((s.1 245 (((9 * x2) + 8)).toNat) + q7.1))) else none) else (
      (gm_183 x3 s).bind fun q11 =>
      if 0 ≤ ((9 * x2) + x3) ∧ ((9 * x2) + x3) < 27 then (
      if 8 ≤ x3 then (
        gm_217_67 (gm_217_29 k_13 n) x2 x3 x1 0 (gw1 q11.2 245 (((9 * x2) + x3)).toNat q11.1)) else (
        (gm_183 x3 (gw1 q11.2 245 (((9 * x2) + x3)).toNat q11.1)).bind fun q17 =>
        gm_217_67 (gm_217_29 k_13 n) x2 x3 x1 q17.1 q17.2)) else none)) else none
theorem gf_217_29 {kf_13 : Int32 → Int32 → fx_S → Option (Int32 × fx_S)} {kg_13 : Int → Int → gx_S → Option (Int × gx_S)} (hk_13 : ∀ (x1 : Int) (yx1 : Int32) (e1 : yx1 = Int32.ofInt x1) (x2 : Int) (yx2 : Int32) (e2 : yx2 = Int32.ofInt x2) (s : gx_S) (σ : fx_S) (es : σ = gx s) (q : Int × gx_S), kg_13 x1 x2 s = some q → kf_13 yx1 yx2 σ = some (Int32.ofInt q.1, gx q.2)) : ∀ (n : Nat) (x1 : Int) (yx1 : Int32) (e1 : yx1 = Int32.ofInt x1) (x2 : Int) (yx2 : Int32) (e2 : yx2 = Int32.ofInt x2) (x3 : Int) (yx3 : Int32) (e3 : yx3 = Int32.ofInt x3) (s : gx_S) (σ : fx_S) (es : σ = gx s) (q : Int × gx_S), gm_217_29 kg_13 n x1 x2 x3 s = some q → fm_217_29 kf_13 n yx1 yx2 yx3 σ = some (Int32.ofInt q.1, gx q.2) := by
  intro n
  induction n with
  | zero =>
    intro x1 yx1 e1 x2 yx2 e2 x3 yx3 e3 s σ es q  h
    rw [gm_217_29] at h
    exact fx_no h
  | succ n ih =>
    intro x1 yx1 e1 x2 yx2 e2 x3 yx3 e3 s σ es q  h
    rw [gm_217_29] at h
    rw [fm_217_29]
    obtain ⟨z1, h⟩ := fx_gd h
    by_cases c2 : 9 ≤ x3
    · rw [if_pos c2] at h
      refine gb_t ((gc_le kg_9 e3 (by decide) z1).mpr c2) ?_
      obtain ⟨z5, h⟩ := fx_gd h
      refine gb_bind (gl_ld es (ga_add (ga_mul kg_9 e2) kg_8) ga_245 z5) ?_
      obtain ⟨q7, w6, h⟩ := fx_bd h
      refine gb_bind (gf_176 e2 es w6) ?_
      refine gb_bind (gl_st (rfl : _ = gx q7.2) (ga_add (ga_mul kg_9 e2) kg_8) (ga_add (gr (s.1 245 (((9 * x2) + 8)).toNat)) (gr q7.1)) ga_245 z5) ?_
      exact hk_13 _ _ e1 _ _ (ga_add e2 kg_1) _ _ (rfl : _ = gx (gw1 q7.2 245 (((9 * x2) + 8)).toNat ((s.1 245 (((9 * x2) + 8)).toNat) + q7.1))) _ h
    · rw [if_neg c2] at h
      refine gb_f (fun q => c2 ((gc_le kg_9 e3 (by decide) z1).mp q)) ?_
      obtain ⟨q11, w10, h⟩ := fx_bd h
      refine gb_bind (gf_183 e3 es w10) ?_
      obtain ⟨z14, h⟩ := fx_gd h
      refine gb_bind (gl_st (rfl : _ = gx q11.2) (ga_add (ga_mul kg_9 e2) e3) (gr q11.1) ga_245 z14) ?_
      by_cases c15 : 8 ≤ x3
      · rw [if_pos c15] at h
        refine gb_t ((gc_le kg_8 e3 (by decide) z1).mpr c15) ?_
        exact gf_217_67 ih _ _ e2 _ _ e3 _ _ e1 _ _ kg_0 _ _ (rfl : _ = gx (gw1 q11.2 245 (((9 * x2) + x3)).toNat q11.1)) _ h
      · rw [if_neg c15] at h
        refine gb_f (fun q => c15 ((gc_le kg_8 e3 (by decide) z1).mp q)) ?_
        obtain ⟨q17, w16, h⟩ := fx_bd h
        refine gb_bind (gf_183 e3 (rfl : _ = gx (gw1 q11.2 245 (((9 * x2) + x3)).toNat q11.1)) w16) ?_
        exact gf_217_67 ih _ _ e2 _ _ e3 _ _ e1 _ _ (gr q17.1) _ _ (rfl : _ = gx q17.2) _ h
def gm_217_13 : Nat → Int → Int → gx_S → Option (Int × gx_S)
  | 0, _, _, _ => none
  | n + 1, x1, x2, s =>
    if (-2147483648 ≤ x2 ∧ x2 ≤ 2147483647) then (
    if 3 ≤ x2 then (
      (gm_132 s).bind fun q4 =>
      gm_217_107 100000 x1 0 q4) else (
      (gm_181 x2 s).bind fun q6 =>
      (gm_173 q6).bind fun q8 =>
      gm_217_29 (gm_217_13 n) 100000 x1 x2 0 q8)) else none
theorem gf_217_13 : ∀ (n : Nat) (x1 : Int) (yx1 : Int32) (e1 : yx1 = Int32.ofInt x1) (x2 : Int) (yx2 : Int32) (e2 : yx2 = Int32.ofInt x2) (s : gx_S) (σ : fx_S) (es : σ = gx s) (q : Int × gx_S), gm_217_13 n x1 x2 s = some q → fm_217_13 n yx1 yx2 σ = some (Int32.ofInt q.1, gx q.2) := by
  intro n
  induction n with
  | zero =>
    intro x1 yx1 e1 x2 yx2 e2 s σ es q  h
    rw [gm_217_13] at h
    exact fx_no h
  | succ n ih =>
    intro x1 yx1 e1 x2 yx2 e2 s σ es q  h
    rw [gm_217_13] at h
    rw [fm_217_13]
    obtain ⟨z1, h⟩ := fx_gd h
    by_cases c2 : 3 ≤ x2
    · rw [if_pos c2] at h
      refine gb_t ((gc_le kg_3 e2 (by decide) z1).mpr c2) ?_
      obtain ⟨q4, w3, h⟩ := fx_bd h
      refine gb_bind (gf_132 es w3) ?_
      exact gf_217_107 100000 _ _ e1 _ _ kg_0 _ _ (rfl : _ = gx q4) _ h
    · rw [if_neg c2] at h
      refine gb_f (fun q => c2 ((gc_le kg_3 e2 (by decide) z1).mp q)) ?_
      obtain ⟨q6, w5, h⟩ := fx_bd h
      refine gb_bind (gf_181 e2 es w5) ?_
      obtain ⟨q8, w7, h⟩ := fx_bd h
      refine gb_bind (gf_173 (rfl : _ = gx q6) w7) ?_
      exact gf_217_29 ih 100000 _ _ e1 _ _ e2 _ _ kg_0 _ _ (rfl : _ = gx q8) _ h
def gm_217 (s : gx_S) : Option (Int × gx_S) :=
  (gm_150 s).bind fun q62 =>
  if ¬ (gb q62.1) = 0 then (
    gm_217_13 100000 0 0 q62.2) else (
    some ((-1), q62.2))
theorem gf_217 {s : gx_S} {σ : fx_S} (es : σ = gx s) {q : Int × gx_S} (h : gm_217 s = some q) : fm_217 σ = some (Int32.ofInt q.1, gx q.2) := by
  unfold gm_217 at h
  unfold fm_217
  obtain ⟨q62, w61, h⟩ := fx_bd h
  refine gb_bind (gf_150 es w61) ?_
  by_cases c63 : ¬ (gb q62.1) = 0
  · rw [if_pos c63] at h
    refine gb_t ((gc_ne (gb_b q62.1) kg_0 (gb_r _) (by decide)).mpr c63) ?_
    exact gf_217_13 100000 _ _ kg_0 _ _ kg_0 _ _ (rfl : _ = gx q62.2) _ h
  · rw [if_neg c63] at h
    refine gb_f (fun q => c63 ((gc_ne (gb_b q62.1) kg_0 (gb_r _) (by decide)).mp q)) ?_
    have h := Option.some.inj h
    subst h
    exact gret kg_m1 (rfl : _ = gx q62.2)

/-! ZoneSharesModel.movedAll()I -/
def gm_224_38 (x1 : Int) (s : gx_S) : Option (Int × gx_S) :=
  some (x1, s)
theorem gf_224_38 (x1 : Int) (yx1 : Int32) (e1 : yx1 = Int32.ofInt x1) (s : gx_S) (σ : fx_S) (es : σ = gx s) (q : Int × gx_S) (h : gm_224_38 x1 s = some q) : fm_224_38 yx1 σ = some (Int32.ofInt q.1, gx q.2) := by
  unfold gm_224_38 at h
  unfold fm_224_38
  have h := Option.some.inj h
  subst h
  exact gret e1 es
def gm_224_4 : Nat → Int → Int → gx_S → Option (Int × gx_S)
  | 0, _, _, _ => none
  | n + 1, x1, x2, s =>
    if (-2147483648 ≤ x2 ∧ x2 ≤ 2147483647) then (
    if 3 ≤ x2 then (
      gm_224_38 x1 s) else (
      (gm_150 s).bind fun q4 =>
      if (gb q4.1) = 0 then (
        gm_224_38 x1 q4.2) else (
        (gm_181 x2 q4.2).bind fun q7 =>
        (gm_173 q7).bind fun q9 =>
        (gm_184 q9).bind fun q11 =>
        gm_224_4 n (x1 + q11.1) (x2 + 1) q11.2))) else none
theorem gf_224_4 : ∀ (n : Nat) (x1 : Int) (yx1 : Int32) (e1 : yx1 = Int32.ofInt x1) (x2 : Int) (yx2 : Int32) (e2 : yx2 = Int32.ofInt x2) (s : gx_S) (σ : fx_S) (es : σ = gx s) (q : Int × gx_S), gm_224_4 n x1 x2 s = some q → fm_224_4 n yx1 yx2 σ = some (Int32.ofInt q.1, gx q.2) := by
  intro n
  induction n with
  | zero =>
    intro x1 yx1 e1 x2 yx2 e2 s σ es q  h
    rw [gm_224_4] at h
    exact fx_no h
  | succ n ih =>
    intro x1 yx1 e1 x2 yx2 e2 s σ es q  h
    rw [gm_224_4] at h
    rw [fm_224_4]
    obtain ⟨z1, h⟩ := fx_gd h
    by_cases c2 : 3 ≤ x2
    · rw [if_pos c2] at h
      refine gb_t ((gc_le kg_3 e2 (by decide) z1).mpr c2) ?_
      exact gf_224_38 _ _ e1 _ _ es _ h
    · rw [if_neg c2] at h
      refine gb_f (fun q => c2 ((gc_le kg_3 e2 (by decide) z1).mp q)) ?_
      obtain ⟨q4, w3, h⟩ := fx_bd h
      refine gb_bind (gf_150 es w3) ?_
      by_cases c5 : (gb q4.1) = 0
      · rw [if_pos c5] at h
        refine gb_t ((gc_eq (gb_b q4.1) kg_0 (gb_r _) (by decide)).mpr c5) ?_
        exact gf_224_38 _ _ e1 _ _ (rfl : _ = gx q4.2) _ h
      · rw [if_neg c5] at h
        refine gb_f (fun q => c5 ((gc_eq (gb_b q4.1) kg_0 (gb_r _) (by decide)).mp q)) ?_
        obtain ⟨q7, w6, h⟩ := fx_bd h
        refine gb_bind (gf_181 e2 (rfl : _ = gx q4.2) w6) ?_
        obtain ⟨q9, w8, h⟩ := fx_bd h
        refine gb_bind (gf_173 (rfl : _ = gx q7) w8) ?_
        obtain ⟨q11, w10, h⟩ := fx_bd h
        refine gb_bind (gf_184 (rfl : _ = gx q9) w10) ?_
        exact ih _ _ (ga_add e1 (gr q11.1)) _ _ (ga_add e2 kg_1) _ _ (rfl : _ = gx q11.2) _ h
def gm_224 (s : gx_S) : Option (Int × gx_S) :=
  gm_224_4 100000 0 0 s
theorem gf_224 {s : gx_S} {σ : fx_S} (es : σ = gx s) {q : Int × gx_S} (h : gm_224 s = some q) : fm_224 σ = some (Int32.ofInt q.1, gx q.2) := by
  unfold gm_224 at h
  unfold fm_224
  exact gf_224_4 100000 _ _ kg_0 _ _ kg_0 _ _ es _ h
end
section
/-! ZoneSharesModel.count(I)I -/
def gm_226 (x1 : Int) (s : gx_S) : Option (Int × gx_S) :=
  if (-2147483648 ≤ x1 ∧ x1 ≤ 2147483647) then (
  if x1 = 0 then (
    (gm_151 s).bind fun q66 =>
    some (q66.1, q66.2)) else (
    if x1 = 1 then (
      some ((s.1 216 0), s)) else (
      if x1 = 2 then (
        (gm_154 0 8 s).bind fun q62 =>
        some (q62.1, q62.2)) else (
        if x1 = 3 then (
          (gm_154 1 8 s).bind fun q60 =>
          some (q60.1, q60.2)) else (
          if x1 = 4 then (
            (gm_154 2 4 s).bind fun q58 =>
            some (q58.1, q58.2)) else (
            if x1 = 5 then (
              some ((s.1 216 3), s)) else (
              if x1 = 6 then (
                some ((s.1 216 4), s)) else (
                if x1 = 7 then (
                  some ((s.1 216 2), s)) else (
                  if x1 = 8 then (
                    some ((s.1 215 2), s)) else (
                    if x1 = 9 then (
                      some ((s.1 215 4), s)) else (
                      if x1 = 10 then (
                        (gm_224 s).bind fun q50 =>
                        some (q50.1, q50.2)) else (
                        if x1 = 11 then (
                          (gm_225 s).bind fun q48 =>
                          some (q48.1, q48.2)) else (
                          some ((-1), s)))))))))))))) else none
theorem gf_226 {x1 : Int} {yx1 : Int32} (e1 : yx1 = Int32.ofInt x1) {s : gx_S} {σ : fx_S} (es : σ = gx s) {q : Int × gx_S} (h : gm_226 x1 s = some q) : fm_226 yx1 σ = some (Int32.ofInt q.1, gx q.2) := by
  unfold gm_226 at h
  unfold fm_226
  obtain ⟨z46, h⟩ := fx_gd h
  by_cases c34 : x1 = 0
  · rw [if_pos c34] at h
    refine gb_t ((gc_eq e1 kg_0 z46 (by decide)).mpr c34) ?_
    obtain ⟨q66, w65, h⟩ := fx_bd h
    refine gb_bind (gf_151 es w65) ?_
    have h := Option.some.inj h
    subst h
    exact gret (gr q66.1) (rfl : _ = gx q66.2)
  · rw [if_neg c34] at h
    refine gb_f (fun q => c34 ((gc_eq e1 kg_0 z46 (by decide)).mp q)) ?_
    by_cases c35 : x1 = 1
    · rw [if_pos c35] at h
      refine gb_t ((gc_eq e1 kg_1 z46 (by decide)).mpr c35) ?_
      refine gb_bind (gl_ld es kg_0 ga_216 (by decide)) ?_
      have h := Option.some.inj h
      subst h
      exact gret (gr (s.1 216 0)) es
    · rw [if_neg c35] at h
      refine gb_f (fun q => c35 ((gc_eq e1 kg_1 z46 (by decide)).mp q)) ?_
      by_cases c36 : x1 = 2
      · rw [if_pos c36] at h
        refine gb_t ((gc_eq e1 kg_2 z46 (by decide)).mpr c36) ?_
        obtain ⟨q62, w61, h⟩ := fx_bd h
        refine gb_bind (gf_154 kg_0 kg_8 es w61) ?_
        have h := Option.some.inj h
        subst h
        exact gret (gr q62.1) (rfl : _ = gx q62.2)
      · rw [if_neg c36] at h
        refine gb_f (fun q => c36 ((gc_eq e1 kg_2 z46 (by decide)).mp q)) ?_
        by_cases c37 : x1 = 3
        · rw [if_pos c37] at h
          refine gb_t ((gc_eq e1 kg_3 z46 (by decide)).mpr c37) ?_
          obtain ⟨q60, w59, h⟩ := fx_bd h
          refine gb_bind (gf_154 kg_1 kg_8 es w59) ?_
          have h := Option.some.inj h
          subst h
          exact gret (gr q60.1) (rfl : _ = gx q60.2)
        · rw [if_neg c37] at h
          refine gb_f (fun q => c37 ((gc_eq e1 kg_3 z46 (by decide)).mp q)) ?_
          by_cases c38 : x1 = 4
          · rw [if_pos c38] at h
            refine gb_t ((gc_eq e1 kg_4 z46 (by decide)).mpr c38) ?_
            obtain ⟨q58, w57, h⟩ := fx_bd h
            refine gb_bind (gf_154 kg_2 kg_4 es w57) ?_
            have h := Option.some.inj h
            subst h
            exact gret (gr q58.1) (rfl : _ = gx q58.2)
          · rw [if_neg c38] at h
            refine gb_f (fun q => c38 ((gc_eq e1 kg_4 z46 (by decide)).mp q)) ?_
            by_cases c39 : x1 = 5
            · rw [if_pos c39] at h
              refine gb_t ((gc_eq e1 kg_5 z46 (by decide)).mpr c39) ?_
              refine gb_bind (gl_ld es kg_3 ga_216 (by decide)) ?_
              have h := Option.some.inj h
              subst h
              exact gret (gr (s.1 216 3)) es
            · rw [if_neg c39] at h
              refine gb_f (fun q => c39 ((gc_eq e1 kg_5 z46 (by decide)).mp q)) ?_
              by_cases c40 : x1 = 6
              · rw [if_pos c40] at h
                refine gb_t ((gc_eq e1 kg_6 z46 (by decide)).mpr c40) ?_
                refine gb_bind (gl_ld es kg_4 ga_216 (by decide)) ?_
                have h := Option.some.inj h
                subst h
                exact gret (gr (s.1 216 4)) es
              · rw [if_neg c40] at h
                refine gb_f (fun q => c40 ((gc_eq e1 kg_6 z46 (by decide)).mp q)) ?_
                by_cases c41 : x1 = 7
                · rw [if_pos c41] at h
                  refine gb_t ((gc_eq e1 kg_7 z46 (by decide)).mpr c41) ?_
                  refine gb_bind (gl_ld es kg_2 ga_216 (by decide)) ?_
                  have h := Option.some.inj h
                  subst h
                  exact gret (gr (s.1 216 2)) es
                · rw [if_neg c41] at h
                  refine gb_f (fun q => c41 ((gc_eq e1 kg_7 z46 (by decide)).mp q)) ?_
                  by_cases c42 : x1 = 8
                  · rw [if_pos c42] at h
                    refine gb_t ((gc_eq e1 kg_8 z46 (by decide)).mpr c42) ?_
                    have h := Option.some.inj h
                    subst h
                    exact gret (gf1 es 215 2) es
                  · rw [if_neg c42] at h
                    refine gb_f (fun q => c42 ((gc_eq e1 kg_8 z46 (by decide)).mp q)) ?_
                    by_cases c43 : x1 = 9
                    · rw [if_pos c43] at h
                      refine gb_t ((gc_eq e1 kg_9 z46 (by decide)).mpr c43) ?_
                      have h := Option.some.inj h
                      subst h
                      exact gret (gf1 es 215 4) es
                    · rw [if_neg c43] at h
                      refine gb_f (fun q => c43 ((gc_eq e1 kg_9 z46 (by decide)).mp q)) ?_
                      by_cases c44 : x1 = 10
                      · rw [if_pos c44] at h
                        refine gb_t ((gc_eq e1 kg_10 z46 (by decide)).mpr c44) ?_
                        obtain ⟨q50, w49, h⟩ := fx_bd h
                        refine gb_bind (gf_224 es w49) ?_
                        have h := Option.some.inj h
                        subst h
                        exact gret (gr q50.1) (rfl : _ = gx q50.2)
                      · rw [if_neg c44] at h
                        refine gb_f (fun q => c44 ((gc_eq e1 kg_10 z46 (by decide)).mp q)) ?_
                        by_cases c45 : x1 = 11
                        · rw [if_pos c45] at h
                          refine gb_t ((gc_eq e1 kg_11 z46 (by decide)).mpr c45) ?_
                          obtain ⟨q48, w47, h⟩ := fx_bd h
                          refine gb_bind (gf_225 es w47) ?_
                          have h := Option.some.inj h
                          subst h
                          exact gret (gr q48.1) (rfl : _ = gx q48.2)
                        · rw [if_neg c45] at h
                          refine gb_f (fun q => c45 ((gc_eq e1 kg_11 z46 (by decide)).mp q)) ?_
                          have h := Option.some.inj h
                          subst h
                          exact gret kg_m1 es
end
