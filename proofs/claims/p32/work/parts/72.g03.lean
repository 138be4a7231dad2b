/-! ZoneSharesModel.districtOf(I)I -/
def gm_228 (x1 : Int) (s : gx_S) : Option (Int × gx_S) :=
  if (-2147483648 ≤ x1 ∧ x1 ≤ 2147483647) then (
  (gm_130 x1 0 7 s).bind fun q10 =>
  if (gb q10.1) = 0 then (
    some ((-1), q10.2)) else (
    if 0 ≤ (44 + x1) ∧ (44 + x1) < 340 then (
    some ((q10.2.1 216 ((44 + x1)).toNat), q10.2)) else none)) else none
/-! java/lang/Integer.numberOfTrailingZeros(I)I -/
def gm_229_74 (x0 : Int) (x1 : Int) (s : gx_S) : Option (Int × gx_S) :=
  some ((x1 + (((Int32.ofInt x0).toUInt32 >>> ((Int32.ofInt 1).toUInt32 &&& Int32.toUInt32 31)).toInt32).toInt), s)
def gm_229_62 (x0 : Int) (x1 : Int) (s : gx_S) : Option (Int × gx_S) :=
  if (-2147483648 ≤ x0 ∧ x0 ≤ 2147483647) then (
  if x0 ≤ 4 then (
    gm_229_74 x0 x1 s) else (
    gm_229_74 ((((Int32.ofInt x0).toUInt32 >>> ((Int32.ofInt 2).toUInt32 &&& Int32.toUInt32 31)).toInt32).toInt) (x1 + 2) s)) else none
def gm_229_49 (x0 : Int) (x1 : Int) (s : gx_S) : Option (Int × gx_S) :=
  if (-2147483648 ≤ x0 ∧ x0 ≤ 2147483647) then (
  if x0 ≤ 16 then (
    gm_229_62 x0 x1 s) else (
    gm_229_62 ((((Int32.ofInt x0).toUInt32 >>> ((Int32.ofInt 4).toUInt32 &&& Int32.toUInt32 31)).toInt32).toInt) (x1 + 4) s)) else none
def gm_229_34 (x0 : Int) (x1 : Int) (s : gx_S) : Option (Int × gx_S) :=
  if (-2147483648 ≤ x0 ∧ x0 ≤ 2147483647) then (
  if x0 ≤ 256 then (
    gm_229_49 x0 x1 s) else (
    gm_229_49 ((((Int32.ofInt x0).toUInt32 >>> ((Int32.ofInt 8).toUInt32 &&& Int32.toUInt32 31)).toInt32).toInt) (x1 + 8) s)) else none
def gm_229 (x0 : Int) (s : gx_S) : Option (Int × gx_S) :=
  if (-2147483648 ≤ ((Int32.ofInt (((Int32.ofInt x0 ^^^ Int32.ofInt (-1))).toInt) &&& Int32.ofInt (x0 - 1))).toInt ∧ ((Int32.ofInt (((Int32.ofInt x0 ^^^ Int32.ofInt (-1))).toInt) &&& Int32.ofInt (x0 - 1))).toInt ≤ 2147483647) then (
  if 0 < ((Int32.ofInt (((Int32.ofInt x0 ^^^ Int32.ofInt (-1))).toInt) &&& Int32.ofInt (x0 - 1))).toInt then (
    if ((Int32.ofInt (((Int32.ofInt x0 ^^^ Int32.ofInt (-1))).toInt) &&& Int32.ofInt (x0 - 1))).toInt ≤ 65536 then (
      gm_229_34 (((Int32.ofInt (((Int32.ofInt x0 ^^^ Int32.ofInt (-1))).toInt) &&& Int32.ofInt (x0 - 1))).toInt) 1 s) else (
      gm_229_34 ((((Int32.ofInt (((Int32.ofInt (((Int32.ofInt x0 ^^^ Int32.ofInt (-1))).toInt) &&& Int32.ofInt (x0 - 1))).toInt)).toUInt32 >>> ((Int32.ofInt 16).toUInt32 &&& Int32.toUInt32 31)).toInt32).toInt) (1 + 16) s)) else (
    some (((Int32.ofInt (((Int32.ofInt (((Int32.ofInt x0 ^^^ Int32.ofInt (-1))).toInt) &&& Int32.ofInt (x0 - 1))).toInt) &&& Int32.ofInt 32)).toInt, s))) else none
/-! java/lang/Integer.bitCount(I)I -/
def gm_230 (x0 : Int) (s : gx_S) : Option (Int × gx_S) :=
  some (((Int32.ofInt ((((Int32.ofInt ((((Int32.ofInt (x0 - ((Int32.ofInt ((((Int32.ofInt x0).toUInt32 >>> ((Int32.ofInt 1).toUInt32 &&& Int32.toUInt32 31)).toInt32).toInt) &&& Int32.ofInt 1431655765)).toInt) &&& Int32.ofInt 858993459)).toInt + ((Int32.ofInt ((((Int32.ofInt (x0 - ((Int32.ofInt ((((Int32.ofInt x0).toUInt32 >>> ((Int32.ofInt 1).toUInt32 &&& Int32.toUInt32 31)).toInt32).toInt) &&& Int32.ofInt 1431655765)).toInt)).toUInt32 >>> ((Int32.ofInt 2).toUInt32 &&& Int32.toUInt32 31)).toInt32).toInt) &&& Int32.ofInt 858993459)).toInt) + (((Int32.ofInt (((Int32.ofInt (x0 - ((Int32.ofInt ((((Int32.ofInt x0).toUInt32 >>> ((Int32.ofInt 1).toUInt32 &&& Int32.toUInt32 31)).toInt32).toInt) &&& Int32.ofInt 1431655765)).toInt) &&& Int32.ofInt 858993459)).toInt + ((Int32.ofInt ((((Int32.ofInt (x0 - ((Int32.ofInt ((((Int32.ofInt x0).toUInt32 >>> ((Int32.ofInt 1).toUInt32 &&& Int32.toUInt32 31)).toInt32).toInt) &&& Int32.ofInt 1431655765)).toInt)).toUInt32 >>> ((Int32.ofInt 2).toUInt32 &&& Int32.toUInt32 31)).toInt32).toInt) &&& Int32.ofInt 858993459)).toInt)).toUInt32 >>> ((Int32.ofInt 4).toUInt32 &&& Int32.toUInt32 31)).toInt32).toInt) &&& Int32.ofInt 252645135)).toInt + (((Int32.ofInt (((Int32.ofInt ((((Int32.ofInt (x0 - ((Int32.ofInt ((((Int32.ofInt x0).toUInt32 >>> ((Int32.ofInt 1).toUInt32 &&& Int32.toUInt32 31)).toInt32).toInt) &&& Int32.ofInt 1431655765)).toInt) &&& Int32.ofInt 858993459)).toInt + ((Int32.ofInt ((((Int32.ofInt (x0 - ((Int32.ofInt ((((Int32.ofInt x0).toUInt32 >>> ((Int32.ofInt 1).toUInt32 &&& Int32.toUInt32 31)).toInt32).toInt) &&& Int32.ofInt 1431655765)).toInt)).toUInt32 >>> ((Int32.ofInt 2).toUInt32 &&& Int32.toUInt32 31)).toInt32).toInt) &&& Int32.ofInt 858993459)).toInt) + (((Int32.ofInt (((Int32.ofInt (x0 - ((Int32.ofInt ((((Int32.ofInt x0).toUInt32 >>> ((Int32.ofInt 1).toUInt32 &&& Int32.toUInt32 31)).toInt32).toInt) &&& Int32.ofInt 1431655765)).toInt) &&& Int32.ofInt 858993459)).toInt + ((Int32.ofInt ((((Int32.ofInt (x0 - ((Int32.ofInt ((((Int32.ofInt x0).toUInt32 >>> ((Int32.ofInt 1).toUInt32 &&& Int32.toUInt32 31)).toInt32).toInt) &&& Int32.ofInt 1431655765)).toInt)).toUInt32 >>> ((Int32.ofInt 2).toUInt32 &&& Int32.toUInt32 31)).toInt32).toInt) &&& Int32.ofInt 858993459)).toInt)).toUInt32 >>> ((Int32.ofInt 4).toUInt32 &&& Int32.toUInt32 31)).toInt32).toInt) &&& Int32.ofInt 252645135)).toInt)).toUInt32 >>> ((Int32.ofInt 8).toUInt32 &&& Int32.toUInt32 31)).toInt32).toInt) + (((Int32.ofInt (((Int32.ofInt ((((Int32.ofInt (x0 - ((Int32.ofInt ((((Int32.ofInt x0).toUInt32 >>> ((Int32.ofInt 1).toUInt32 &&& Int32.toUInt32 31)).toInt32).toInt) &&& Int32.ofInt 1431655765)).toInt) &&& Int32.ofInt 858993459)).toInt + ((Int32.ofInt ((((Int32.ofInt (x0 - ((Int32.ofInt ((((Int32.ofInt x0).toUInt32 >>> ((Int32.ofInt 1).toUInt32 &&& Int32.toUInt32 31)).toInt32).toInt) &&& Int32.ofInt 1431655765)).toInt)).toUInt32 >>> ((Int32.ofInt 2).toUInt32 &&& Int32.toUInt32 31)).toInt32).toInt) &&& Int32.ofInt 858993459)).toInt) + (((Int32.ofInt (((Int32.ofInt (x0 - ((Int32.ofInt ((((Int32.ofInt x0).toUInt32 >>> ((Int32.ofInt 1).toUInt32 &&& Int32.toUInt32 31)).toInt32).toInt) &&& Int32.ofInt 1431655765)).toInt) &&& Int32.ofInt 858993459)).toInt + ((Int32.ofInt ((((Int32.ofInt (x0 - ((Int32.ofInt ((((Int32.ofInt x0).toUInt32 >>> ((Int32.ofInt 1).toUInt32 &&& Int32.toUInt32 31)).toInt32).toInt) &&& Int32.ofInt 1431655765)).toInt)).toUInt32 >>> ((Int32.ofInt 2).toUInt32 &&& Int32.toUInt32 31)).toInt32).toInt) &&& Int32.ofInt 858993459)).toInt)).toUInt32 >>> ((Int32.ofInt 4).toUInt32 &&& Int32.toUInt32 31)).toInt32).toInt) &&& Int32.ofInt 252645135)).toInt + (((Int32.ofInt (((Int32.ofInt ((((Int32.ofInt (x0 - ((Int32.ofInt ((((Int32.ofInt x0).toUInt32 >>> ((Int32.ofInt 1).toUInt32 &&& Int32.toUInt32 31)).toInt32).toInt) &&& Int32.ofInt 1431655765)).toInt) &&& Int32.ofInt 858993459)).toInt + ((Int32.ofInt ((((Int32.ofInt (x0 - ((Int32.ofInt ((((Int32.ofInt x0).toUInt32 >>> ((Int32.ofInt 1).toUInt32 &&& Int32.toUInt32 31)).toInt32).toInt) &&& Int32.ofInt 1431655765)).toInt)).toUInt32 >>> ((Int32.ofInt 2).toUInt32 &&& Int32.toUInt32 31)).toInt32).toInt) &&& Int32.ofInt 858993459)).toInt) + (((Int32.ofInt (((Int32.ofInt (x0 - ((Int32.ofInt ((((Int32.ofInt x0).toUInt32 >>> ((Int32.ofInt 1).toUInt32 &&& Int32.toUInt32 31)).toInt32).toInt) &&& Int32.ofInt 1431655765)).toInt) &&& Int32.ofInt 858993459)).toInt + ((Int32.ofInt ((((Int32.ofInt (x0 - ((Int32.ofInt ((((Int32.ofInt x0).toUInt32 >>> ((Int32.ofInt 1).toUInt32 &&& Int32.toUInt32 31)).toInt32).toInt) &&& Int32.ofInt 1431655765)).toInt)).toUInt32 >>> ((Int32.ofInt 2).toUInt32 &&& Int32.toUInt32 31)).toInt32).toInt) &&& Int32.ofInt 858993459)).toInt)).toUInt32 >>> ((Int32.ofInt 4).toUInt32 &&& Int32.toUInt32 31)).toInt32).toInt) &&& Int32.ofInt 252645135)).toInt)).toUInt32 >>> ((Int32.ofInt 8).toUInt32 &&& Int32.toUInt32 31)).toInt32).toInt)).toUInt32 >>> ((Int32.ofInt 16).toUInt32 &&& Int32.toUInt32 31)).toInt32).toInt) &&& Int32.ofInt 63)).toInt, s)
theorem gf_230 {x0 : Int} {yx0 : Int32} (e0 : yx0 = Int32.ofInt x0) {s : gx_S} {σ : fx_S} (es : σ = gx s) {q : Int × gx_S} (h : gm_230 x0 s = some q) : fm_230 yx0 σ = some (Int32.ofInt q.1, gx q.2) := by
  unfold gm_230 at h
  unfold fm_230
  have h := Option.some.inj h
  subst h
  exact gret (ga_o2 (f := (fun a b => (a &&& b))) (ga_add (ga_add (ga_o2 (f := (fun a b => (a &&& b))) (ga_add (ga_add (ga_o2 (f := (fun a b => (a &&& b))) (ga_sub e0 (ga_o2 (f := (fun a b => (a &&& b))) (ga_o2 (f := (fun a b => ((a).toUInt32 >>> ((b).toUInt32 &&& Int32.toUInt32 31)).toInt32)) e0 kg_1) kg_1431655765)) kg_858993459) (ga_o2 (f := (fun a b => (a &&& b))) (ga_o2 (f := (fun a b => ((a).toUInt32 >>> ((b).toUInt32 &&& Int32.toUInt32 31)).toInt32)) (ga_sub e0 (ga_o2 (f := (fun a b => (a &&& b))) (ga_o2 (f := (fun a b => ((a).toUInt32 >>> ((b).toUInt32 &&& Int32.toUInt32 31)).toInt32)) e0 kg_1) kg_1431655765)) kg_2) kg_858993459)) (ga_o2 (f := (fun a b => ((a).toUInt32 >>> ((b).toUInt32 &&& Int32.toUInt32 31)).toInt32)) (ga_add (ga_o2 (f := (fun a b => (a &&& b))) (ga_sub e0 (ga_o2 (f := (fun a b => (a &&& b))) (ga_o2 (f := (fun a b => ((a).toUInt32 >>> ((b).toUInt32 &&& Int32.toUInt32 31)).toInt32)) e0 kg_1) kg_1431655765)) kg_858993459) (ga_o2 (f := (fun a b => (a &&& b))) (ga_o2 (f := (fun a b => ((a).toUInt32 >>> ((b).toUInt32 &&& Int32.toUInt32 31)).toInt32)) (ga_sub e0 (ga_o2 (f := (fun a b => (a &&& b))) (ga_o2 (f := (fun a b => ((a).toUInt32 >>> ((b).toUInt32 &&& Int32.toUInt32 31)).toInt32)) e0 kg_1) kg_1431655765)) kg_2) kg_858993459)) kg_4)) kg_252645135) (ga_o2 (f := (fun a b => ((a).toUInt32 >>> ((b).toUInt32 &&& Int32.toUInt32 31)).toInt32)) (ga_o2 (f := (fun a b => (a &&& b))) (ga_add (ga_add (ga_o2 (f := (fun a b => (a &&& b))) (ga_sub e0 (ga_o2 (f := (fun a b => (a &&& b))) (ga_o2 (f := (fun a b => ((a).toUInt32 >>> ((b).toUInt32 &&& Int32.toUInt32 31)).toInt32)) e0 kg_1) kg_1431655765)) kg_858993459) (ga_o2 (f := (fun a b => (a &&& b))) (ga_o2 (f := (fun a b => ((a).toUInt32 >>> ((b).toUInt32 &&& Int32.toUInt32 31)).toInt32)) (ga_sub e0 (ga_o2 (f := (fun a b => (a &&& b))) (ga_o2 (f := (fun a b => ((a).toUInt32 >>> ((b).toUInt32 &&& Int32.toUInt32 31)).toInt32)) e0 kg_1) kg_1431655765)) kg_2) kg_858993459)) (ga_o2 (f := (fun a b => ((a).toUInt32 >>> ((b).toUInt32 &&& Int32.toUInt32 31)).toInt32)) (ga_add (ga_o2 (f := (fun a b => (a &&& b))) (ga_sub e0 (ga_o2 (f := (fun a b => (a &&& b))) (ga_o2 (f := (fun a b => ((a).toUInt32 >>> ((b).toUInt32 &&& Int32.toUInt32 31)).toInt32)) e0 kg_1) kg_1431655765)) kg_858993459) (ga_o2 (f := (fun a b => (a &&& b))) (ga_o2 (f := (fun a b => ((a).toUInt32 >>> ((b).toUInt32 &&& Int32.toUInt32 31)).toInt32)) (ga_sub e0 (ga_o2 (f := (fun a b => (a &&& b))) (ga_o2 (f := (fun a b => ((a).toUInt32 >>> ((b).toUInt32 &&& Int32.toUInt32 31)).toInt32)) e0 kg_1) kg_1431655765)) kg_2) kg_858993459)) kg_4)) kg_252645135) kg_8)) (ga_o2 (f := (fun a b => ((a).toUInt32 >>> ((b).toUInt32 &&& Int32.toUInt32 31)).toInt32)) (ga_add (ga_o2 (f := (fun a b => (a &&& b))) (ga_add (ga_add (ga_o2 (f := (fun a b => (a &&& b))) (ga_sub e0 (ga_o2 (f := (fun a b => (a &&& b))) (ga_o2 (f := (fun a b => ((a).toUInt32 >>> ((b).toUInt32 &&& Int32.toUInt32 31)).toInt32)) e0 kg_1) kg_1431655765)) kg_858993459) (ga_o2 (f := (fun a b => (a &&& b))) (ga_o2 (f := (fun a b => ((a).toUInt32 >>> ((b).toUInt32 &&& Int32.toUInt32 31)).toInt32)) (ga_sub e0 (ga_o2 (f := (fun a b => (a &&& b))) (ga_o2 (f := (fun a b => ((a).toUInt32 >>> ((b).toUInt32 &&& Int32.toUInt32 31)).toInt32)) e0 kg_1) kg_1431655765)) kg_2) kg_858993459)) (ga_o2 (f := (fun a b => ((a).toUInt32 >>> ((b).toUInt32 &&& Int32.toUInt32 31)).toInt32)) (ga_add (ga_o2 (f := (fun a b => (a &&& b))) (ga_sub e0 (ga_o2 (f := (fun a b => (a &&& b))) (ga_o2 (f := (fun a b => ((a).toUInt32 >>> ((b).toUInt32 &&& Int32.toUInt32 31)).toInt32)) e0 kg_1) kg_1431655765)) kg_858993459) (ga_o2 (f := (fun a b => (a &&& b))) (ga_o2 (f := (fun a b => ((a).toUInt32 >>> ((b).toUInt32 &&& Int32.toUInt32 31)).toInt32)) (ga_sub e0 (ga_o2 (f := (fun a b => (a &&& b))) (ga_o2 (f := (fun a b => ((a).toUInt32 >>> ((b).toUInt32 &&& Int32.toUInt32 31)).toInt32)) e0 kg_1) kg_1431655765)) kg_2) kg_858993459)) kg_4)) kg_252645135) (ga_o2 (f := (fun a b => ((a).toUInt32 >>> ((b).toUInt32 &&& Int32.toUInt32 31)).toInt32)) (ga_o2 (f := (fun a b => (a &&& b))) (ga_add (ga_add (ga_o2 (f := (fun a b => (a &&& b))) (ga_sub e0 (ga_o2 (f := (fun a b => (a &&& b))) (ga_o2 (f := (fun a b => ((a).toUInt32 >>> ((b).toUInt32 &&& Int32.toUInt32 31)).toInt32)) e0 kg_1) kg_1431655765)) kg_858993459) (ga_o2 (f := (fun a b => (a &&& b))) (ga_o2 (f := (fun a b => ((a).toUInt32 >>> ((b).toUInt32 &&& Int32.toUInt32 31)).toInt32)) (ga_sub e0 (ga_o2 (f := (fun a b => (a &&& b))) (ga_o2 (f := (fun a b => ((a).toUInt32 >>> ((b).toUInt32 &&& Int32.toUInt32 31)).toInt32)) e0 kg_1) kg_1431655765)) kg_2) kg_858993459)) (ga_o2 (f := (fun a b => ((a).toUInt32 >>> ((b).toUInt32 &&& Int32.toUInt32 31)).toInt32)) (ga_add (ga_o2 (f := (fun a b => (a &&& b))) (ga_sub e0 (ga_o2 (f := (fun a b => (a &&& b))) (ga_o2 (f := (fun a b => ((a).toUInt32 >>> ((b).toUInt32 &&& Int32.toUInt32 31)).toInt32)) e0 kg_1) kg_1431655765)) kg_858993459) (ga_o2 (f := (fun a b => (a &&& b))) (ga_o2 (f := (fun a b => ((a).toUInt32 >>> ((b).toUInt32 &&& Int32.toUInt32 31)).toInt32)) (ga_sub e0 (ga_o2 (f := (fun a b => (a &&& b))) (ga_o2 (f := (fun a b => ((a).toUInt32 >>> ((b).toUInt32 &&& Int32.toUInt32 31)).toInt32)) e0 kg_1) kg_1431655765)) kg_2) kg_858993459)) kg_4)) kg_252645135) kg_8)) kg_16)) kg_63) es

/-! java/util/Arrays.fill([II)V -/
def gm_235_5 : Nat → Nat → Int → Int → Int → gx_S → Option (gx_S)
  | 0, _, _, _, _, _ => none
  | n + 1, x0, x1, x2, x3, s =>
    if (-2147483648 ≤ x2 ∧ x2 ≤ 2147483647) then (
    if (-2147483648 ≤ x3 ∧ x3 ≤ 2147483647) then (
    if x3 ≤ x2 then (
      some s) else (
      if gx_p x0 = true then (
      if 0 ≤ x2 ∧ x2 < ((fx_sh x0).2 : Int) then (
      gm_235_5 n x0 x1 (x2 + 1) x3 (gw1 s x0 (x2).toNat x1)) else none) else none)) else none) else none
theorem gf_235_5 : ∀ (n : Nat) (x0 : Nat) (x1 : Int) (yx1 : Int32) (e1 : yx1 = Int32.ofInt x1) (x2 : Int) (yx2 : Int32) (e2 : yx2 = Int32.ofInt x2) (x3 : Int) (yx3 : Int32) (e3 : yx3 = Int32.ofInt x3) (s : gx_S) (σ : fx_S) (es : σ = gx s) (q : gx_S), gm_235_5 n x0 x1 x2 x3 s = some q → fm_235_5 n x0 yx1 yx2 yx3 σ = some (gx q) := by
  intro n
  induction n with
  | zero =>
    intro x0 x1 yx1 e1 x2 yx2 e2 x3 yx3 e3 s σ es q  h
    rw [gm_235_5] at h
    exact fx_no h
  | succ n ih =>
    intro x0 x1 yx1 e1 x2 yx2 e2 x3 yx3 e3 s σ es q  h
    rw [gm_235_5] at h
    rw [fm_235_5]
    obtain ⟨z1, h⟩ := fx_gd h
    obtain ⟨z2, h⟩ := fx_gd h
    by_cases c3 : x3 ≤ x2
    · rw [if_pos c3] at h
      refine gb_t ((gc_le e3 e2 z2 z1).mpr c3) ?_
      have h := Option.some.inj h
      subst h
      exact gretv es
    · rw [if_neg c3] at h
      refine gb_f (fun q => c3 ((gc_le e3 e2 z2 z1).mp q)) ?_
      obtain ⟨z6, h⟩ := fx_gd h
      obtain ⟨z7, h⟩ := fx_gd h
      refine gb_bind (gl_st es e2 e1 z6 z7) ?_
      exact ih _ _ _ e1 _ _ (ga_add e2 kg_1) _ _ e3 _ _ (rfl : _ = gx (gw1 s x0 (x2).toNat x1)) _ h
def gm_235 (x0 : Nat) (x1 : Int) (s : gx_S) : Option (gx_S) :=
  if fx_ok (fx_sh x0).1 x0 0 = true ∧ fx_sh x0 = (0, (fx_sh x0).2) then (
  gm_235_5 100000 x0 x1 0 ((fx_sh x0).2 : Int) s) else none
theorem gf_235 {x0 : Nat} {x1 : Int} {yx1 : Int32} (e1 : yx1 = Int32.ofInt x1) {s : gx_S} {σ : fx_S} (es : σ = gx s) {q : gx_S} (h : gm_235 x0 x1 s = some q) : fm_235 x0 yx1 σ = some (gx q) := by
  unfold gm_235 at h
  unfold fm_235
  obtain ⟨z13, h⟩ := fx_gd h
  refine gb_t z13 ?_
  exact gf_235_5 100000 _ _ _ e1 _ _ kg_0 _ _ (gc_len x0) _ _ es _ h

/-! ZoneShares$CountsText.number(LZoneShares$Tape;)I -/
def gm_6_63 (x2 : Int) (s : gx_S) : Option (Int × gx_S) :=
  some (x2, s)
theorem gf_6_63 (x2 : Int) (yx2 : Int32) (e2 : yx2 = Int32.ofInt x2) (s : gx_S) (σ : fx_S) (es : σ = gx s) (q : Int × gx_S) (h : gm_6_63 x2 s = some q) : fm_6_63 yx2 σ = some (Int32.ofInt q.1, gx q.2) := by
  unfold gm_6_63 at h
  unfold fm_6_63
  have h := Option.some.inj h
  subst h
  exact gret e2 es
def gm_6_2 : Nat → Int → gx_S → Option (Int × gx_S)
  | 0, _, _ => none
  | n + 1, x2, s =>
    if (-2147483648 ≤ (s.1 60 2) ∧ (s.1 60 2) ≤ 2147483647) then (
    if (-2147483648 ≤ (s.1 14 1) ∧ (s.1 14 1) ≤ 2147483647) then (
    if (s.1 14 1) ≤ (s.1 60 2) then (
      gm_6_63 x2 s) else (
      (gm_83 (s.1 60 2) s).bind fun q5 =>
      (gm_8 q5.1 q5.2).bind fun q7 =>
      if (gb q7.1) = 0 then (
        gm_6_63 x2 q7.2) else (
        (gm_83 (q7.2.1 60 2) q7.2).bind fun q10 =>
        if (-2147483648 ≤ (((x2 * 10) + q10.1) - 48) ∧ (((x2 * 10) + q10.1) - 48) ≤ 2147483647) then (
        gm_6_2 n (if (((x2 * 10) + q10.1) - 48) < 10000 then (((x2 * 10) + q10.1) - 48) else 10000) (gw1 q10.2 60 2 ((q10.2.1 60 2) + 1))) else none))) else none) else none
theorem gf_6_2 : ∀ (n : Nat) (x2 : Int) (yx2 : Int32) (e2 : yx2 = Int32.ofInt x2) (s : gx_S) (σ : fx_S) (es : σ = gx s) (q : Int × gx_S), gm_6_2 n x2 s = some q → fm_6_2 n yx2 σ = some (Int32.ofInt q.1, gx q.2) := by
  intro n
  induction n with
  | zero =>
    intro x2 yx2 e2 s σ es q  h
    rw [gm_6_2] at h
    exact fx_no h
  | succ n ih =>
    intro x2 yx2 e2 s σ es q  h
    rw [gm_6_2] at h
    rw [fm_6_2]
    obtain ⟨z1, h⟩ := fx_gd h
    obtain ⟨z2, h⟩ := fx_gd h
    by_cases c3 : (s.1 14 1) ≤ (s.1 60 2)
    · rw [if_pos c3] at h
      refine gb_t ((gc_le (gf1 es 14 1) (gf1 es 60 2) z2 z1).mpr c3) ?_
      exact gf_6_63 _ _ e2 _ _ es _ h
    · rw [if_neg c3] at h
      refine gb_f (fun q => c3 ((gc_le (gf1 es 14 1) (gf1 es 60 2) z2 z1).mp q)) ?_
      obtain ⟨q5, w4, h⟩ := fx_bd h
      refine gb_bind (gf_83 (gf1 es 60 2) es w4) ?_
      obtain ⟨q7, w6, h⟩ := fx_bd h
      refine gb_bind (gf_8 (gr q5.1) (rfl : _ = gx q5.2) w6) ?_
      by_cases c8 : (gb q7.1) = 0
      · rw [if_pos c8] at h
        refine gb_t ((gc_eq (gb_b q7.1) kg_0 (gb_r _) (by decide)).mpr c8) ?_
        exact gf_6_63 _ _ e2 _ _ (rfl : _ = gx q7.2) _ h
      · rw [if_neg c8] at h
        refine gb_f (fun q => c8 ((gc_eq (gb_b q7.1) kg_0 (gb_r _) (by decide)).mp q)) ?_
        obtain ⟨q10, w9, h⟩ := fx_bd h
        refine gb_bind (gf_83 (gf1 (rfl : _ = gx q7.2) 60 2) (rfl : _ = gx q7.2) w9) ?_
        obtain ⟨z11, h⟩ := fx_gd h
        exact ih _ _ (ga_lt_ite kg_10000 (ga_sub (ga_add (ga_mul e2 kg_10) (gr q10.1)) kg_48) (by decide) z11) _ _ (gx_w1 (rfl : _ = gx q10.2) (ga_add (gf1 (rfl : _ = gx q10.2) 60 2) kg_1)) _ h
def gm_6 (s : gx_S) : Option (Int × gx_S) :=
  gm_6_2 100000 0 s
theorem gf_6 {s : gx_S} {σ : fx_S} (es : σ = gx s) {q : Int × gx_S} (h : gm_6 s = some q) : fm_6 σ = some (Int32.ofInt q.1, gx q.2) := by
  unfold gm_6 at h
  unfold fm_6
  exact gf_6_2 100000 _ _ kg_0 _ _ es _ h

/-! ZoneShares$Fitter.countCells(LZoneShares$State;I)V -/
def gm_11_63 (k_8 : Nat → Int → Int → Int → gx_S → Option (gx_S)) (x1 : Nat) (x2 : Int) (x3 : Int) (x4 : Int) (s : gx_S) : Option (gx_S) :=
  k_8 x1 x2 x3 (x4 + 1) s
def gm_11_8 : Nat → Nat → Int → Int → Int → gx_S → Option (gx_S)
  | 0, _, _, _, _, _ => none
  | n + 1, x1, x2, x3, x4, s =>
    if (-2147483648 ≤ x4 ∧ x4 ≤ 2147483647) then (
    if (-2147483648 ≤ x3 ∧ x3 ≤ 2147483647) then (
    if x3 ≤ x4 then (
      some s) else (
      (gm_60 x1 0 x4 s).bind fun q5 =>
      if (-2147483648 ≤ q5.1 ∧ q5.1 ≤ 2147483647) then (
      if (-2147483648 ≤ x2 ∧ x2 ≤ 2147483647) then (
      if ¬ q5.1 = x2 then (
        gm_11_63 (gm_11_8 n) x1 x2 x3 x4 q5.2) else (
        (gm_60 x1 2 x4 q5.2).bind fun q10 =>
        if 0 ≤ (((q10.2.1 62 2) * 4) + q10.1) ∧ (((q10.2.1 62 2) * 4) + q10.1) < 32 then (
        if 0 ≤ q10.1 ∧ q10.1 < 4 then (
        gm_11_63 (gm_11_8 n) x1 x2 x3 x4 (gw1 (gw1 q10.2 65 ((((q10.2.1 62 2) * 4) + q10.1)).toNat ((q10.2.1 65 ((((q10.2.1 62 2) * 4) + q10.1)).toNat) + 1)) 66 (q10.1).toNat (((gw1 q10.2 65 ((((q10.2.1 62 2) * 4) + q10.1)).toNat ((q10.2.1 65 ((((q10.2.1 62 2) * 4) + q10.1)).toNat) + 1)).1 66 (q10.1).toNat) + 1))) else none) else none)) else none) else none)) else none) else none
def gm_11 (x1 : Nat) (x2 : Int) (s : gx_S) : Option (gx_S) :=
  if fx_oc x1 6 = true then (
  (gm_58 x1 s).bind fun q44 =>
  gm_11_8 100000 x1 x2 q44.1 0 q44.2) else none
/-! ZoneShares$Fitter.load([II)J -/
def gm_12_15 : Nat → Nat → Int → Int → gx_S → Option (Int × gx_S)
  | 0, _, _, _, _ => none
  | n + 1, x1, x2, x3, s =>
    if (-2147483648 ≤ x3 ∧ x3 ≤ 2147483647) then (
    if 4 ≤ x3 then (
      some ((s.2 62 8), s)) else (
      if gx_p x1 = true then (
      if 0 ≤ (x2 + x3) ∧ (x2 + x3) < ((fx_sh x1).2 : Int) then (
      (gm_13 x3 (s.1 x1 ((x2 + x3)).toNat) s).bind fun q8 =>
      gm_12_15 n x1 x2 (x3 + 1) q8) else none) else none)) else none
def gm_12 (x1 : Nat) (x2 : Int) (s : gx_S) : Option (Int × gx_S) :=
  (gm_235 68 0 s).bind fun q12 =>
  gm_12_15 100000 x1 x2 0 (gw2 q12 62 8 0)
/-! ZoneShares$Fitter.findBest()V -/
def gm_15_107 (k_80 : Int → Int → gx_S → Option (gx_S)) (x1 : Int) (x2 : Int) (s : gx_S) : Option (gx_S) :=
  (gm_17 s).bind fun q2 =>
  k_80 x1 (x2 + 1) q2
def gm_15_80 : Nat → Int → Int → gx_S → Option (gx_S)
  | 0, _, _, _ => none
  | n + 1, x1, x2, s =>
    if (-2147483648 ≤ x2 ∧ x2 ≤ 2147483647) then (
    if (-2147483648 ≤ x1 ∧ x1 ≤ 2147483647) then (
    if x1 ≤ x2 then (
      some s) else (
      if (-9223372036854775808 ≤ (s.2 62 9) ∧ (s.2 62 9) ≤ 9223372036854775807) then (
      if (s.2 62 9) ≤ 0 then (
        some s) else (
        if (-9223372036854775808 ≤ (s.2 62 8) ∧ (s.2 62 8) ≤ 9223372036854775807) then (
        if (s.2 62 8) ≤ 0 then (
          gm_15_107 (gm_15_80 n) x1 x2 s) else (
          (gm_16 s).bind fun q9 =>
          gm_15_107 (gm_15_80 n) x1 x2 q9)) else none)) else none)) else none) else none
def gm_15_51 (k_4 : Int → Int → gx_S → Option (gx_S)) (x1 : Int) (x2 : Int) (s1 : Int) (s2 : Int) (s : gx_S) : Option (gx_S) :=
  if 0 ≤ s1 ∧ s1 < 4 then (
  k_4 x1 (x2 + 1) (gw1 s 67 (s1).toNat s2)) else none
def gm_15_25 (k_4 : Int → Int → gx_S → Option (gx_S)) (x2 : Int) (s0 : Int) (s1 : Int) (s : gx_S) : Option (gx_S) :=
  if 0 ≤ x2 ∧ x2 < 4 then (
  if (-2147483648 ≤ (s.1 66 (x2).toNat) ∧ (s.1 66 (x2).toNat) ≤ 2147483647) then (
  if (s.1 66 (x2).toNat) ≤ 0 then (
    gm_15_51 k_4 (s0 * s1) x2 x2 (s.1 63 (x2).toNat) s) else (
    gm_15_51 k_4 (s0 * s1) x2 x2 0 s)) else none) else none
def gm_15_4 : Nat → Int → Int → gx_S → Option (gx_S)
  | 0, _, _, _ => none
  | n + 1, x1, x2, s =>
    if (-2147483648 ≤ x2 ∧ x2 ≤ 2147483647) then (
    if 4 ≤ x2 then (
      (gm_12 67 0 s).bind fun q4 =>
      gm_15_80 100000 x1 0 (gw2 (gw2 q4.2 62 10 0) 62 9 1)) else (
      if 0 ≤ x2 ∧ x2 < 4 then (
      if (-2147483648 ≤ (s.1 66 (x2).toNat) ∧ (s.1 66 (x2).toNat) ≤ 2147483647) then (
      if (s.1 66 (x2).toNat) ≤ 0 then (
        gm_15_25 (gm_15_4 n) x2 x1 1 s) else (
        gm_15_25 (gm_15_4 n) x2 x1 10 s)) else none) else none)) else none
def gm_15 (s : gx_S) : Option (gx_S) :=
  gm_15_4 100000 1 0 s
/-! ZoneShares$Group.topOf(I)I -/
def gm_27_47 (x0 : Nat) (x2 : Int) (s0 : Int) (s : gx_S) : Option (Int × gx_S) :=
  if 0 ≤ x2 ∧ x2 < 8 then (
  some (((s.1 (x0 + 1) (x2).toNat) * s0), s)) else none
theorem gf_27_47 (x0 : Nat) (x2 : Int) (yx2 : Int32) (e2 : yx2 = Int32.ofInt x2) (s0 : Int) (ys0 : Int32) (es0 : ys0 = Int32.ofInt s0) (s : gx_S) (σ : fx_S) (es : σ = gx s) (q : Int × gx_S) (g0 : fx_oc x0 2 = true) (h : gm_27_47 x0 x2 s0 s = some q) : fm_27_47 x0 yx2 ys0 σ = some (Int32.ofInt q.1, gx q.2) := by
  unfold gm_27_47 at h
  unfold fm_27_47
  obtain ⟨z3, h⟩ := fx_gd h
  refine gb_bind (gl_ld es e2 (ga_2_0 g0) z3) ?_
  have h := Option.some.inj h
  subst h
  exact gret (ga_mul (gr (s.1 (x0 + 1) (x2).toNat)) es0) es
def gm_27 (x0 : Nat) (x1 : Int) (s : gx_S) : Option (Int × gx_S) :=
  if fx_oc x0 2 = true then (
  (gm_60 1 0 x1 s).bind fun q16 =>
  if (-2147483648 ≤ q16.1 ∧ q16.1 ≤ 2147483647) then (
  if q16.1 < 8 then (
    if 0 ≤ q16.1 ∧ q16.1 < 8 then (
    if (-2147483648 ≤ (q16.2.1 ((x0 + 3) + 3) (q16.1).toNat) ∧ (q16.2.1 ((x0 + 3) + 3) (q16.1).toNat) ≤ 2147483647) then (
    if ¬ (q16.2.1 ((x0 + 3) + 3) (q16.1).toNat) = 1 then (
      (gm_61 1 (q16.2.1 x0 9) x1 q16.2).bind fun q25 =>
      gm_27_47 x0 q16.1 q25.1 q25.2) else (
      gm_27_47 x0 q16.1 1 q16.2)) else none) else none) else (
    some (0, q16.2))) else none) else none
theorem gf_27 {x0 : Nat} {x1 : Int} {yx1 : Int32} (e1 : yx1 = Int32.ofInt x1) {s : gx_S} {σ : fx_S} (es : σ = gx s) {q : Int × gx_S} (h : gm_27 x0 x1 s = some q) : fm_27 x0 yx1 σ = some (Int32.ofInt q.1, gx q.2) := by
  unfold gm_27 at h
  unfold fm_27
  obtain ⟨gg, h⟩ := fx_gd h
  refine gb_t gg ?_
  have g0 := gg
  obtain ⟨q16, w15, h⟩ := fx_bd h
  refine gb_bind (gf_60 kg_0 e1 es w15) ?_
  obtain ⟨z17, h⟩ := fx_gd h
  by_cases c18 : q16.1 < 8
  · rw [if_pos c18] at h
    refine gb_t ((gc_lt (gr q16.1) kg_8 z17 (by decide)).mpr c18) ?_
    obtain ⟨z21, h⟩ := fx_gd h
    refine gb_bind (gl_ld (rfl : _ = gx q16.2) (gr q16.1) (ga_7_2 (fg_2_2 g0)) z21) ?_
    obtain ⟨z22, h⟩ := fx_gd h
    by_cases c23 : ¬ (q16.2.1 ((x0 + 3) + 3) (q16.1).toNat) = 1
    · rw [if_pos c23] at h
      refine gb_t ((gc_ne (gr (q16.2.1 ((x0 + 3) + 3) (q16.1).toNat)) kg_1 z22 (by decide)).mpr c23) ?_
      obtain ⟨q25, w24, h⟩ := fx_bd h
      refine gb_bind (gf_61 (gf1 (rfl : _ = gx q16.2) x0 9) e1 (rfl : _ = gx q16.2) w24) ?_
      exact gf_27_47 _ _ _ (gr q16.1) _ _ (gr q25.1) _ _ (rfl : _ = gx q25.2) _ g0 h
    · rw [if_neg c23] at h
      refine gb_f (fun q => c23 ((gc_ne (gr (q16.2.1 ((x0 + 3) + 3) (q16.1).toNat)) kg_1 z22 (by decide)).mp q)) ?_
      exact gf_27_47 _ _ _ (gr q16.1) _ _ kg_1 _ _ (rfl : _ = gx q16.2) _ g0 h
  · rw [if_neg c18] at h
    refine gb_f (fun q => c18 ((gc_lt (gr q16.1) kg_8 z17 (by decide)).mp q)) ?_
    have h := Option.some.inj h
    subst h
    exact gret kg_0 (rfl : _ = gx q16.2)

/-! ZoneShares$Group.underOf(I)I -/
def gm_28 (x0 : Nat) (x1 : Int) (s : gx_S) : Option (Int × gx_S) :=
  if fx_oc x0 2 = true then (
  (gm_60 1 0 x1 s).bind fun q9 =>
  if (-2147483648 ≤ q9.1 ∧ q9.1 ≤ 2147483647) then (
  if 8 ≤ q9.1 then (
    some (1, q9.2)) else (
    if 0 ≤ q9.1 ∧ q9.1 < 8 then (
    some ((q9.2.1 ((x0 + 3) + 2) (q9.1).toNat), q9.2)) else none)) else none) else none
theorem gf_28 {x0 : Nat} {x1 : Int} {yx1 : Int32} (e1 : yx1 = Int32.ofInt x1) {s : gx_S} {σ : fx_S} (es : σ = gx s) {q : Int × gx_S} (h : gm_28 x0 x1 s = some q) : fm_28 x0 yx1 σ = some (Int32.ofInt q.1, gx q.2) := by
  unfold gm_28 at h
  unfold fm_28
  obtain ⟨gg, h⟩ := fx_gd h
  refine gb_t gg ?_
  have g0 := gg
  obtain ⟨q9, w8, h⟩ := fx_bd h
  refine gb_bind (gf_60 kg_0 e1 es w8) ?_
  obtain ⟨z10, h⟩ := fx_gd h
  by_cases c11 : 8 ≤ q9.1
  · rw [if_pos c11] at h
    refine gb_t ((gc_le kg_8 (gr q9.1) (by decide) z10).mpr c11) ?_
    have h := Option.some.inj h
    subst h
    exact gret kg_1 (rfl : _ = gx q9.2)
  · rw [if_neg c11] at h
    refine gb_f (fun q => c11 ((gc_le kg_8 (gr q9.1) (by decide) z10).mp q)) ?_
    obtain ⟨z14, h⟩ := fx_gd h
    refine gb_bind (gl_ld (rfl : _ = gx q9.2) (gr q9.1) (ga_7_1 (fg_2_2 g0)) z14) ?_
    have h := Option.some.inj h
    subst h
    exact gret (gr (q9.2.1 ((x0 + 3) + 2) (q9.1).toNat)) (rfl : _ = gx q9.2)

/-! ZoneShares$Group.sortCells()V -/
def gm_29_97 (k_10 : Nat → Int → Int → gx_S → Option (gx_S)) (x0 : Nat) (x1 : Int) (x2 : Int) (x7 : Int) (s : gx_S) : Option (gx_S) :=
  if 0 ≤ x7 ∧ x7 < 96 then (
  k_10 x0 x1 (x2 + 1) (gw1 s (x0 + 2) (x7).toNat x2)) else none
theorem gf_29_97 {kf_10 : Nat → Int32 → Int32 → fx_S → Option (fx_S)} {kg_10 : Nat → Int → Int → gx_S → Option (gx_S)} (hk_10 : ∀ (x0 : Nat) (x1 : Int) (yx1 : Int32) (e1 : yx1 = Int32.ofInt x1) (x2 : Int) (yx2 : Int32) (e2 : yx2 = Int32.ofInt x2) (s : gx_S) (σ : fx_S) (es : σ = gx s) (q : gx_S) (g0 : fx_oc x0 2 = true), kg_10 x0 x1 x2 s = some q → kf_10 x0 yx1 yx2 σ = some (gx q)) (x0 : Nat) (x1 : Int) (yx1 : Int32) (e1 : yx1 = Int32.ofInt x1) (x2 : Int) (yx2 : Int32) (e2 : yx2 = Int32.ofInt x2) (x7 : Int) (yx7 : Int32) (e7 : yx7 = Int32.ofInt x7) (s : gx_S) (σ : fx_S) (es : σ = gx s) (q : gx_S) (g0 : fx_oc x0 2 = true) (h : gm_29_97 kg_10 x0 x1 x2 x7 s = some q) : fm_29_97 kf_10 x0 yx1 yx2 yx7 σ = some (gx q) := by
  unfold gm_29_97 at h
  unfold fm_29_97
  obtain ⟨z3, h⟩ := fx_gd h
  refine gb_bind (gl_st es e7 e2 (ga_2_1 g0) z3) ?_
  exact hk_10 _ _ _ e1 _ _ (ga_add e2 kg_1) _ _ (rfl : _ = gx (gw1 s (x0 + 2) (x7).toNat x2)) _ g0 h
def gm_29_33 (k_10 : Nat → Int → Int → gx_S → Option (gx_S)) : Nat → Nat → Int → Int → Int → Int → Int → gx_S → Option (gx_S)
  | 0, _, _, _, _, _, _, _ => none
  | n + 1, x0, x1, x2, x3, x5, x7, s =>
    if (-2147483648 ≤ x7 ∧ x7 ≤ 2147483647) then (
    if x7 ≤ 0 then (
      gm_29_97 k_10 x0 x1 x2 x7 s) else (
      if 0 ≤ (x7 - 1) ∧ (x7 - 1) < 96 then (
      (gm_28 x0 (s.1 (x0 + 2) ((x7 - 1)).toNat) s).bind fun q7 =>
      if (-2147483648 ≤ q7.1 ∧ q7.1 ≤ 2147483647) then (
      (gm_27 x0 (q7.2.1 (x0 + 2) ((x7 - 1)).toNat) q7.2).bind fun q12 =>
      if (-2147483648 ≤ q12.1 ∧ q12.1 ≤ 2147483647) then (
      if (-9223372036854775808 ≤ (x3 * q7.1) ∧ (x3 * q7.1) ≤ 9223372036854775807) then (
      if (-9223372036854775808 ≤ (q12.1 * x5) ∧ (q12.1 * x5) ≤ 9223372036854775807) then (
      if (x3 * q7.1) ≤ (q12.1 * x5) then (
        gm_29_97 k_10 x0 x1 x2 x7 q12.2) else (
        if 0 ≤ x7 ∧ x7 < 96 then (
        gm_29_33 k_10 n x0 x1 x2 x3 x5 (x7 + (-1)) (gw1 q12.2 (x0 + 2) (x7).toNat (q12.2.1 (x0 + 2) ((x7 - 1)).toNat))) else none)) else none) else none) else none) else none) else none)) else none
theorem gf_29_33 {kf_10 : Nat → Int32 → Int32 → fx_S → Option (fx_S)} {kg_10 : Nat → Int → Int → gx_S → Option (gx_S)} (hk_10 : ∀ (x0 : Nat) (x1 : Int) (yx1 : Int32) (e1 : yx1 = Int32.ofInt x1) (x2 : Int) (yx2 : Int32) (e2 : yx2 = Int32.ofInt x2) (s : gx_S) (σ : fx_S) (es : σ = gx s) (q : gx_S) (g0 : fx_oc x0 2 = true), kg_10 x0 x1 x2 s = some q → kf_10 x0 yx1 yx2 σ = some (gx q)) : ∀ (n : Nat) (x0 : Nat) (x1 : Int) (yx1 : Int32) (e1 : yx1 = Int32.ofInt x1) (x2 : Int) (yx2 : Int32) (e2 : yx2 = Int32.ofInt x2) (x3 : Int) (yx3 : Int64) (e3 : yx3 = Int64.ofInt x3) (x5 : Int) (yx5 : Int64) (e5 : yx5 = Int64.ofInt x5) (x7 : Int) (yx7 : Int32) (e7 : yx7 = Int32.ofInt x7) (s : gx_S) (σ : fx_S) (es : σ = gx s) (q : gx_S) (g0 : fx_oc x0 2 = true), gm_29_33 kg_10 n x0 x1 x2 x3 x5 x7 s = some q → fm_29_33 kf_10 n x0 yx1 yx2 yx3 yx5 yx7 σ = some (gx q) := by
  intro n
  induction n with
  | zero =>
    intro x0 x1 yx1 e1 x2 yx2 e2 x3 yx3 e3 x5 yx5 e5 x7 yx7 e7 s σ es q g0 h
    rw [gm_29_33] at h
    exact fx_no h
  | succ n ih =>
    intro x0 x1 yx1 e1 x2 yx2 e2 x3 yx3 e3 x5 yx5 e5 x7 yx7 e7 s σ es q g0 h
    rw [gm_29_33] at h
    rw [fm_29_33]
    obtain ⟨z1, h⟩ := fx_gd h
    by_cases c2 : x7 ≤ 0
    · rw [if_pos c2] at h
      refine gb_t ((gc_le e7 kg_0 z1 (by decide)).mpr c2) ?_
      exact gf_29_97 hk_10 _ _ _ e1 _ _ e2 _ _ e7 _ _ es _ g0 h
    · rw [if_neg c2] at h
      refine gb_f (fun q => c2 ((gc_le e7 kg_0 z1 (by decide)).mp q)) ?_
      obtain ⟨z5, h⟩ := fx_gd h
      refine gb_bind (gl_ld es (ga_sub e7 kg_1) (ga_2_1 g0) z5) ?_
      obtain ⟨q7, w6, h⟩ := fx_bd h
      refine gb_bind (gf_28 (gr (s.1 (x0 + 2) ((x7 - 1)).toNat)) es w6) ?_
      obtain ⟨z8, h⟩ := fx_gd h
      refine gb_bind (gl_ld (rfl : _ = gx q7.2) (ga_sub e7 kg_1) (ga_2_1 g0) z5) ?_
      obtain ⟨q12, w11, h⟩ := fx_bd h
      refine gb_bind (gf_27 (gr (q7.2.1 (x0 + 2) ((x7 - 1)).toNat)) (rfl : _ = gx q7.2) w11) ?_
      obtain ⟨z13, h⟩ := fx_gd h
      obtain ⟨z14, h⟩ := fx_gd h
      obtain ⟨z15, h⟩ := fx_gd h
      by_cases c16 : (x3 * q7.1) ≤ (q12.1 * x5)
      · rw [if_pos c16] at h
        refine gb_t ((gcl_le (gal_mul e3 (ga_i2l (gr q7.1) z8)) (gal_mul (ga_i2l (gr q12.1) z13) e5) z14 z15).mpr c16) ?_
        exact gf_29_97 hk_10 _ _ _ e1 _ _ e2 _ _ e7 _ _ (rfl : _ = gx q12.2) _ g0 h
      · rw [if_neg c16] at h
        refine gb_f (fun q => c16 ((gcl_le (gal_mul e3 (ga_i2l (gr q7.1) z8)) (gal_mul (ga_i2l (gr q12.1) z13) e5) z14 z15).mp q)) ?_
        refine gb_bind (gl_ld (rfl : _ = gx q12.2) (ga_sub e7 kg_1) (ga_2_1 g0) z5) ?_
        obtain ⟨z21, h⟩ := fx_gd h
        refine gb_bind (gl_st (rfl : _ = gx q12.2) e7 (gr (q12.2.1 (x0 + 2) ((x7 - 1)).toNat)) (ga_2_1 g0) z21) ?_
        exact ih _ _ _ e1 _ _ e2 _ _ e3 _ _ e5 _ _ (ga_add e7 kg_m1) _ _ (rfl : _ = gx (gw1 q12.2 (x0 + 2) (x7).toNat (q12.2.1 (x0 + 2) ((x7 - 1)).toNat))) _ g0 h
def gm_29_10 : Nat → Nat → Int → Int → gx_S → Option (gx_S)
  | 0, _, _, _, _ => none
  | n + 1, x0, x1, x2, s =>
    if (-2147483648 ≤ x2 ∧ x2 ≤ 2147483647) then (
    if (-2147483648 ≤ x1 ∧ x1 ≤ 2147483647) then (
    if x1 ≤ x2 then (
      some s) else (
      (gm_27 x0 x2 s).bind fun q5 =>
      if (-2147483648 ≤ q5.1 ∧ q5.1 ≤ 2147483647) then (
      (gm_28 x0 x2 q5.2).bind fun q8 =>
      if (-2147483648 ≤ q8.1 ∧ q8.1 ≤ 2147483647) then (
      gm_29_33 (gm_29_10 n) 100000 x0 x1 x2 q5.1 q8.1 x2 q8.2) else none) else none)) else none) else none
theorem gf_29_10 : ∀ (n : Nat) (x0 : Nat) (x1 : Int) (yx1 : Int32) (e1 : yx1 = Int32.ofInt x1) (x2 : Int) (yx2 : Int32) (e2 : yx2 = Int32.ofInt x2) (s : gx_S) (σ : fx_S) (es : σ = gx s) (q : gx_S) (g0 : fx_oc x0 2 = true), gm_29_10 n x0 x1 x2 s = some q → fm_29_10 n x0 yx1 yx2 σ = some (gx q) := by
  intro n
  induction n with
  | zero =>
    intro x0 x1 yx1 e1 x2 yx2 e2 s σ es q g0 h
    rw [gm_29_10] at h
    exact fx_no h
  | succ n ih =>
    intro x0 x1 yx1 e1 x2 yx2 e2 s σ es q g0 h
    rw [gm_29_10] at h
    rw [fm_29_10]
    obtain ⟨z1, h⟩ := fx_gd h
    obtain ⟨z2, h⟩ := fx_gd h
    by_cases c3 : x1 ≤ x2
    · rw [if_pos c3] at h
      refine gb_t ((gc_le e1 e2 z2 z1).mpr c3) ?_
      have h := Option.some.inj h
      subst h
      exact gretv es
    · rw [if_neg c3] at h
      refine gb_f (fun q => c3 ((gc_le e1 e2 z2 z1).mp q)) ?_
      obtain ⟨q5, w4, h⟩ := fx_bd h
      refine gb_bind (gf_27 e2 es w4) ?_
      obtain ⟨z6, h⟩ := fx_gd h
      obtain ⟨q8, w7, h⟩ := fx_bd h
      refine gb_bind (gf_28 e2 (rfl : _ = gx q5.2) w7) ?_
      obtain ⟨z9, h⟩ := fx_gd h
      exact gf_29_33 ih 100000 _ _ _ e1 _ _ e2 _ _ (ga_i2l (gr q5.1) z6) _ _ (ga_i2l (gr q8.1) z9) _ _ e2 _ _ (rfl : _ = gx q8.2) _ g0 h
def gm_29 (x0 : Nat) (s : gx_S) : Option (gx_S) :=
  if fx_oc x0 2 = true then (
  (gm_58 1 s).bind fun q46 =>
  gm_29_10 100000 x0 q46.1 0 q46.2) else none
theorem gf_29 {x0 : Nat} {s : gx_S} {σ : fx_S} (es : σ = gx s) {q : gx_S} (h : gm_29 x0 s = some q) : fm_29 x0 σ = some (gx q) := by
  unfold gm_29 at h
  unfold fm_29
  obtain ⟨gg, h⟩ := fx_gd h
  refine gb_t gg ?_
  have g0 := gg
  obtain ⟨q46, w45, h⟩ := fx_bd h
  refine gb_bind (gf_58 es w45) ?_
  exact gf_29_10 100000 _ _ _ (gr q46.1) _ _ kg_0 _ _ (rfl : _ = gx q46.2) _ g0 h

/-! ZoneShares$History.keep(LZoneShares$State;)V -/
def gm_31 (x1 : Nat) (s : gx_S) : Option (gx_S) :=
  if fx_oc x1 6 = true then (
  if 0 ≤ (s.1 16 1) ∧ (s.1 16 1) < 8 then (
  (some (fx_rf 17 ((s.1 16 1)).toNat)).bind fun v9 =>
  (gm_54 v9 x1 s).bind fun q14 =>
  if 0 ≤ ((q14.1 16 1) + 1) ∧ ((q14.1 16 1) + 1) ≤ 2147483647 then (
  if (-2147483648 ≤ (((gw1 q14 16 1 (((q14.1 16 1) + 1) % 8)).1 16 2) + 1) ∧ (((gw1 q14 16 1 (((q14.1 16 1) + 1) % 8)).1 16 2) + 1) ≤ 2147483647) then (
  some (gw1 (gw1 q14 16 1 (((q14.1 16 1) + 1) % 8)) 16 2 (if (((gw1 q14 16 1 (((q14.1 16 1) + 1) % 8)).1 16 2) + 1) < 8 then (((gw1 q14 16 1 (((q14.1 16 1) + 1) % 8)).1 16 2) + 1) else 8))) else none) else none) else none) else none
theorem gf_31 {x1 : Nat} {s : gx_S} {σ : fx_S} (es : σ = gx s) {q : gx_S} (h : gm_31 x1 s = some q) : fm_31 x1 σ = some (gx q) := by
  unfold gm_31 at h
  unfold fm_31
  obtain ⟨gg, h⟩ := fx_gd h
  refine gb_t gg ?_
  have g1 := gg
  obtain ⟨z12, h⟩ := fx_gd h
  obtain ⟨v9, w10, h⟩ := fx_bd h
  have g11 := fa_17 ((gl_ldr (t := 5) (gf1 es 16 1) ga_17 z12).trans w10)
  refine gb_bind ((gl_ldr (gf1 es 16 1) ga_17 z12).trans w10) ?_
  obtain ⟨q14, w13, h⟩ := fx_bd h
  refine gb_bind (gf_54 es w13) ?_
  obtain ⟨z15, h⟩ := fx_gd h
  obtain ⟨z16, h⟩ := fx_gd h
  have h := Option.some.inj h
  subst h
  exact gretv (gx_w1 (gx_w1 (rfl : _ = gx q14) (ga_rem (ga_add (gf1 (rfl : _ = gx q14) 16 1) kg_1) kg_8 ⟨z15.1, z15.2, by decide, by decide⟩)) (ga_lt_ite kg_8 (ga_add (gf1 (gx_w1 (rfl : _ = gx q14) (ga_rem (ga_add (gf1 (rfl : _ = gx q14) 16 1) kg_1) kg_8 ⟨z15.1, z15.2, by decide, by decide⟩)) 16 2) kg_1) (by decide) z16))

/-! ZoneShares$History.bringBack(LZoneShares$State;)V -/
def gm_32 (x1 : Nat) (s : gx_S) : Option (gx_S) :=
  if fx_oc x1 6 = true then (
  if 0 ≤ (((s.1 16 1) + 8) - 1) ∧ (((s.1 16 1) + 8) - 1) ≤ 2147483647 then (
  if 0 ≤ ((gw1 s 16 1 ((((s.1 16 1) + 8) - 1) % 8)).1 16 1) ∧ ((gw1 s 16 1 ((((s.1 16 1) + 8) - 1) % 8)).1 16 1) < 8 then (
  (some (fx_rf 17 (((gw1 s 16 1 ((((s.1 16 1) + 8) - 1) % 8)).1 16 1)).toNat)).bind fun v9 =>
  (gm_54 x1 v9 (gw1 s 16 1 ((((s.1 16 1) + 8) - 1) % 8))).bind fun q14 =>
  some (gw1 q14 16 2 ((q14.1 16 2) - 1))) else none) else none) else none
theorem gf_32 {x1 : Nat} {s : gx_S} {σ : fx_S} (es : σ = gx s) {q : gx_S} (h : gm_32 x1 s = some q) : fm_32 x1 σ = some (gx q) := by
  unfold gm_32 at h
  unfold fm_32
  obtain ⟨gg, h⟩ := fx_gd h
  refine gb_t gg ?_
  have g1 := gg
  obtain ⟨z8, h⟩ := fx_gd h
  obtain ⟨z12, h⟩ := fx_gd h
  obtain ⟨v9, w10, h⟩ := fx_bd h
  have g11 := fa_17 ((gl_ldr (t := 5) (gf1 (gx_w1 es (ga_rem (ga_sub (ga_add (gf1 es 16 1) kg_8) kg_1) kg_8 ⟨z8.1, z8.2, by decide, by decide⟩)) 16 1) ga_17 z12).trans w10)
  refine gb_bind ((gl_ldr (gf1 (gx_w1 es (ga_rem (ga_sub (ga_add (gf1 es 16 1) kg_8) kg_1) kg_8 ⟨z8.1, z8.2, by decide, by decide⟩)) 16 1) ga_17 z12).trans w10) ?_
  obtain ⟨q14, w13, h⟩ := fx_bd h
  refine gb_bind (gf_54 (gx_w1 es (ga_rem (ga_sub (ga_add (gf1 es 16 1) kg_8) kg_1) kg_8 ⟨z8.1, z8.2, by decide, by decide⟩)) w13) ?_
  have h := Option.some.inj h
  subst h
  exact gretv (gx_w1 (rfl : _ = gx q14) (ga_sub (gf1 (rfl : _ = gx q14) 16 2) kg_1))

/-! ZoneShares$LayerText.read(LZoneShares$Tape;ILZoneShares$State;)I -/
def gm_34_153 (k_74 : Int → Int → gx_S → Option (Int × gx_S)) (x2 : Int) (x4 : Int) (s : gx_S) : Option (Int × gx_S) :=
  k_74 x2 (x4 + 1) s
theorem gf_34_153 {kf_74 : Int32 → Int32 → fx_S → Option (Int32 × fx_S)} {kg_74 : Int → Int → gx_S → Option (Int × gx_S)} (hk_74 : ∀ (x2 : Int) (yx2 : Int32) (e2 : yx2 = Int32.ofInt x2) (x4 : Int) (yx4 : Int32) (e4 : yx4 = Int32.ofInt x4) (s : gx_S) (σ : fx_S) (es : σ = gx s) (q : Int × gx_S), kg_74 x2 x4 s = some q → kf_74 yx2 yx4 σ = some (Int32.ofInt q.1, gx q.2)) (x2 : Int) (yx2 : Int32) (e2 : yx2 = Int32.ofInt x2) (x4 : Int) (yx4 : Int32) (e4 : yx4 = Int32.ofInt x4) (s : gx_S) (σ : fx_S) (es : σ = gx s) (q : Int × gx_S) (h : gm_34_153 kg_74 x2 x4 s = some q) : fm_34_153 kf_74 yx2 yx4 σ = some (Int32.ofInt q.1, gx q.2) := by
  unfold gm_34_153 at h
  unfold fm_34_153
  exact hk_74 _ _ e2 _ _ (ga_add e4 kg_1) _ _ es _ h
def gm_34_118 (k_74 : Int → Int → gx_S → Option (Int × gx_S)) (x2 : Int) (x4 : Int) (x6 : Int) (s0 : Int) (s : gx_S) : Option (Int × gx_S) :=
  if (-2147483648 ≤ s0 ∧ s0 ≤ 2147483647) then (
  if s0 = 0 then (
    if (-2147483648 ≤ x6 ∧ x6 ≤ 2147483647) then (
    if ¬ x6 = (-1) then (
      (gm_39 x6 s).bind fun q6 =>
      gm_34_153 k_74 x2 x4 q6) else (
      (gm_38 s).bind fun q8 =>
      gm_34_153 k_74 x2 x4 q8)) else none) else (
    some (((8 * x4) + s0), s))) else none
theorem gf_34_118 {kf_74 : Int32 → Int32 → fx_S → Option (Int32 × fx_S)} {kg_74 : Int → Int → gx_S → Option (Int × gx_S)} (hk_74 : ∀ (x2 : Int) (yx2 : Int32) (e2 : yx2 = Int32.ofInt x2) (x4 : Int) (yx4 : Int32) (e4 : yx4 = Int32.ofInt x4) (s : gx_S) (σ : fx_S) (es : σ = gx s) (q : Int × gx_S), kg_74 x2 x4 s = some q → kf_74 yx2 yx4 σ = some (Int32.ofInt q.1, gx q.2)) (x2 : Int) (yx2 : Int32) (e2 : yx2 = Int32.ofInt x2) (x4 : Int) (yx4 : Int32) (e4 : yx4 = Int32.ofInt x4) (x6 : Int) (yx6 : Int32) (e6 : yx6 = Int32.ofInt x6) (s0 : Int) (ys0 : Int32) (es0 : ys0 = Int32.ofInt s0) (s : gx_S) (σ : fx_S) (es : σ = gx s) (q : Int × gx_S) (h : gm_34_118 kg_74 x2 x4 x6 s0 s = some q) : fm_34_118 kf_74 yx2 yx4 yx6 ys0 σ = some (Int32.ofInt q.1, gx q.2) := by
  unfold gm_34_118 at h
  unfold fm_34_118
  obtain ⟨z1, h⟩ := fx_gd h
  by_cases c2 : s0 = 0
  · rw [if_pos c2] at h
    refine gb_t ((gc_eq es0 kg_0 z1 (by decide)).mpr c2) ?_
    obtain ⟨z3, h⟩ := fx_gd h
    by_cases c4 : ¬ x6 = (-1)
    · rw [if_pos c4] at h
      refine gb_t ((gc_ne e6 kg_m1 z3 (by decide)).mpr c4) ?_
      obtain ⟨q6, w5, h⟩ := fx_bd h
      refine gb_bind (gf_39 e6 es w5) ?_
      exact gf_34_153 hk_74 _ _ e2 _ _ e4 _ _ (rfl : _ = gx q6) _ h
    · rw [if_neg c4] at h
      refine gb_f (fun q => c4 ((gc_ne e6 kg_m1 z3 (by decide)).mp q)) ?_
      obtain ⟨q8, w7, h⟩ := fx_bd h
      refine gb_bind (gf_38 es w7) ?_
      exact gf_34_153 hk_74 _ _ e2 _ _ e4 _ _ (rfl : _ = gx q8) _ h
  · rw [if_neg c2] at h
    refine gb_f (fun q => c2 ((gc_eq es0 kg_0 z1 (by decide)).mp q)) ?_
    have h := Option.some.inj h
    subst h
    exact gret (ga_add (ga_mul kg_8 e4) es0) es
def gm_34_74 : Nat → Int → Int → gx_S → Option (Int × gx_S)
  | 0, _, _, _ => none
  | n + 1, x2, x4, s =>
    if (-2147483648 ≤ x4 ∧ x4 ≤ 2147483647) then (
    if (-2147483648 ≤ (s.1 14 1) ∧ (s.1 14 1) ≤ 2147483647) then (
    if (s.1 14 1) < x4 then (
      some ((-1), s)) else (
      (gm_83 x4 s).bind fun q5 =>
      (gm_35 q5.1 x2 q5.2).bind fun q7 =>
      if (-2147483648 ≤ q7.1 ∧ q7.1 ≤ 2147483647) then (
      if ¬ q7.1 = (-1) then (
        (gm_36 q7.2).bind fun q11 =>
        gm_34_118 (gm_34_74 n) x2 x4 q7.1 q11.1 q11.2) else (
        (gm_37 q5.1 q7.2).bind fun q13 =>
        gm_34_118 (gm_34_74 n) x2 x4 q7.1 q13.1 q13.2)) else none)) else none) else none
theorem gf_34_74 : ∀ (n : Nat) (x2 : Int) (yx2 : Int32) (e2 : yx2 = Int32.ofInt x2) (x4 : Int) (yx4 : Int32) (e4 : yx4 = Int32.ofInt x4) (s : gx_S) (σ : fx_S) (es : σ = gx s) (q : Int × gx_S), gm_34_74 n x2 x4 s = some q → fm_34_74 n yx2 yx4 σ = some (Int32.ofInt q.1, gx q.2) := by
  intro n
  induction n with
  | zero =>
    intro x2 yx2 e2 x4 yx4 e4 s σ es q  h
    rw [gm_34_74] at h
    exact fx_no h
  | succ n ih =>
    intro x2 yx2 e2 x4 yx4 e4 s σ es q  h
    rw [gm_34_74] at h
    rw [fm_34_74]
    obtain ⟨z1, h⟩ := fx_gd h
    obtain ⟨z2, h⟩ := fx_gd h
    by_cases c3 : (s.1 14 1) < x4
    · rw [if_pos c3] at h
      refine gb_t ((gc_lt (gf1 es 14 1) e4 z2 z1).mpr c3) ?_
      have h := Option.some.inj h
      subst h
      exact gret kg_m1 es
    · rw [if_neg c3] at h
      refine gb_f (fun q => c3 ((gc_lt (gf1 es 14 1) e4 z2 z1).mp q)) ?_
      obtain ⟨q5, w4, h⟩ := fx_bd h
      refine gb_bind (gf_83 e4 es w4) ?_
      obtain ⟨q7, w6, h⟩ := fx_bd h
      refine gb_bind (gf_35 (gr q5.1) e2 (rfl : _ = gx q5.2) w6) ?_
      obtain ⟨z8, h⟩ := fx_gd h
      by_cases c9 : ¬ q7.1 = (-1)
      · rw [if_pos c9] at h
        refine gb_t ((gc_ne (gr q7.1) kg_m1 z8 (by decide)).mpr c9) ?_
        obtain ⟨q11, w10, h⟩ := fx_bd h
        refine gb_bind (gf_36 (rfl : _ = gx q7.2) w10) ?_
        exact gf_34_118 ih _ _ e2 _ _ e4 _ _ (gr q7.1) _ _ (gr q11.1) _ _ (rfl : _ = gx q11.2) _ h
      · rw [if_neg c9] at h
        refine gb_f (fun q => c9 ((gc_ne (gr q7.1) kg_m1 z8 (by decide)).mp q)) ?_
        obtain ⟨q13, w12, h⟩ := fx_bd h
        refine gb_bind (gf_37 (gr q5.1) (rfl : _ = gx q7.2) w12) ?_
        exact gf_34_118 ih _ _ e2 _ _ e4 _ _ (gr q7.1) _ _ (gr q13.1) _ _ (rfl : _ = gx q13.2) _ h
def gm_34_58 (x2 : Int) (s1 : Int) (s : gx_S) : Option (Int × gx_S) :=
  gm_34_74 100000 x2 0 (gw1 (gw1 (gw1 s 58 4 s1) 58 1 0) 58 3 0)
theorem gf_34_58 (x2 : Int) (yx2 : Int32) (e2 : yx2 = Int32.ofInt x2) (s1 : Int) (ys1 : Int32) (es1 : ys1 = Int32.ofInt s1) (s : gx_S) (σ : fx_S) (es : σ = gx s) (q : Int × gx_S) (h : gm_34_58 x2 s1 s = some q) : fm_34_58 yx2 ys1 σ = some (Int32.ofInt q.1, gx q.2) := by
  unfold gm_34_58 at h
  unfold fm_34_58
  exact gf_34_74 100000 _ _ e2 _ _ kg_0 _ _ (gx_w1 (gx_w1 (gx_w1 es es1) kg_0) kg_0) _ h
def gm_34_38 (x2 : Int) (x3 : Nat) (s1 : Int) (s : gx_S) : Option (Int × gx_S) :=
  if (-2147483648 ≤ ((gw1 s 58 2 s1).1 58 6) ∧ ((gw1 s 58 2 s1).1 58 6) ≤ 2147483647) then (
  if ((gw1 s 58 2 s1).1 58 6) = 0 then (
    gm_34_58 x2 8 (gw1 s 58 2 s1)) else (
    gm_34_58 x2 ((gw1 s 58 2 s1).1 x3 4) (gw1 s 58 2 s1))) else none
theorem gf_34_38 (x2 : Int) (yx2 : Int32) (e2 : yx2 = Int32.ofInt x2) (x3 : Nat) (s1 : Int) (ys1 : Int32) (es1 : ys1 = Int32.ofInt s1) (s : gx_S) (σ : fx_S) (es : σ = gx s) (q : Int × gx_S) (g3 : fx_oc x3 6 = true) (h : gm_34_38 x2 x3 s1 s = some q) : fm_34_38 yx2 x3 ys1 σ = some (Int32.ofInt q.1, gx q.2) := by
  unfold gm_34_38 at h
  unfold fm_34_38
  obtain ⟨z1, h⟩ := fx_gd h
  by_cases c2 : ((gw1 s 58 2 s1).1 58 6) = 0
  · rw [if_pos c2] at h
    refine gb_t ((gc_eq (gf1 (gx_w1 es es1) 58 6) kg_0 z1 (by decide)).mpr c2) ?_
    exact gf_34_58 _ _ e2 _ _ kg_8 _ _ (gx_w1 es es1) _ h
  · rw [if_neg c2] at h
    refine gb_f (fun q => c2 ((gc_eq (gf1 (gx_w1 es es1) 58 6) kg_0 z1 (by decide)).mp q)) ?_
    exact gf_34_58 _ _ e2 _ _ (gf1 (gx_w1 es es1) x3 4) _ _ (gx_w1 es es1) _ h
def gm_34_10 (x2 : Int) (x3 : Nat) (s1 : Int) (s : gx_S) : Option (Int × gx_S) :=
  if s1 = 0 ∨ s1 = 1 then (
  if ((gw1 s 58 6 s1).1 58 6) = 0 ∨ ((gw1 s 58 6 s1).1 58 6) = 1 then (
  if (-2147483648 ≤ ((gw1 (gw1 s 58 6 s1) 58 5 ((gw1 s 58 6 s1).1 58 6)).1 58 6) ∧ ((gw1 (gw1 s 58 6 s1) 58 5 ((gw1 s 58 6 s1).1 58 6)).1 58 6) ≤ 2147483647) then (
  if ((gw1 (gw1 s 58 6 s1) 58 5 ((gw1 s 58 6 s1).1 58 6)).1 58 6) = 0 then (
    gm_34_38 x2 x3 12 (gw1 (gw1 s 58 6 s1) 58 5 ((gw1 s 58 6 s1).1 58 6))) else (
    gm_34_38 x2 x3 ((gw1 (gw1 s 58 6 s1) 58 5 ((gw1 s 58 6 s1).1 58 6)).1 x3 5) (gw1 (gw1 s 58 6 s1) 58 5 ((gw1 s 58 6 s1).1 58 6)))) else none) else none) else none
theorem gf_34_10 (x2 : Int) (yx2 : Int32) (e2 : yx2 = Int32.ofInt x2) (x3 : Nat) (s1 : Int) (ys1 : Int32) (es1 : ys1 = Int32.ofInt s1) (s : gx_S) (σ : fx_S) (es : σ = gx s) (q : Int × gx_S) (g3 : fx_oc x3 6 = true) (h : gm_34_10 x2 x3 s1 s = some q) : fm_34_10 yx2 x3 ys1 σ = some (Int32.ofInt q.1, gx q.2) := by
  unfold gm_34_10 at h
  unfold fm_34_10
  obtain ⟨z2, h⟩ := fx_gd h
  refine gb_t (gc_01 es1 z2) ?_
  obtain ⟨z4, h⟩ := fx_gd h
  refine gb_t (gc_01 (gf1 (gx_w1 es es1) 58 6) z4) ?_
  obtain ⟨z5, h⟩ := fx_gd h
  by_cases c6 : ((gw1 (gw1 s 58 6 s1) 58 5 ((gw1 s 58 6 s1).1 58 6)).1 58 6) = 0
  · rw [if_pos c6] at h
    refine gb_t ((gc_eq (gf1 (gx_w1 (gx_w1 es es1) (gf1 (gx_w1 es es1) 58 6)) 58 6) kg_0 z5 (by decide)).mpr c6) ?_
    exact gf_34_38 _ _ e2 _ _ _ kg_12 _ _ (gx_w1 (gx_w1 es es1) (gf1 (gx_w1 es es1) 58 6)) _ g3 h
  · rw [if_neg c6] at h
    refine gb_f (fun q => c6 ((gc_eq (gf1 (gx_w1 (gx_w1 es es1) (gf1 (gx_w1 es es1) 58 6)) 58 6) kg_0 z5 (by decide)).mp q)) ?_
    exact gf_34_38 _ _ e2 _ _ _ (gf1 (gx_w1 (gx_w1 es es1) (gf1 (gx_w1 es es1) 58 6)) x3 5) _ _ (gx_w1 (gx_w1 es es1) (gf1 (gx_w1 es es1) 58 6)) _ g3 h
def gm_34 (x2 : Int) (x3 : Nat) (s : gx_S) : Option (Int × gx_S) :=
  if fx_oc x3 6 = true then (
  if (-2147483648 ≤ x2 ∧ x2 ≤ 2147483647) then (
  if x2 = 0 then (
    gm_34_10 x2 x3 0 s) else (
    gm_34_10 x2 x3 1 s)) else none) else none
theorem gf_34 {x2 : Int} {yx2 : Int32} (e2 : yx2 = Int32.ofInt x2) {x3 : Nat} {s : gx_S} {σ : fx_S} (es : σ = gx s) {q : Int × gx_S} (h : gm_34 x2 x3 s = some q) : fm_34 yx2 x3 σ = some (Int32.ofInt q.1, gx q.2) := by
  unfold gm_34 at h
  unfold fm_34
  obtain ⟨gg, h⟩ := fx_gd h
  refine gb_t gg ?_
  have g3 := gg
  obtain ⟨z53, h⟩ := fx_gd h
  by_cases c54 : x2 = 0
  · rw [if_pos c54] at h
    refine gb_t ((gc_eq e2 kg_0 z53 (by decide)).mpr c54) ?_
    exact gf_34_10 _ _ e2 _ _ _ kg_0 _ _ es _ g3 h
  · rw [if_neg c54] at h
    refine gb_f (fun q => c54 ((gc_eq e2 kg_0 z53 (by decide)).mp q)) ?_
    exact gf_34_10 _ _ e2 _ _ _ kg_1 _ _ es _ g3 h

/-! ZoneShares$Rounder.findWay(II)Z -/
def gm_46_92 (x2 : Int) (s : gx_S) : Option (Bool × gx_S) :=
  if 0 ≤ x2 ∧ x2 < 18 then (
  if (-2147483648 ≤ (s.1 12 (x2).toNat) ∧ (s.1 12 (x2).toNat) ≤ 2147483647) then (
  if (s.1 12 (x2).toNat) = (-1) then (
    some (false, s)) else (
    some (true, s))) else none) else none
theorem gf_46_92 (x2 : Int) (yx2 : Int32) (e2 : yx2 = Int32.ofInt x2) (s : gx_S) (σ : fx_S) (es : σ = gx s) (q : Bool × gx_S) (h : gm_46_92 x2 s = some q) : fm_46_92 yx2 σ = some (q.1, gx q.2) := by
  unfold gm_46_92 at h
  unfold fm_46_92
  obtain ⟨z3, h⟩ := fx_gd h
  refine gb_bind (gl_ld es e2 ga_12 z3) ?_
  obtain ⟨z4, h⟩ := fx_gd h
  by_cases c5 : (s.1 12 (x2).toNat) = (-1)
  · rw [if_pos c5] at h
    refine gb_t ((gc_eq (gr (s.1 12 (x2).toNat)) kg_m1 z4 (by decide)).mpr c5) ?_
    have h := Option.some.inj h
    subst h
    exact gretb es
  · rw [if_neg c5] at h
    refine gb_f (fun q => c5 ((gc_eq (gr (s.1 12 (x2).toNat)) kg_m1 z4 (by decide)).mp q)) ?_
    have h := Option.some.inj h
    subst h
    exact gretb es
def gm_46_86 (k_21 : Int → Int → gx_S → Option (Bool × gx_S)) (x2 : Int) (x3 : Int) (s : gx_S) : Option (Bool × gx_S) :=
  k_21 x2 (x3 + 1) s
theorem gf_46_86 {kf_21 : Int32 → Int32 → fx_S → Option (Bool × fx_S)} {kg_21 : Int → Int → gx_S → Option (Bool × gx_S)} (hk_21 : ∀ (x2 : Int) (yx2 : Int32) (e2 : yx2 = Int32.ofInt x2) (x3 : Int) (yx3 : Int32) (e3 : yx3 = Int32.ofInt x3) (s : gx_S) (σ : fx_S) (es : σ = gx s) (q : Bool × gx_S), kg_21 x2 x3 s = some q → kf_21 yx2 yx3 σ = some (q.1, gx q.2)) (x2 : Int) (yx2 : Int32) (e2 : yx2 = Int32.ofInt x2) (x3 : Int) (yx3 : Int32) (e3 : yx3 = Int32.ofInt x3) (s : gx_S) (σ : fx_S) (es : σ = gx s) (q : Bool × gx_S) (h : gm_46_86 kg_21 x2 x3 s = some q) : fm_46_86 kf_21 yx2 yx3 σ = some (q.1, gx q.2) := by
  unfold gm_46_86 at h
  unfold fm_46_86
  exact hk_21 _ _ e2 _ _ (ga_add e3 kg_1) _ _ es _ h
def gm_46_21 : Nat → Int → Int → gx_S → Option (Bool × gx_S)
  | 0, _, _, _ => none
  | n + 1, x2, x3, s =>
    if (-2147483648 ≤ x3 ∧ x3 ≤ 2147483647) then (
    if (-2147483648 ≤ (s.1 6 7) ∧ (s.1 6 7) ≤ 2147483647) then (
    if (s.1 6 7) ≤ x3 then (
      gm_46_92 x2 s) else (
      if 0 ≤ x2 ∧ x2 < 18 then (
      if (-2147483648 ≤ (s.1 12 (x2).toNat) ∧ (s.1 12 (x2).toNat) ≤ 2147483647) then (
      if ¬ (s.1 12 (x2).toNat) = (-1) then (
        gm_46_92 x2 s) else (
        if 0 ≤ x3 ∧ x3 < 18 then (
        if (-2147483648 ≤ (s.1 13 (x3).toNat) ∧ (s.1 13 (x3).toNat) ≤ 2147483647) then (
        if 8 ≤ (s.1 13 (x3).toNat) then (
          if 17 ≤ (s.1 13 (x3).toNat) then (
            (gm_50 s).bind fun q16 =>
            gm_46_86 (gm_46_21 n) x2 x3 q16) else (
            (gm_49 ((s.1 13 (x3).toNat) - 8) s).bind fun q18 =>
            gm_46_86 (gm_46_21 n) x2 x3 q18)) else (
          (gm_48 (s.1 13 (x3).toNat) s).bind fun q20 =>
          gm_46_86 (gm_46_21 n) x2 x3 q20)) else none) else none)) else none) else none)) else none) else none
theorem gf_46_21 : ∀ (n : Nat) (x2 : Int) (yx2 : Int32) (e2 : yx2 = Int32.ofInt x2) (x3 : Int) (yx3 : Int32) (e3 : yx3 = Int32.ofInt x3) (s : gx_S) (σ : fx_S) (es : σ = gx s) (q : Bool × gx_S), gm_46_21 n x2 x3 s = some q → fm_46_21 n yx2 yx3 σ = some (q.1, gx q.2) := by
  intro n
  induction n with
  | zero =>
    intro x2 yx2 e2 x3 yx3 e3 s σ es q  h
    rw [gm_46_21] at h
    exact fx_no h
  | succ n ih =>
    intro x2 yx2 e2 x3 yx3 e3 s σ es q  h
    rw [gm_46_21] at h
    rw [fm_46_21]
    obtain ⟨z1, h⟩ := fx_gd h
    obtain ⟨z2, h⟩ := fx_gd h
    by_cases c3 : (s.1 6 7) ≤ x3
    · rw [if_pos c3] at h
      refine gb_t ((gc_le (gf1 es 6 7) e3 z2 z1).mpr c3) ?_
      exact gf_46_92 _ _ e2 _ _ es _ h
    · rw [if_neg c3] at h
      refine gb_f (fun q => c3 ((gc_le (gf1 es 6 7) e3 z2 z1).mp q)) ?_
      obtain ⟨z6, h⟩ := fx_gd h
      refine gb_bind (gl_ld es e2 ga_12 z6) ?_
      obtain ⟨z7, h⟩ := fx_gd h
      by_cases c8 : ¬ (s.1 12 (x2).toNat) = (-1)
      · rw [if_pos c8] at h
        refine gb_t ((gc_ne (gr (s.1 12 (x2).toNat)) kg_m1 z7 (by decide)).mpr c8) ?_
        exact gf_46_92 _ _ e2 _ _ es _ h
      · rw [if_neg c8] at h
        refine gb_f (fun q => c8 ((gc_ne (gr (s.1 12 (x2).toNat)) kg_m1 z7 (by decide)).mp q)) ?_
        obtain ⟨z11, h⟩ := fx_gd h
        refine gb_bind (gl_ld es e3 ga_13 z11) ?_
        obtain ⟨z12, h⟩ := fx_gd h
        by_cases c13 : 8 ≤ (s.1 13 (x3).toNat)
        · rw [if_pos c13] at h
          refine gb_t ((gc_le kg_8 (gr (s.1 13 (x3).toNat)) (by decide) z12).mpr c13) ?_
          by_cases c14 : 17 ≤ (s.1 13 (x3).toNat)
          · rw [if_pos c14] at h
            refine gb_t ((gc_le kg_17 (gr (s.1 13 (x3).toNat)) (by decide) z12).mpr c14) ?_
            obtain ⟨q16, w15, h⟩ := fx_bd h
            refine gb_bind (gf_50 es w15) ?_
            exact gf_46_86 ih _ _ e2 _ _ e3 _ _ (rfl : _ = gx q16) _ h
          · rw [if_neg c14] at h
            refine gb_f (fun q => c14 ((gc_le kg_17 (gr (s.1 13 (x3).toNat)) (by decide) z12).mp q)) ?_
            obtain ⟨q18, w17, h⟩ := fx_bd h
            refine gb_bind (gf_49 (ga_sub (gr (s.1 13 (x3).toNat)) kg_8) es w17) ?_
            exact gf_46_86 ih _ _ e2 _ _ e3 _ _ (rfl : _ = gx q18) _ h
        · rw [if_neg c13] at h
          refine gb_f (fun q => c13 ((gc_le kg_8 (gr (s.1 13 (x3).toNat)) (by decide) z12).mp q)) ?_
          obtain ⟨q20, w19, h⟩ := fx_bd h
          refine gb_bind (gf_48 (gr (s.1 13 (x3).toNat)) es w19) ?_
          exact gf_46_86 ih _ _ e2 _ _ e3 _ _ (rfl : _ = gx q20) _ h
def gm_46 (x1 : Int) (x2 : Int) (s : gx_S) : Option (Bool × gx_S) :=
  (gm_235 12 (-1) s).bind fun q56 =>
  (gm_47 x1 x1 (gw1 q56 6 7 0)).bind fun q58 =>
  gm_46_21 100000 x2 0 q58
theorem gf_46 {x1 : Int} {yx1 : Int32} (e1 : yx1 = Int32.ofInt x1) {x2 : Int} {yx2 : Int32} (e2 : yx2 = Int32.ofInt x2) {s : gx_S} {σ : fx_S} (es : σ = gx s) {q : Bool × gx_S} (h : gm_46 x1 x2 s = some q) : fm_46 yx1 yx2 σ = some (q.1, gx q.2) := by
  unfold gm_46 at h
  unfold fm_46
  obtain ⟨q56, w55, h⟩ := fx_bd h
  refine gb_bind (gf_235 kg_m1 es w55) ?_
  obtain ⟨q58, w57, h⟩ := fx_bd h
  refine gb_bind (gf_47 e1 e1 (gx_w1 (rfl : _ = gx q56) kg_0) w57) ?_
  exact gf_46_21 100000 _ _ e2 _ _ kg_0 _ _ (rfl : _ = gx q58) _ h

/-! ZoneShares$Rounder.turnWay(II)V -/
def gm_51_5 : Nat → Int → Int → Int → gx_S → Option (gx_S)
  | 0, _, _, _, _ => none
  | n + 1, x1, x3, x4, s =>
    if (-2147483648 ≤ x4 ∧ x4 ≤ 2147483647) then (
    if 18 ≤ x4 then (
      some s) else (
      if (-2147483648 ≤ x3 ∧ x3 ≤ 2147483647) then (
      if (-2147483648 ≤ x1 ∧ x1 ≤ 2147483647) then (
      if x3 = x1 then (
        some s) else (
        if 0 ≤ x3 ∧ x3 < 18 then (
        (gm_52 (s.1 12 (x3).toNat) x3 s).bind fun q10 =>
        gm_51_5 n x1 (q10.1 12 (x3).toNat) (x4 + 1) q10) else none)) else none) else none)) else none
theorem gf_51_5 : ∀ (n : Nat) (x1 : Int) (yx1 : Int32) (e1 : yx1 = Int32.ofInt x1) (x3 : Int) (yx3 : Int32) (e3 : yx3 = Int32.ofInt x3) (x4 : Int) (yx4 : Int32) (e4 : yx4 = Int32.ofInt x4) (s : gx_S) (σ : fx_S) (es : σ = gx s) (q : gx_S), gm_51_5 n x1 x3 x4 s = some q → fm_51_5 n yx1 yx3 yx4 σ = some (gx q) := by
  intro n
  induction n with
  | zero =>
    intro x1 yx1 e1 x3 yx3 e3 x4 yx4 e4 s σ es q  h
    rw [gm_51_5] at h
    exact fx_no h
  | succ n ih =>
    intro x1 yx1 e1 x3 yx3 e3 x4 yx4 e4 s σ es q  h
    rw [gm_51_5] at h
    rw [fm_51_5]
    obtain ⟨z1, h⟩ := fx_gd h
    by_cases c2 : 18 ≤ x4
    · rw [if_pos c2] at h
      refine gb_t ((gc_le kg_18 e4 (by decide) z1).mpr c2) ?_
      have h := Option.some.inj h
      subst h
      exact gretv es
    · rw [if_neg c2] at h
      refine gb_f (fun q => c2 ((gc_le kg_18 e4 (by decide) z1).mp q)) ?_
      obtain ⟨z3, h⟩ := fx_gd h
      obtain ⟨z4, h⟩ := fx_gd h
      by_cases c5 : x3 = x1
      · rw [if_pos c5] at h
        refine gb_t ((gc_eq e3 e1 z3 z4).mpr c5) ?_
        have h := Option.some.inj h
        subst h
        exact gretv es
      · rw [if_neg c5] at h
        refine gb_f (fun q => c5 ((gc_eq e3 e1 z3 z4).mp q)) ?_
        obtain ⟨z8, h⟩ := fx_gd h
        refine gb_bind (gl_ld es e3 ga_12 z8) ?_
        obtain ⟨q10, w9, h⟩ := fx_bd h
        refine gb_bind (gf_52 (gr (s.1 12 (x3).toNat)) e3 es w9) ?_
        refine gb_bind (gl_ld (rfl : _ = gx q10) e3 ga_12 z8) ?_
        exact ih _ _ e1 _ _ (gr (q10.1 12 (x3).toNat)) _ _ (ga_add e4 kg_1) _ _ (rfl : _ = gx q10) _ h
def gm_51 (x1 : Int) (x2 : Int) (s : gx_S) : Option (gx_S) :=
  gm_51_5 100000 x1 x2 0 s
theorem gf_51 {x1 : Int} {yx1 : Int32} (e1 : yx1 = Int32.ofInt x1) {x2 : Int} {yx2 : Int32} (e2 : yx2 = Int32.ofInt x2) {s : gx_S} {σ : fx_S} (es : σ = gx s) {q : gx_S} (h : gm_51 x1 x2 s = some q) : fm_51 yx1 yx2 σ = some (gx q) := by
  unfold gm_51 at h
  unfold fm_51
  exact gf_51_5 100000 _ _ e1 _ _ e2 _ _ kg_0 _ _ es _ h

/-! ZoneShares$Table.clear()V -/
def gm_68 (x0 : Nat) (s : gx_S) : Option (gx_S) :=
  if fx_oc x0 7 = true then (
  (gm_235 (x0 + 1) 0 s).bind fun q8 =>
  (gm_235 (x0 + 4) 0 q8).bind fun q10 =>
  (gm_235 (x0 + 5) 0 q10).bind fun q12 =>
  some q12) else none
theorem gf_68 {x0 : Nat} {s : gx_S} {σ : fx_S} (es : σ = gx s) {q : gx_S} (h : gm_68 x0 s = some q) : fm_68 x0 σ = some (gx q) := by
  unfold gm_68 at h
  unfold fm_68
  obtain ⟨gg, h⟩ := fx_gd h
  refine gb_t gg ?_
  have g0 := gg
  obtain ⟨q8, w7, h⟩ := fx_bd h
  refine gb_bind (gf_235 kg_0 es w7) ?_
  obtain ⟨q10, w9, h⟩ := fx_bd h
  refine gb_bind (gf_235 kg_0 (rfl : _ = gx q8) w9) ?_
  obtain ⟨q12, w11, h⟩ := fx_bd h
  refine gb_bind (gf_235 kg_0 (rfl : _ = gx q10) w11) ?_
  have h := Option.some.inj h
  subst h
  exact gretv (rfl : _ = gx q12)

/-! ZoneShares$Table.cut()V -/
def gm_70_57 (k_2 : Nat → Int → gx_S → Option (gx_S)) (x0 : Nat) (x1 : Int) (s : gx_S) : Option (gx_S) :=
  (gm_72 (x0 + 4) x1 s).bind fun q2 =>
  if 0 ≤ x1 ∧ x1 < 8 then (
  (gm_71 x0 x1 ((gw1 q2.2 (x0 + 2) (x1).toNat q2.1).1 (x0 + 2) (x1).toNat) (gw1 q2.2 (x0 + 2) (x1).toNat q2.1)).bind fun q9 =>
  k_2 x0 (x1 + 1) q9) else none
theorem gf_70_57 {kf_2 : Nat → Int32 → fx_S → Option (fx_S)} {kg_2 : Nat → Int → gx_S → Option (gx_S)} (hk_2 : ∀ (x0 : Nat) (x1 : Int) (yx1 : Int32) (e1 : yx1 = Int32.ofInt x1) (s : gx_S) (σ : fx_S) (es : σ = gx s) (q : gx_S) (g0 : fx_oc x0 7 = true), kg_2 x0 x1 s = some q → kf_2 x0 yx1 σ = some (gx q)) (x0 : Nat) (x1 : Int) (yx1 : Int32) (e1 : yx1 = Int32.ofInt x1) (s : gx_S) (σ : fx_S) (es : σ = gx s) (q : gx_S) (g0 : fx_oc x0 7 = true) (h : gm_70_57 kg_2 x0 x1 s = some q) : fm_70_57 kf_2 x0 yx1 σ = some (gx q) := by
  unfold gm_70_57 at h
  unfold fm_70_57
  obtain ⟨q2, w1, h⟩ := fx_bd h
  refine gb_bind (gf_72 e1 es w1) ?_
  obtain ⟨z5, h⟩ := fx_gd h
  refine gb_bind (gl_st (rfl : _ = gx q2.2) e1 (gr q2.1) (ga_7_1 g0) z5) ?_
  refine gb_bind (gl_ld (rfl : _ = gx (gw1 q2.2 (x0 + 2) (x1).toNat q2.1)) e1 (ga_7_1 g0) z5) ?_
  obtain ⟨q9, w8, h⟩ := fx_bd h
  refine gb_bind (gf_71 e1 (gr ((gw1 q2.2 (x0 + 2) (x1).toNat q2.1).1 (x0 + 2) (x1).toNat)) (rfl : _ = gx (gw1 q2.2 (x0 + 2) (x1).toNat q2.1)) w8) ?_
  exact hk_2 _ _ _ (ga_add e1 kg_1) _ _ (rfl : _ = gx q9) _ g0 h
def gm_70_31 (k_2 : Nat → Int → gx_S → Option (gx_S)) (x0 : Nat) (x1 : Int) (x2 : Int) (s0 : Nat) (s1 : Int) (s2 : Int) (s : gx_S) : Option (gx_S) :=
  if gx_p s0 = true then (
  if 0 ≤ s1 ∧ s1 < ((fx_sh s0).2 : Int) then (
  if (-2147483648 ≤ x2 ∧ x2 ≤ 2147483647) then (
  if ¬ x2 = 0 then (
    gm_70_57 k_2 x0 x1 (gw1 s s0 (s1).toNat s2)) else (
    if 0 ≤ ((x1 * 9) : Int) ∧ 0 ≤ ((x1 * 9) : Int) ∧ 0 ≤ (9 : Int) ∧ ((x1 * 9) : Int) + 9 ≤ 72 ∧ ((x1 * 9) : Int) + 9 ≤ 72 then (
    gm_70_57 k_2 x0 x1 (gcp (gw1 s s0 (s1).toNat s2) (x0 + 5) ((x1 * 9)).toNat (x0 + 4) ((x1 * 9)).toNat 9)) else none)) else none) else none) else none
theorem gf_70_31 {kf_2 : Nat → Int32 → fx_S → Option (fx_S)} {kg_2 : Nat → Int → gx_S → Option (gx_S)} (hk_2 : ∀ (x0 : Nat) (x1 : Int) (yx1 : Int32) (e1 : yx1 = Int32.ofInt x1) (s : gx_S) (σ : fx_S) (es : σ = gx s) (q : gx_S) (g0 : fx_oc x0 7 = true), kg_2 x0 x1 s = some q → kf_2 x0 yx1 σ = some (gx q)) (x0 : Nat) (x1 : Int) (yx1 : Int32) (e1 : yx1 = Int32.ofInt x1) (x2 : Int) (yx2 : Int32) (e2 : yx2 = Int32.ofInt x2) (s0 : Nat) (s1 : Int) (ys1 : Int32) (es1 : ys1 = Int32.ofInt s1) (s2 : Int) (ys2 : Int32) (es2 : ys2 = Int32.ofInt s2) (s : gx_S) (σ : fx_S) (es : σ = gx s) (q : gx_S) (g0 : fx_oc x0 7 = true) (h : gm_70_31 kg_2 x0 x1 x2 s0 s1 s2 s = some q) : fm_70_31 kf_2 x0 yx1 yx2 s0 ys1 ys2 σ = some (gx q) := by
  unfold gm_70_31 at h
  unfold fm_70_31
  obtain ⟨z3, h⟩ := fx_gd h
  obtain ⟨z4, h⟩ := fx_gd h
  refine gb_bind (gl_st es es1 es2 z3 z4) ?_
  obtain ⟨z5, h⟩ := fx_gd h
  by_cases c6 : ¬ x2 = 0
  · rw [if_pos c6] at h
    refine gb_t ((gc_ne e2 kg_0 z5 (by decide)).mpr c6) ?_
    exact gf_70_57 hk_2 _ _ _ e1 _ _ (rfl : _ = gx (gw1 s s0 (s1).toNat s2)) _ g0 h
  · rw [if_neg c6] at h
    refine gb_f (fun q => c6 ((gc_ne e2 kg_0 z5 (by decide)).mp q)) ?_
    obtain ⟨z9, h⟩ := fx_gd h
    refine gb_bind (gl_cpy (rfl : _ = gx (gw1 s s0 (s1).toNat s2)) (ga_mul e1 kg_9) (ga_mul e1 kg_9) kg_9 (ga_7_4 g0) (ga_7_3 g0) z9) ?_
    exact gf_70_57 hk_2 _ _ _ e1 _ _ (rfl : _ = gx (gcp (gw1 s s0 (s1).toNat s2) (x0 + 5) ((x1 * 9)).toNat (x0 + 4) ((x1 * 9)).toNat 9)) _ g0 h
def gm_70_2 : Nat → Nat → Int → gx_S → Option (gx_S)
  | 0, _, _, _ => none
  | n + 1, x0, x1, s =>
    if (-2147483648 ≤ x1 ∧ x1 ≤ 2147483647) then (
    if 8 ≤ x1 then (
      some s) else (
      (gm_72 (x0 + 4) x1 s).bind fun q4 =>
      if (-2147483648 ≤ q4.1 ∧ q4.1 ≤ 2147483647) then (
      if ¬ q4.1 = 0 then (
        gm_70_31 (gm_70_2 n) x0 x1 q4.1 (x0 + 3) x1 0 q4.2) else (
        gm_70_31 (gm_70_2 n) x0 x1 q4.1 (x0 + 3) x1 1 q4.2)) else none)) else none
theorem gf_70_2 : ∀ (n : Nat) (x0 : Nat) (x1 : Int) (yx1 : Int32) (e1 : yx1 = Int32.ofInt x1) (s : gx_S) (σ : fx_S) (es : σ = gx s) (q : gx_S) (g0 : fx_oc x0 7 = true), gm_70_2 n x0 x1 s = some q → fm_70_2 n x0 yx1 σ = some (gx q) := by
  intro n
  induction n with
  | zero =>
    intro x0 x1 yx1 e1 s σ es q g0 h
    rw [gm_70_2] at h
    exact fx_no h
  | succ n ih =>
    intro x0 x1 yx1 e1 s σ es q g0 h
    rw [gm_70_2] at h
    rw [fm_70_2]
    obtain ⟨z1, h⟩ := fx_gd h
    by_cases c2 : 8 ≤ x1
    · rw [if_pos c2] at h
      refine gb_t ((gc_le kg_8 e1 (by decide) z1).mpr c2) ?_
      have h := Option.some.inj h
      subst h
      exact gretv es
    · rw [if_neg c2] at h
      refine gb_f (fun q => c2 ((gc_le kg_8 e1 (by decide) z1).mp q)) ?_
      obtain ⟨q4, w3, h⟩ := fx_bd h
      refine gb_bind (gf_72 e1 es w3) ?_
      obtain ⟨z5, h⟩ := fx_gd h
      by_cases c6 : ¬ q4.1 = 0
      · rw [if_pos c6] at h
        refine gb_t ((gc_ne (gr q4.1) kg_0 z5 (by decide)).mpr c6) ?_
        exact gf_70_31 ih _ _ _ e1 _ _ (gr q4.1) _ _ _ e1 _ _ kg_0 _ _ (rfl : _ = gx q4.2) _ g0 h
      · rw [if_neg c6] at h
        refine gb_f (fun q => c6 ((gc_ne (gr q4.1) kg_0 z5 (by decide)).mp q)) ?_
        exact gf_70_31 ih _ _ _ e1 _ _ (gr q4.1) _ _ _ e1 _ _ kg_1 _ _ (rfl : _ = gx q4.2) _ g0 h
def gm_70 (x0 : Nat) (s : gx_S) : Option (gx_S) :=
  if fx_oc x0 7 = true then (
  gm_70_2 100000 x0 0 s) else none
theorem gf_70 {x0 : Nat} {s : gx_S} {σ : fx_S} (es : σ = gx s) {q : gx_S} (h : gm_70 x0 s = some q) : fm_70 x0 σ = some (gx q) := by
  unfold gm_70 at h
  unfold fm_70
  obtain ⟨gg, h⟩ := fx_gd h
  refine gb_t gg ?_
  have g0 := gg
  exact gf_70_2 100000 _ _ _ kg_0 _ _ es _ g0 h

/-! ZoneShares$Table.giveByRests()V -/
def gm_74_38 (k_2 : Nat → Int → gx_S → Option (gx_S)) (x0 : Nat) (x1 : Int) (s : gx_S) : Option (gx_S) :=
  k_2 x0 (x1 + 1) s
theorem gf_74_38 {kf_2 : Nat → Int32 → fx_S → Option (fx_S)} {kg_2 : Nat → Int → gx_S → Option (gx_S)} (hk_2 : ∀ (x0 : Nat) (x1 : Int) (yx1 : Int32) (e1 : yx1 = Int32.ofInt x1) (s : gx_S) (σ : fx_S) (es : σ = gx s) (q : gx_S) (g0 : fx_oc x0 7 = true), kg_2 x0 x1 s = some q → kf_2 x0 yx1 σ = some (gx q)) (x0 : Nat) (x1 : Int) (yx1 : Int32) (e1 : yx1 = Int32.ofInt x1) (s : gx_S) (σ : fx_S) (es : σ = gx s) (q : gx_S) (g0 : fx_oc x0 7 = true) (h : gm_74_38 kg_2 x0 x1 s = some q) : fm_74_38 kf_2 x0 yx1 σ = some (gx q) := by
  unfold gm_74_38 at h
  unfold fm_74_38
  exact hk_2 _ _ _ (ga_add e1 kg_1) _ _ es _ g0 h
def gm_74_16 (k_2 : Nat → Int → gx_S → Option (gx_S)) : Nat → Nat → Int → Int → Int → gx_S → Option (gx_S)
  | 0, _, _, _, _, _ => none
  | n + 1, x0, x1, x2, x3, s =>
    if (-2147483648 ≤ x3 ∧ x3 ≤ 2147483647) then (
    if 9 ≤ x3 then (
      gm_74_38 k_2 x0 x1 s) else (
      if (-2147483648 ≤ x2 ∧ x2 ≤ 2147483647) then (
      if x2 ≤ x3 then (
        gm_74_38 k_2 x0 x1 s) else (
        (gm_75 x0 x1 s).bind fun q6 =>
        gm_74_16 k_2 n x0 x1 x2 (x3 + 1) q6)) else none)) else none
theorem gf_74_16 {kf_2 : Nat → Int32 → fx_S → Option (fx_S)} {kg_2 : Nat → Int → gx_S → Option (gx_S)} (hk_2 : ∀ (x0 : Nat) (x1 : Int) (yx1 : Int32) (e1 : yx1 = Int32.ofInt x1) (s : gx_S) (σ : fx_S) (es : σ = gx s) (q : gx_S) (g0 : fx_oc x0 7 = true), kg_2 x0 x1 s = some q → kf_2 x0 yx1 σ = some (gx q)) : ∀ (n : Nat) (x0 : Nat) (x1 : Int) (yx1 : Int32) (e1 : yx1 = Int32.ofInt x1) (x2 : Int) (yx2 : Int32) (e2 : yx2 = Int32.ofInt x2) (x3 : Int) (yx3 : Int32) (e3 : yx3 = Int32.ofInt x3) (s : gx_S) (σ : fx_S) (es : σ = gx s) (q : gx_S) (g0 : fx_oc x0 7 = true), gm_74_16 kg_2 n x0 x1 x2 x3 s = some q → fm_74_16 kf_2 n x0 yx1 yx2 yx3 σ = some (gx q) := by
  intro n
  induction n with
  | zero =>
    intro x0 x1 yx1 e1 x2 yx2 e2 x3 yx3 e3 s σ es q g0 h
    rw [gm_74_16] at h
    exact fx_no h
  | succ n ih =>
    intro x0 x1 yx1 e1 x2 yx2 e2 x3 yx3 e3 s σ es q g0 h
    rw [gm_74_16] at h
    rw [fm_74_16]
    obtain ⟨z1, h⟩ := fx_gd h
    by_cases c2 : 9 ≤ x3
    · rw [if_pos c2] at h
      refine gb_t ((gc_le kg_9 e3 (by decide) z1).mpr c2) ?_
      exact gf_74_38 hk_2 _ _ _ e1 _ _ es _ g0 h
    · rw [if_neg c2] at h
      refine gb_f (fun q => c2 ((gc_le kg_9 e3 (by decide) z1).mp q)) ?_
      obtain ⟨z3, h⟩ := fx_gd h
      by_cases c4 : x2 ≤ x3
      · rw [if_pos c4] at h
        refine gb_t ((gc_le e2 e3 z3 z1).mpr c4) ?_
        exact gf_74_38 hk_2 _ _ _ e1 _ _ es _ g0 h
      · rw [if_neg c4] at h
        refine gb_f (fun q => c4 ((gc_le e2 e3 z3 z1).mp q)) ?_
        obtain ⟨q6, w5, h⟩ := fx_bd h
        refine gb_bind (gf_75 e1 es w5) ?_
        exact ih _ _ _ e1 _ _ e2 _ _ (ga_add e3 kg_1) _ _ (rfl : _ = gx q6) _ g0 h
def gm_74_2 : Nat → Nat → Int → gx_S → Option (gx_S)
  | 0, _, _, _ => none
  | n + 1, x0, x1, s =>
    if (-2147483648 ≤ x1 ∧ x1 ≤ 2147483647) then (
    if 8 ≤ x1 then (
      some s) else (
      (gm_73 x0 x1 s).bind fun q4 =>
      gm_74_16 (gm_74_2 n) 100000 x0 x1 q4.1 0 q4.2)) else none
theorem gf_74_2 : ∀ (n : Nat) (x0 : Nat) (x1 : Int) (yx1 : Int32) (e1 : yx1 = Int32.ofInt x1) (s : gx_S) (σ : fx_S) (es : σ = gx s) (q : gx_S) (g0 : fx_oc x0 7 = true), gm_74_2 n x0 x1 s = some q → fm_74_2 n x0 yx1 σ = some (gx q) := by
  intro n
  induction n with
  | zero =>
    intro x0 x1 yx1 e1 s σ es q g0 h
    rw [gm_74_2] at h
    exact fx_no h
  | succ n ih =>
    intro x0 x1 yx1 e1 s σ es q g0 h
    rw [gm_74_2] at h
    rw [fm_74_2]
    obtain ⟨z1, h⟩ := fx_gd h
    by_cases c2 : 8 ≤ x1
    · rw [if_pos c2] at h
      refine gb_t ((gc_le kg_8 e1 (by decide) z1).mpr c2) ?_
      have h := Option.some.inj h
      subst h
      exact gretv es
    · rw [if_neg c2] at h
      refine gb_f (fun q => c2 ((gc_le kg_8 e1 (by decide) z1).mp q)) ?_
      obtain ⟨q4, w3, h⟩ := fx_bd h
      refine gb_bind (gf_73 e1 es w3) ?_
      exact gf_74_16 ih 100000 _ _ _ e1 _ _ (gr q4.1) _ _ kg_0 _ _ (rfl : _ = gx q4.2) _ g0 h
def gm_74 (x0 : Nat) (s : gx_S) : Option (gx_S) :=
  if fx_oc x0 7 = true then (
  gm_74_2 100000 x0 0 s) else none
theorem gf_74 {x0 : Nat} {s : gx_S} {σ : fx_S} (es : σ = gx s) {q : gx_S} (h : gm_74 x0 s = some q) : fm_74 x0 σ = some (gx q) := by
  unfold gm_74 at h
  unfold fm_74
  obtain ⟨gg, h⟩ := fx_gd h
  refine gb_t gg ?_
  have g0 := gg
  exact gf_74_2 100000 _ _ _ kg_0 _ _ es _ g0 h

/-! ZoneShares$Table.common()J -/
def gm_78_52 (k_4 : Nat → Int → Int → gx_S → Option (Int × gx_S)) (x0 : Nat) (x1 : Int) (x3 : Int) (s : gx_S) : Option (Int × gx_S) :=
  k_4 x0 x1 (x3 + 1) s
theorem gf_78_52 {kf_4 : Nat → Int64 → Int32 → fx_S → Option (Int64 × fx_S)} {kg_4 : Nat → Int → Int → gx_S → Option (Int × gx_S)} (hk_4 : ∀ (x0 : Nat) (x1 : Int) (yx1 : Int64) (e1 : yx1 = Int64.ofInt x1) (x3 : Int) (yx3 : Int32) (e3 : yx3 = Int32.ofInt x3) (s : gx_S) (σ : fx_S) (es : σ = gx s) (q : Int × gx_S) (g0 : fx_oc x0 7 = true), kg_4 x0 x1 x3 s = some q → kf_4 x0 yx1 yx3 σ = some (Int64.ofInt q.1, gx q.2)) (x0 : Nat) (x1 : Int) (yx1 : Int64) (e1 : yx1 = Int64.ofInt x1) (x3 : Int) (yx3 : Int32) (e3 : yx3 = Int32.ofInt x3) (s : gx_S) (σ : fx_S) (es : σ = gx s) (q : Int × gx_S) (g0 : fx_oc x0 7 = true) (h : gm_78_52 kg_4 x0 x1 x3 s = some q) : fm_78_52 kf_4 x0 yx1 yx3 σ = some (Int64.ofInt q.1, gx q.2) := by
  unfold gm_78_52 at h
  unfold fm_78_52
  exact hk_4 _ _ _ e1 _ _ (ga_add e3 kg_1) _ _ es _ g0 h
def gm_78_4 : Nat → Nat → Int → Int → gx_S → Option (Int × gx_S)
  | 0, _, _, _, _ => none
  | n + 1, x0, x1, x3, s =>
    if (-2147483648 ≤ x3 ∧ x3 ≤ 2147483647) then (
    if 8 ≤ x3 then (
      some (x1, s)) else (
      if 0 ≤ x3 ∧ x3 < 8 then (
      if (-2147483648 ≤ (s.1 (x0 + 2) (x3).toNat) ∧ (s.1 (x0 + 2) (x3).toNat) ≤ 2147483647) then (
      (gm_128 x1 (s.1 (x0 + 2) (x3).toNat) s).bind fun q8 =>
      if (-2147483648 ≤ (q8.2.1 (x0 + 2) (x3).toNat) ∧ (q8.2.1 (x0 + 2) (x3).toNat) ≤ 2147483647) then (
      if (q8.2.1 (x0 + 2) (x3).toNat) ≤ 0 then (
        gm_78_52 (gm_78_4 n) x0 x1 x3 q8.2) else (
        if (-9223372036854775808 ≤ q8.1 ∧ q8.1 ≤ 9223372036854775807) then (
        if q8.1 ≤ 0 then (
          gm_78_52 (gm_78_4 n) x0 x1 x3 q8.2) else (
          if 0 ≤ x1 ∧ x1 ≤ 9223372036854775807 ∧ 0 < q8.1 ∧ q8.1 ≤ 9223372036854775807 then (
          gm_78_52 (gm_78_4 n) x0 ((x1 / q8.1) * (q8.2.1 (x0 + 2) (x3).toNat)) x3 q8.2) else none)) else none)) else none) else none) else none)) else none
theorem gf_78_4 : ∀ (n : Nat) (x0 : Nat) (x1 : Int) (yx1 : Int64) (e1 : yx1 = Int64.ofInt x1) (x3 : Int) (yx3 : Int32) (e3 : yx3 = Int32.ofInt x3) (s : gx_S) (σ : fx_S) (es : σ = gx s) (q : Int × gx_S) (g0 : fx_oc x0 7 = true), gm_78_4 n x0 x1 x3 s = some q → fm_78_4 n x0 yx1 yx3 σ = some (Int64.ofInt q.1, gx q.2) := by
  intro n
  induction n with
  | zero =>
    intro x0 x1 yx1 e1 x3 yx3 e3 s σ es q g0 h
    rw [gm_78_4] at h
    exact fx_no h
  | succ n ih =>
    intro x0 x1 yx1 e1 x3 yx3 e3 s σ es q g0 h
    rw [gm_78_4] at h
    rw [fm_78_4]
    obtain ⟨z1, h⟩ := fx_gd h
    by_cases c2 : 8 ≤ x3
    · rw [if_pos c2] at h
      refine gb_t ((gc_le kg_8 e3 (by decide) z1).mpr c2) ?_
      have h := Option.some.inj h
      subst h
      exact gretl e1 es
    · rw [if_neg c2] at h
      refine gb_f (fun q => c2 ((gc_le kg_8 e3 (by decide) z1).mp q)) ?_
      obtain ⟨z5, h⟩ := fx_gd h
      refine gb_bind (gl_ld es e3 (ga_7_1 g0) z5) ?_
      obtain ⟨z6, h⟩ := fx_gd h
      obtain ⟨q8, w7, h⟩ := fx_bd h
      refine gb_bind (gf_128 e1 (ga_i2l (gr (s.1 (x0 + 2) (x3).toNat)) z6) es w7) ?_
      refine gb_bind (gl_ld (rfl : _ = gx q8.2) e3 (ga_7_1 g0) z5) ?_
      obtain ⟨z11, h⟩ := fx_gd h
      by_cases c12 : (q8.2.1 (x0 + 2) (x3).toNat) ≤ 0
      · rw [if_pos c12] at h
        refine gb_t ((gc_le (gr (q8.2.1 (x0 + 2) (x3).toNat)) kg_0 z11 (by decide)).mpr c12) ?_
        exact gf_78_52 ih _ _ _ e1 _ _ e3 _ _ (rfl : _ = gx q8.2) _ g0 h
      · rw [if_neg c12] at h
        refine gb_f (fun q => c12 ((gc_le (gr (q8.2.1 (x0 + 2) (x3).toNat)) kg_0 z11 (by decide)).mp q)) ?_
        obtain ⟨z13, h⟩ := fx_gd h
        by_cases c14 : q8.1 ≤ 0
        · rw [if_pos c14] at h
          refine gb_t ((gcl_le (gr2 q8.1) kgl_0 z13 (by decide)).mpr c14) ?_
          exact gf_78_52 ih _ _ _ e1 _ _ e3 _ _ (rfl : _ = gx q8.2) _ g0 h
        · rw [if_neg c14] at h
          refine gb_f (fun q => c14 ((gcl_le (gr2 q8.1) kgl_0 z13 (by decide)).mp q)) ?_
          obtain ⟨z15, h⟩ := fx_gd h
          refine gb_t (gcl_nz (gr2 q8.1) z15) ?_
          refine gb_bind (gl_ld (rfl : _ = gx q8.2) e3 (ga_7_1 g0) z5) ?_
          exact gf_78_52 ih _ _ _ (gal_mul (gal_div e1 (gr2 q8.1) z15) (ga_i2l (gr (q8.2.1 (x0 + 2) (x3).toNat)) z11)) _ _ e3 _ _ (rfl : _ = gx q8.2) _ g0 h
def gm_78 (x0 : Nat) (s : gx_S) : Option (Int × gx_S) :=
  if fx_oc x0 7 = true then (
  gm_78_4 100000 x0 1 0 s) else none
theorem gf_78 {x0 : Nat} {s : gx_S} {σ : fx_S} (es : σ = gx s) {q : Int × gx_S} (h : gm_78 x0 s = some q) : fm_78 x0 σ = some (Int64.ofInt q.1, gx q.2) := by
  unfold gm_78 at h
  unfold fm_78
  obtain ⟨gg, h⟩ := fx_gd h
  refine gb_t gg ?_
  have g0 := gg
  exact gf_78_4 100000 _ _ _ kgl_1 _ _ kg_0 _ _ es _ g0 h

/-! ZoneShares.undo()I -/
def gm_94 (s : gx_S) : Option (Int × gx_S) :=
  if (-2147483648 ≤ (s.1 16 2) ∧ (s.1 16 2) ≤ 2147483647) then (
  if ¬ (s.1 16 2) = 0 then (
    (gm_120 s).bind fun q10 =>
    (gm_32 1 q10).bind fun q12 =>
    some ((q12.1 16 2), q12)) else (
    some ((-1), s))) else none
theorem gf_94 {s : gx_S} {σ : fx_S} (es : σ = gx s) {q : Int × gx_S} (h : gm_94 s = some q) : fm_94 σ = some (Int32.ofInt q.1, gx q.2) := by
  unfold gm_94 at h
  unfold fm_94
  obtain ⟨z7, h⟩ := fx_gd h
  by_cases c8 : ¬ (s.1 16 2) = 0
  · rw [if_pos c8] at h
    refine gb_t ((gc_ne (gf1 es 16 2) kg_0 z7 (by decide)).mpr c8) ?_
    obtain ⟨q10, w9, h⟩ := fx_bd h
    refine gb_bind (gf_120 es w9) ?_
    obtain ⟨q12, w11, h⟩ := fx_bd h
    refine gb_bind (gf_32 (rfl : _ = gx q10) w11) ?_
    have h := Option.some.inj h
    subst h
    exact gret (gf1 (rfl : _ = gx q12) 16 2) (rfl : _ = gx q12)
  · rw [if_neg c8] at h
    refine gb_f (fun q => c8 ((gc_ne (gf1 es 16 2) kg_0 z7 (by decide)).mp q)) ?_
    have h := Option.some.inj h
    subst h
    exact gret kg_m1 es

/-! ZoneShares.weight(II)I -/
def gm_112 (x1 : Int) (x2 : Int) (s : gx_S) : Option (Int × gx_S) :=
  (gm_114 x1 s).bind fun q11 =>
  if (gb q11.1) = 0 then (
    some ((-1), q11.2)) else (
    (gm_116 x2 q11.2).bind fun q14 =>
    if (gb q14.1) = 0 then (
      some ((-1), q14.2)) else (
      if 0 ≤ ((x1 * 4) + x2) ∧ ((x1 * 4) + x2) < 12 then (
      some ((q14.2.1 4 (((x1 * 4) + x2)).toNat), q14.2)) else none))
theorem gf_112 {x1 : Int} {yx1 : Int32} (e1 : yx1 = Int32.ofInt x1) {x2 : Int} {yx2 : Int32} (e2 : yx2 = Int32.ofInt x2) {s : gx_S} {σ : fx_S} (es : σ = gx s) {q : Int × gx_S} (h : gm_112 x1 x2 s = some q) : fm_112 yx1 yx2 σ = some (Int32.ofInt q.1, gx q.2) := by
  unfold gm_112 at h
  unfold fm_112
  obtain ⟨q11, w10, h⟩ := fx_bd h
  refine gb_bind (gf_114 e1 es w10) ?_
  by_cases c12 : (gb q11.1) = 0
  · rw [if_pos c12] at h
    refine gb_t ((gc_eq (gb_b q11.1) kg_0 (gb_r _) (by decide)).mpr c12) ?_
    have h := Option.some.inj h
    subst h
    exact gret kg_m1 (rfl : _ = gx q11.2)
  · rw [if_neg c12] at h
    refine gb_f (fun q => c12 ((gc_eq (gb_b q11.1) kg_0 (gb_r _) (by decide)).mp q)) ?_
    obtain ⟨q14, w13, h⟩ := fx_bd h
    refine gb_bind (gf_116 e2 (rfl : _ = gx q11.2) w13) ?_
    by_cases c15 : (gb q14.1) = 0
    · rw [if_pos c15] at h
      refine gb_t ((gc_eq (gb_b q14.1) kg_0 (gb_r _) (by decide)).mpr c15) ?_
      have h := Option.some.inj h
      subst h
      exact gret kg_m1 (rfl : _ = gx q14.2)
    · rw [if_neg c15] at h
      refine gb_f (fun q => c15 ((gc_eq (gb_b q14.1) kg_0 (gb_r _) (by decide)).mp q)) ?_
      obtain ⟨z18, h⟩ := fx_gd h
      refine gb_bind (gl_ld (rfl : _ = gx q14.2) (ga_add (ga_mul e1 kg_4) e2) ga_4 z18) ?_
      have h := Option.some.inj h
      subst h
      exact gret (gr (q14.2.1 4 (((x1 * 4) + x2)).toNat)) (rfl : _ = gx q14.2)

/-! ZoneShares.districtOf(I)I -/
def gm_113 (x1 : Int) (s : gx_S) : Option (Int × gx_S) :=
  (gm_115 x1 s).bind fun q8 =>
  if (gb q8.1) = 0 then (
    some ((-1), q8.2)) else (
    if 0 ≤ x1 ∧ x1 < 8 then (
    some ((q8.2.1 5 (x1).toNat), q8.2)) else none)
theorem gf_113 {x1 : Int} {yx1 : Int32} (e1 : yx1 = Int32.ofInt x1) {s : gx_S} {σ : fx_S} (es : σ = gx s) {q : Int × gx_S} (h : gm_113 x1 s = some q) : fm_113 yx1 σ = some (Int32.ofInt q.1, gx q.2) := by
  unfold gm_113 at h
  unfold fm_113
  obtain ⟨q8, w7, h⟩ := fx_bd h
  refine gb_bind (gf_115 e1 es w7) ?_
  by_cases c9 : (gb q8.1) = 0
  · rw [if_pos c9] at h
    refine gb_t ((gc_eq (gb_b q8.1) kg_0 (gb_r _) (by decide)).mpr c9) ?_
    have h := Option.some.inj h
    subst h
    exact gret kg_m1 (rfl : _ = gx q8.2)
  · rw [if_neg c9] at h
    refine gb_f (fun q => c9 ((gc_eq (gb_b q8.1) kg_0 (gb_r _) (by decide)).mp q)) ?_
    obtain ⟨z12, h⟩ := fx_gd h
    refine gb_bind (gl_ld (rfl : _ = gx q8.2) e1 ga_5 z12) ?_
    have h := Option.some.inj h
    subst h
    exact gret (gr (q8.2.1 5 (x1).toNat)) (rfl : _ = gx q8.2)

/-! ZoneShares.startAct()V -/
def gm_119 (s : gx_S) : Option (gx_S) :=
  (gm_31 1 s).bind fun q6 =>
  (gm_120 q6).bind fun q8 =>
  some q8
theorem gf_119 {s : gx_S} {σ : fx_S} (es : σ = gx s) {q : gx_S} (h : gm_119 s = some q) : fm_119 σ = some (gx q) := by
  unfold gm_119 at h
  unfold fm_119
  obtain ⟨q6, w5, h⟩ := fx_bd h
  refine gb_bind (gf_31 es w5) ?_
  obtain ⟨q8, w7, h⟩ := fx_bd h
  refine gb_bind (gf_120 (rfl : _ = gx q6) w7) ?_
  have h := Option.some.inj h
  subst h
  exact gretv (rfl : _ = gx q8)

/-! ZoneShares.countPieces()I -/
def gm_123_101 (k_20 : Int → Int → Int → gx_S → Option (Int × gx_S)) (x1 : Int) (x2 : Int) (x3 : Int) (s : gx_S) : Option (Int × gx_S) :=
  k_20 x1 x2 (x3 + 1) s
def gm_123_88 (k_20 : Int → Int → Int → gx_S → Option (Int × gx_S)) (x2 : Int) (x3 : Int) (x5 : Int) (s0 : Int) (s1 : Int) (s : gx_S) : Option (Int × gx_S) :=
  if 0 ≤ x5 ∧ x5 < 288 then (
  gm_123_101 k_20 (s0 + s1) x2 x3 (gw1 s 69 (x5).toNat ((s.1 69 (x5).toNat) + 1))) else none
def gm_123_20 : Nat → Int → Int → Int → gx_S → Option (Int × gx_S)
  | 0, _, _, _, _ => none
  | n + 1, x1, x2, x3, s =>
    if (-2147483648 ≤ x3 ∧ x3 ≤ 2147483647) then (
    if (-2147483648 ≤ x2 ∧ x2 ≤ 2147483647) then (
    if x2 ≤ x3 then (
      some (x1, s)) else (
      (gm_60 1 0 x3 s).bind fun q5 =>
      if (-2147483648 ≤ q5.1 ∧ q5.1 ≤ 2147483647) then (
      if 8 ≤ q5.1 then (
        gm_123_101 (gm_123_20 n) x1 x2 x3 q5.2) else (
        (gm_60 1 1 x3 q5.2).bind fun q9 =>
        (gm_60 1 2 x3 q9.2).bind fun q11 =>
        if 0 ≤ ((((q5.1 * 9) + q9.1) * 4) + q11.1) ∧ ((((q5.1 * 9) + q9.1) * 4) + q11.1) < 288 then (
        if (-2147483648 ≤ (q11.2.1 69 (((((q5.1 * 9) + q9.1) * 4) + q11.1)).toNat) ∧ (q11.2.1 69 (((((q5.1 * 9) + q9.1) * 4) + q11.1)).toNat) ≤ 2147483647) then (
        if ¬ (q11.2.1 69 (((((q5.1 * 9) + q9.1) * 4) + q11.1)).toNat) = 0 then (
          gm_123_88 (gm_123_20 n) x2 x3 ((((q5.1 * 9) + q9.1) * 4) + q11.1) x1 0 q11.2) else (
          gm_123_88 (gm_123_20 n) x2 x3 ((((q5.1 * 9) + q9.1) * 4) + q11.1) x1 1 q11.2)) else none) else none)) else none)) else none) else none
def gm_123 (s : gx_S) : Option (Int × gx_S) :=
  (gm_235 69 0 s).bind fun q43 =>
  (gm_58 1 q43).bind fun q45 =>
  gm_123_20 100000 0 q45.1 0 q45.2
/-! ZoneShares.liesApart(II)Z -/
def gm_125_52 : Nat → Int → Int → Int → gx_S → Option (Bool × gx_S)
  | 0, _, _, _, _ => none
  | n + 1, x1, x3, x4, s =>
    if (-2147483648 ≤ x4 ∧ x4 ≤ 2147483647) then (
    if 8 ≤ x4 then (
      some (false, s)) else (
      if (-2147483648 ≤ x3 ∧ x3 ≤ 2147483647) then (
      if (-2147483648 ≤ ((Int32.ofInt 1 <<< (Int32.ofInt x4 &&& 31))).toInt ∧ ((Int32.ofInt 1 <<< (Int32.ofInt x4 &&& 31))).toInt ≤ 2147483647) then (
      if ¬ x3 = ((Int32.ofInt 1 <<< (Int32.ofInt x4 &&& 31))).toInt then (
        gm_125_52 n x1 x3 (x4 + 1) s) else (
        (gm_62 1 1 x4 s).bind fun q7 =>
        (gm_62 1 0 x1 q7.2).bind fun q9 =>
        if (-2147483648 ≤ q7.1 ∧ q7.1 ≤ 2147483647) then (
        if (-2147483648 ≤ q9.1 ∧ q9.1 ≤ 2147483647) then (
        if ¬ q7.1 = q9.1 then (
          some (false, q9.2)) else (
          some (true, q9.2))) else none) else none)) else none) else none)) else none
theorem gf_125_52 : ∀ (n : Nat) (x1 : Int) (yx1 : Int32) (e1 : yx1 = Int32.ofInt x1) (x3 : Int) (yx3 : Int32) (e3 : yx3 = Int32.ofInt x3) (x4 : Int) (yx4 : Int32) (e4 : yx4 = Int32.ofInt x4) (s : gx_S) (σ : fx_S) (es : σ = gx s) (q : Bool × gx_S), gm_125_52 n x1 x3 x4 s = some q → fm_125_52 n yx1 yx3 yx4 σ = some (q.1, gx q.2) := by
  intro n
  induction n with
  | zero =>
    intro x1 yx1 e1 x3 yx3 e3 x4 yx4 e4 s σ es q  h
    rw [gm_125_52] at h
    exact fx_no h
  | succ n ih =>
    intro x1 yx1 e1 x3 yx3 e3 x4 yx4 e4 s σ es q  h
    rw [gm_125_52] at h
    rw [fm_125_52]
    obtain ⟨z1, h⟩ := fx_gd h
    by_cases c2 : 8 ≤ x4
    · rw [if_pos c2] at h
      refine gb_t ((gc_le kg_8 e4 (by decide) z1).mpr c2) ?_
      have h := Option.some.inj h
      subst h
      exact gretb es
    · rw [if_neg c2] at h
      refine gb_f (fun q => c2 ((gc_le kg_8 e4 (by decide) z1).mp q)) ?_
      obtain ⟨z3, h⟩ := fx_gd h
      obtain ⟨z4, h⟩ := fx_gd h
      by_cases c5 : ¬ x3 = ((Int32.ofInt 1 <<< (Int32.ofInt x4 &&& 31))).toInt
      · rw [if_pos c5] at h
        refine gb_t ((gc_ne e3 (ga_o2 (f := (fun a b => (a <<< (b &&& 31)))) kg_1 e4) z3 z4).mpr c5) ?_
        exact ih _ _ e1 _ _ e3 _ _ (ga_add e4 kg_1) _ _ es _ h
      · rw [if_neg c5] at h
        refine gb_f (fun q => c5 ((gc_ne e3 (ga_o2 (f := (fun a b => (a <<< (b &&& 31)))) kg_1 e4) z3 z4).mp q)) ?_
        obtain ⟨q7, w6, h⟩ := fx_bd h
        refine gb_bind (gf_62 kg_1 e4 es w6) ?_
        obtain ⟨q9, w8, h⟩ := fx_bd h
        refine gb_bind (gf_62 kg_0 e1 (rfl : _ = gx q7.2) w8) ?_
        obtain ⟨z10, h⟩ := fx_gd h
        obtain ⟨z11, h⟩ := fx_gd h
        by_cases c12 : ¬ q7.1 = q9.1
        · rw [if_pos c12] at h
          refine gb_t ((gc_ne (gr q7.1) (gr q9.1) z10 z11).mpr c12) ?_
          have h := Option.some.inj h
          subst h
          exact gretb (rfl : _ = gx q9.2)
        · rw [if_neg c12] at h
          refine gb_f (fun q => c12 ((gc_ne (gr q7.1) (gr q9.1) z10 z11).mp q)) ?_
          have h := Option.some.inj h
          subst h
          exact gretb (rfl : _ = gx q9.2)
def gm_125 (x1 : Int) (x2 : Int) (s : gx_S) : Option (Bool × gx_S) :=
  (gm_65 1 x1 s).bind fun q25 =>
  if (-2147483648 ≤ x2 ∧ x2 ≤ 2147483647) then (
  if ¬ x2 = 3 then (
    if ¬ x2 = 2 then (
      gm_125_52 100000 x1 q25.1 0 q25.2) else (
      (gm_230 q25.1 q25.2).bind fun q30 =>
      if (-2147483648 ≤ q30.1 ∧ q30.1 ≤ 2147483647) then (
      if q30.1 ≤ 1 then (
        some (false, q30.2)) else (
        some (true, q30.2))) else none)) else (
    if (-2147483648 ≤ ((Int32.ofInt (((Int32.ofInt q25.1 >>> (Int32.ofInt 8 &&& 31))).toInt) &&& Int32.ofInt 1)).toInt ∧ ((Int32.ofInt (((Int32.ofInt q25.1 >>> (Int32.ofInt 8 &&& 31))).toInt) &&& Int32.ofInt 1)).toInt ≤ 2147483647) then (
    if ¬ ((Int32.ofInt (((Int32.ofInt q25.1 >>> (Int32.ofInt 8 &&& 31))).toInt) &&& Int32.ofInt 1)).toInt = 1 then (
      some (false, q25.2)) else (
      some (true, q25.2))) else none)) else none
theorem gf_125 {x1 : Int} {yx1 : Int32} (e1 : yx1 = Int32.ofInt x1) {x2 : Int} {yx2 : Int32} (e2 : yx2 = Int32.ofInt x2) {s : gx_S} {σ : fx_S} (es : σ = gx s) {q : Bool × gx_S} (h : gm_125 x1 x2 s = some q) : fm_125 yx1 yx2 σ = some (q.1, gx q.2) := by
  unfold gm_125 at h
  unfold fm_125
  obtain ⟨q25, w24, h⟩ := fx_bd h
  refine gb_bind (gf_65 e1 es w24) ?_
  obtain ⟨z26, h⟩ := fx_gd h
  by_cases c27 : ¬ x2 = 3
  · rw [if_pos c27] at h
    refine gb_t ((gc_ne e2 kg_3 z26 (by decide)).mpr c27) ?_
    by_cases c28 : ¬ x2 = 2
    · rw [if_pos c28] at h
      refine gb_t ((gc_ne e2 kg_2 z26 (by decide)).mpr c28) ?_
      exact gf_125_52 100000 _ _ e1 _ _ (gr q25.1) _ _ kg_0 _ _ (rfl : _ = gx q25.2) _ h
    · rw [if_neg c28] at h
      refine gb_f (fun q => c28 ((gc_ne e2 kg_2 z26 (by decide)).mp q)) ?_
      obtain ⟨q30, w29, h⟩ := fx_bd h
      refine gb_bind (gf_230 (gr q25.1) (rfl : _ = gx q25.2) w29) ?_
      obtain ⟨z31, h⟩ := fx_gd h
      by_cases c32 : q30.1 ≤ 1
      · rw [if_pos c32] at h
        refine gb_t ((gc_le (gr q30.1) kg_1 z31 (by decide)).mpr c32) ?_
        have h := Option.some.inj h
        subst h
        exact gretb (rfl : _ = gx q30.2)
      · rw [if_neg c32] at h
        refine gb_f (fun q => c32 ((gc_le (gr q30.1) kg_1 z31 (by decide)).mp q)) ?_
        have h := Option.some.inj h
        subst h
        exact gretb (rfl : _ = gx q30.2)
  · rw [if_neg c27] at h
    refine gb_f (fun q => c27 ((gc_ne e2 kg_3 z26 (by decide)).mp q)) ?_
    obtain ⟨z33, h⟩ := fx_gd h
    by_cases c34 : ¬ ((Int32.ofInt (((Int32.ofInt q25.1 >>> (Int32.ofInt 8 &&& 31))).toInt) &&& Int32.ofInt 1)).toInt = 1
    · rw [if_pos c34] at h
      refine gb_t ((gc_ne (ga_o2 (f := (fun a b => (a &&& b))) (ga_o2 (f := (fun a b => (a >>> (b &&& 31)))) (gr q25.1) kg_8) kg_1) kg_1 z33 (by decide)).mpr c34) ?_
      have h := Option.some.inj h
      subst h
      exact gretb (rfl : _ = gx q25.2)
    · rw [if_neg c34] at h
      refine gb_f (fun q => c34 ((gc_ne (ga_o2 (f := (fun a b => (a &&& b))) (ga_o2 (f := (fun a b => (a >>> (b &&& 31)))) (gr q25.1) kg_8) kg_1) kg_1 z33 (by decide)).mp q)) ?_
      have h := Option.some.inj h
      subst h
      exact gretb (rfl : _ = gx q25.2)

/-! ZoneShares.lowest(JJI)J -/
def gm_127_28 (x5 : Int) (s0 : Int) (s : gx_S) : Option (Int × gx_S) :=
  if 0 ≤ s0 ∧ s0 ≤ 9223372036854775807 ∧ 0 < x5 ∧ x5 ≤ 9223372036854775807 then (
  some ((s0 / x5), s)) else none
theorem gf_127_28 (x5 : Int) (yx5 : Int64) (e5 : yx5 = Int64.ofInt x5) (s0 : Int) (ys0 : Int64) (es0 : ys0 = Int64.ofInt s0) (s : gx_S) (σ : fx_S) (es : σ = gx s) (q : Int × gx_S) (h : gm_127_28 x5 s0 s = some q) : fm_127_28 yx5 ys0 σ = some (Int64.ofInt q.1, gx q.2) := by
  unfold gm_127_28 at h
  unfold fm_127_28
  obtain ⟨z1, h⟩ := fx_gd h
  refine gb_t (gcl_nz e5 z1) ?_
  have h := Option.some.inj h
  subst h
  exact gretl (gal_div es0 e5 z1) es
def gm_127 (x0 : Int) (x2 : Int) (x4 : Int) (s : gx_S) : Option (Int × gx_S) :=
  (gm_128 x0 x2 s).bind fun q10 =>
  if (-9223372036854775808 ≤ q10.1 ∧ q10.1 ≤ 9223372036854775807) then (
  if ¬ q10.1 = 0 then (
    if (-2147483648 ≤ x4 ∧ x4 ≤ 2147483647) then (
    if ¬ x4 = 0 then (
      gm_127_28 q10.1 x2 q10.2) else (
      gm_127_28 q10.1 x0 q10.2)) else none) else (
    some ((-1), q10.2))) else none
theorem gf_127 {x0 : Int} {yx0 : Int64} (e0 : yx0 = Int64.ofInt x0) {x2 : Int} {yx2 : Int64} (e2 : yx2 = Int64.ofInt x2) {x4 : Int} {yx4 : Int32} (e4 : yx4 = Int32.ofInt x4) {s : gx_S} {σ : fx_S} (es : σ = gx s) {q : Int × gx_S} (h : gm_127 x0 x2 x4 s = some q) : fm_127 yx0 yx2 yx4 σ = some (Int64.ofInt q.1, gx q.2) := by
  unfold gm_127 at h
  unfold fm_127
  obtain ⟨q10, w9, h⟩ := fx_bd h
  refine gb_bind (gf_128 e0 e2 es w9) ?_
  obtain ⟨z11, h⟩ := fx_gd h
  by_cases c12 : ¬ q10.1 = 0
  · rw [if_pos c12] at h
    refine gb_t ((gcl_ne (gr2 q10.1) kgl_0 z11 (by decide)).mpr c12) ?_
    obtain ⟨z13, h⟩ := fx_gd h
    by_cases c14 : ¬ x4 = 0
    · rw [if_pos c14] at h
      refine gb_t ((gc_ne e4 kg_0 z13 (by decide)).mpr c14) ?_
      exact gf_127_28 _ _ (gr2 q10.1) _ _ e2 _ _ (rfl : _ = gx q10.2) _ h
    · rw [if_neg c14] at h
      refine gb_f (fun q => c14 ((gc_ne e4 kg_0 z13 (by decide)).mp q)) ?_
      exact gf_127_28 _ _ (gr2 q10.1) _ _ e0 _ _ (rfl : _ = gx q10.2) _ h
  · rw [if_neg c12] at h
    refine gb_f (fun q => c12 ((gcl_ne (gr2 q10.1) kgl_0 z11 (by decide)).mp q)) ?_
    have h := Option.some.inj h
    subst h
    exact gretl kgl_m1 (rfl : _ = gx q10.2)

/-! ZoneSharesModel.feed(IIIII)I -/
def gm_134 (x1 : Int) (x2 : Int) (x3 : Int) (x4 : Int) (x5 : Int) (s : gx_S) : Option (Int × gx_S) :=
  if (-2147483648 ≤ ((s.1 215 4) + 20) ∧ ((s.1 215 4) + 20) ≤ 2147483647) then (
  if ((s.1 215 4) + 20) ≤ 200 then (
    (gm_135 x1 s).bind fun q16 =>
    (gm_135 x2 q16).bind fun q18 =>
    (gm_135 x3 q18).bind fun q20 =>
    (gm_135 x4 q20).bind fun q22 =>
    (gm_135 x5 q22).bind fun q24 =>
    some ((q24.1 215 4), q24)) else (
    some ((-1), s))) else none
/-! ZoneSharesModel.isApart(II)Z -/
def gm_222 (x1 : Int) (x2 : Int) (s : gx_S) : Option (Bool × gx_S) :=
  (gm_221 x1 s).bind fun q28 =>
  if (-2147483648 ≤ x2 ∧ x2 ≤ 2147483647) then (
  if ¬ x2 = 1 then (
    if ¬ x2 = 2 then (
      if (-2147483648 ≤ ((Int32.ofInt (((Int32.ofInt q28.1 >>> (Int32.ofInt 8 &&& 31))).toInt) &&& Int32.ofInt 1)).toInt ∧ ((Int32.ofInt (((Int32.ofInt q28.1 >>> (Int32.ofInt 8 &&& 31))).toInt) &&& Int32.ofInt 1)).toInt ≤ 2147483647) then (
      if ¬ ((Int32.ofInt (((Int32.ofInt q28.1 >>> (Int32.ofInt 8 &&& 31))).toInt) &&& Int32.ofInt 1)).toInt = 1 then (
        some (false, q28.2)) else (
        some (true, q28.2))) else none) else (
      (gm_230 q28.1 q28.2).bind fun q35 =>
      if (-2147483648 ≤ q35.1 ∧ q35.1 ≤ 2147483647) then (
      if q35.1 ≤ 1 then (
        some (false, q35.2)) else (
        some (true, q35.2))) else none)) else (
    (gm_230 q28.1 q28.2).bind fun q39 =>
    if (-2147483648 ≤ q39.1 ∧ q39.1 ≤ 2147483647) then (
    if ¬ q39.1 = 1 then (
      some (false, q39.2)) else (
      if (-2147483648 ≤ ((Int32.ofInt (((Int32.ofInt q28.1 >>> (Int32.ofInt 8 &&& 31))).toInt) &&& Int32.ofInt 1)).toInt ∧ ((Int32.ofInt (((Int32.ofInt q28.1 >>> (Int32.ofInt 8 &&& 31))).toInt) &&& Int32.ofInt 1)).toInt ≤ 2147483647) then (
      if ¬ ((Int32.ofInt (((Int32.ofInt q28.1 >>> (Int32.ofInt 8 &&& 31))).toInt) &&& Int32.ofInt 1)).toInt = 0 then (
        some (false, q39.2)) else (
        (gm_229 q28.1 q39.2).bind fun q45 =>
        (gm_202 q45.1 q45.2).bind fun q47 =>
        (gm_158 x1 q47.2).bind fun q49 =>
        if (-2147483648 ≤ q47.1 ∧ q47.1 ≤ 2147483647) then (
        if (-2147483648 ≤ q49.1 ∧ q49.1 ≤ 2147483647) then (
        if ¬ q47.1 = q49.1 then (
          some (false, q49.2)) else (
          some (true, q49.2))) else none) else none)) else none)) else none)) else none
/-! ZoneSharesModel.apart(I)I -/
def gm_223_108 (x2 : Int) (s : gx_S) : Option (Int × gx_S) :=
  some (x2, s)
def gm_223_80 : Nat → Int → Int → Int → gx_S → Option (Int × gx_S)
  | 0, _, _, _, _ => none
  | n + 1, x1, x2, x3, s =>
    if (-2147483648 ≤ x3 ∧ x3 ≤ 2147483647) then (
    if 8 ≤ x3 then (
      gm_223_108 x2 s) else (
      if (-2147483648 ≤ x1 ∧ x1 ≤ 2147483647) then (
      if x1 ≤ 0 then (
        gm_223_108 x2 s) else (
        (gm_222 x3 x1 s).bind fun q6 =>
        (gm_131 (gb q6.1) q6.2).bind fun q8 =>
        gm_223_80 n x1 (x2 + q8.1) (x3 + 1) q8.2)) else none)) else none
def gm_223_78 (x1 : Int) (x2 : Int) (s : gx_S) : Option (Int × gx_S) :=
  gm_223_80 100000 x1 x2 0 s
def gm_223_67 (k_34 : Int → Int → Int → gx_S → Option (Int × gx_S)) (x1 : Int) (x3 : Int) (s0 : Int) (s1 : Int) (s : gx_S) : Option (Int × gx_S) :=
  (gm_131 s1 s).bind fun q2 =>
  k_34 x1 (s0 + q2.1) (x3 + 1) q2.2
def gm_223_34 : Nat → Int → Int → Int → gx_S → Option (Int × gx_S)
  | 0, _, _, _, _ => none
  | n + 1, x1, x2, x3, s =>
    (gm_151 s).bind fun q2 =>
    if (-2147483648 ≤ x3 ∧ x3 ≤ 2147483647) then (
    if (-2147483648 ≤ q2.1 ∧ q2.1 ≤ 2147483647) then (
    if q2.1 ≤ x3 then (
      gm_223_78 x1 x2 q2.2) else (
      if (-2147483648 ≤ x1 ∧ x1 ≤ 2147483647) then (
      if ¬ x1 = 0 then (
        gm_223_78 x1 x2 q2.2) else (
        (gm_152 0 x3 q2.2).bind fun q9 =>
        (gm_152 1 x3 q9.2).bind fun q11 =>
        if (-2147483648 ≤ q9.1 ∧ q9.1 ≤ 2147483647) then (
        if (-2147483648 ≤ q11.1 ∧ q11.1 ≤ 2147483647) then (
        if q9.1 = q11.1 then (
          gm_223_67 (gm_223_34 n) x1 x3 x2 0 q11.2) else (
          gm_223_67 (gm_223_34 n) x1 x3 x2 1 q11.2)) else none) else none)) else none)) else none) else none
def gm_223 (x1 : Int) (s : gx_S) : Option (Int × gx_S) :=
  if (-2147483648 ≤ x1 ∧ x1 ≤ 2147483647) then (
  (gm_130 x1 0 3 s).bind fun q37 =>
  if (gb q37.1) = 0 then (
    some ((-1), q37.2)) else (
    (gm_144 0 q37.2).bind fun q40 =>
    if (gb q40.1) = 0 then (
      some ((-1), q40.2)) else (
      (gm_144 1 q40.2).bind fun q43 =>
      if ¬ (gb q43.1) = 0 then (
        gm_223_34 100000 x1 0 0 q43.2) else (
        some ((-1), q43.2))))) else none
/-! ZoneShares$CountsText.wrongPart(LZoneShares$Tape;)I -/
def gm_5 (s : gx_S) : Option (Int × gx_S) :=
  (gm_83 (s.1 60 2) s).bind fun q28 =>
  (gm_7 q28.1 q28.2).bind fun q30 =>
  if (-2147483648 ≤ q30.1 ∧ q30.1 ≤ 2147483647) then (
  if ¬ q30.1 = (-1) then (
    if (-2147483648 ≤ ((Int32.ofInt (((Int32.ofInt (q30.2.1 60 1) >>> (Int32.ofInt q30.1 &&& 31))).toInt) &&& Int32.ofInt 1)).toInt ∧ ((Int32.ofInt (((Int32.ofInt (q30.2.1 60 1) >>> (Int32.ofInt q30.1 &&& 31))).toInt) &&& Int32.ofInt 1)).toInt ≤ 2147483647) then (
    if ¬ ((Int32.ofInt (((Int32.ofInt (q30.2.1 60 1) >>> (Int32.ofInt q30.1 &&& 31))).toInt) &&& Int32.ofInt 1)).toInt = 1 then (
      (gm_83 ((gw1 (gw1 q30.2 60 1 (((Int32.ofInt (q30.2.1 60 1) ||| Int32.ofInt (((Int32.ofInt 1 <<< (Int32.ofInt q30.1 &&& 31))).toInt))).toInt)) 60 2 (((gw1 q30.2 60 1 (((Int32.ofInt (q30.2.1 60 1) ||| Int32.ofInt (((Int32.ofInt 1 <<< (Int32.ofInt q30.1 &&& 31))).toInt))).toInt)).1 60 2) + 1)).1 60 2) (gw1 (gw1 q30.2 60 1 (((Int32.ofInt (q30.2.1 60 1) ||| Int32.ofInt (((Int32.ofInt 1 <<< (Int32.ofInt q30.1 &&& 31))).toInt))).toInt)) 60 2 (((gw1 q30.2 60 1 (((Int32.ofInt (q30.2.1 60 1) ||| Int32.ofInt (((Int32.ofInt 1 <<< (Int32.ofInt q30.1 &&& 31))).toInt))).toInt)).1 60 2) + 1))).bind fun q36 =>
      if (-2147483648 ≤ q36.1 ∧ q36.1 ≤ 2147483647) then (
      if q36.1 = 61 then (
        (gm_83 ((gw1 q36.2 60 2 ((q36.2.1 60 2) + 1)).1 60 2) (gw1 q36.2 60 2 ((q36.2.1 60 2) + 1))).bind fun q40 =>
        (gm_8 q40.1 q40.2).bind fun q42 =>
        if ¬ (gb q42.1) = 0 then (
          (gm_6 q42.2).bind fun q45 =>
          if 0 ≤ q30.1 ∧ q30.1 < 9 then (
          if (-2147483648 ≤ ((gw1 q45.2 61 (q30.1).toNat q45.1).1 61 (q30.1).toNat) ∧ ((gw1 q45.2 61 (q30.1).toNat q45.1).1 61 (q30.1).toNat) ≤ 2147483647) then (
          if ((gw1 q45.2 61 (q30.1).toNat q45.1).1 61 (q30.1).toNat) ≤ 9999 then (
            some (0, (gw1 q45.2 61 (q30.1).toNat q45.1))) else (
            some (2, (gw1 (gw1 q45.2 61 (q30.1).toNat q45.1) 60 2 (q42.2.1 60 2))))) else none) else none) else (
          some (1, q42.2))) else (
        some (1, q36.2))) else none) else (
      some (3, q30.2))) else none) else (
    some (1, q30.2))) else none
theorem gf_5 {s : gx_S} {σ : fx_S} (es : σ = gx s) {q : Int × gx_S} (h : gm_5 s = some q) : fm_5 σ = some (Int32.ofInt q.1, gx q.2) := by
  unfold gm_5 at h
  unfold fm_5
  obtain ⟨q28, w27, h⟩ := fx_bd h
  refine gb_bind (gf_83 (gf1 es 60 2) es w27) ?_
  obtain ⟨q30, w29, h⟩ := fx_bd h
  refine gb_bind (gf_7 (gr q28.1) (rfl : _ = gx q28.2) w29) ?_
  obtain ⟨z31, h⟩ := fx_gd h
  by_cases c32 : ¬ q30.1 = (-1)
  · rw [if_pos c32] at h
    refine gb_t ((gc_ne (gr q30.1) kg_m1 z31 (by decide)).mpr c32) ?_
    obtain ⟨z33, h⟩ := fx_gd h
    by_cases c34 : ¬ ((Int32.ofInt (((Int32.ofInt (q30.2.1 60 1) >>> (Int32.ofInt q30.1 &&& 31))).toInt) &&& Int32.ofInt 1)).toInt = 1
    · rw [if_pos c34] at h
      refine gb_t ((gc_ne (ga_o2 (f := (fun a b => (a &&& b))) (ga_o2 (f := (fun a b => (a >>> (b &&& 31)))) (gf1 (rfl : _ = gx q30.2) 60 1) (gr q30.1)) kg_1) kg_1 z33 (by decide)).mpr c34) ?_
      obtain ⟨q36, w35, h⟩ := fx_bd h
      refine gb_bind (gf_83 (gf1 (gx_w1 (gx_w1 (rfl : _ = gx q30.2) (ga_o2 (f := (fun a b => (a ||| b))) (gf1 (rfl : _ = gx q30.2) 60 1) (ga_o2 (f := (fun a b => (a <<< (b &&& 31)))) kg_1 (gr q30.1)))) (ga_add (gf1 (gx_w1 (rfl : _ = gx q30.2) (ga_o2 (f := (fun a b => (a ||| b))) (gf1 (rfl : _ = gx q30.2) 60 1) (ga_o2 (f := (fun a b => (a <<< (b &&& 31)))) kg_1 (gr q30.1)))) 60 2) kg_1)) 60 2) (gx_w1 (gx_w1 (rfl : _ = gx q30.2) (ga_o2 (f := (fun a b => (a ||| b))) (gf1 (rfl : _ = gx q30.2) 60 1) (ga_o2 (f := (fun a b => (a <<< (b &&& 31)))) kg_1 (gr q30.1)))) (ga_add (gf1 (gx_w1 (rfl : _ = gx q30.2) (ga_o2 (f := (fun a b => (a ||| b))) (gf1 (rfl : _ = gx q30.2) 60 1) (ga_o2 (f := (fun a b => (a <<< (b &&& 31)))) kg_1 (gr q30.1)))) 60 2) kg_1)) w35) ?_
      obtain ⟨z37, h⟩ := fx_gd h
      by_cases c38 : q36.1 = 61
      · rw [if_pos c38] at h
        refine gb_t ((gc_eq (gr q36.1) kg_61 z37 (by decide)).mpr c38) ?_
        obtain ⟨q40, w39, h⟩ := fx_bd h
        refine gb_bind (gf_83 (gf1 (gx_w1 (rfl : _ = gx q36.2) (ga_add (gf1 (rfl : _ = gx q36.2) 60 2) kg_1)) 60 2) (gx_w1 (rfl : _ = gx q36.2) (ga_add (gf1 (rfl : _ = gx q36.2) 60 2) kg_1)) w39) ?_
        obtain ⟨q42, w41, h⟩ := fx_bd h
        refine gb_bind (gf_8 (gr q40.1) (rfl : _ = gx q40.2) w41) ?_
        by_cases c43 : ¬ (gb q42.1) = 0
        · rw [if_pos c43] at h
          refine gb_t ((gc_ne (gb_b q42.1) kg_0 (gb_r _) (by decide)).mpr c43) ?_
          obtain ⟨q45, w44, h⟩ := fx_bd h
          refine gb_bind (gf_6 (rfl : _ = gx q42.2) w44) ?_
          obtain ⟨z48, h⟩ := fx_gd h
          refine gb_bind (gl_st (rfl : _ = gx q45.2) (gr q30.1) (gr q45.1) ga_61 z48) ?_
          refine gb_bind (gl_ld (rfl : _ = gx (gw1 q45.2 61 (q30.1).toNat q45.1)) (gr q30.1) ga_61 z48) ?_
          obtain ⟨z51, h⟩ := fx_gd h
          by_cases c52 : ((gw1 q45.2 61 (q30.1).toNat q45.1).1 61 (q30.1).toNat) ≤ 9999
          · rw [if_pos c52] at h
            refine gb_t ((gc_le (gr ((gw1 q45.2 61 (q30.1).toNat q45.1).1 61 (q30.1).toNat)) kg_9999 z51 (by decide)).mpr c52) ?_
            have h := Option.some.inj h
            subst h
            exact gret kg_0 (rfl : _ = gx (gw1 q45.2 61 (q30.1).toNat q45.1))
          · rw [if_neg c52] at h
            refine gb_f (fun q => c52 ((gc_le (gr ((gw1 q45.2 61 (q30.1).toNat q45.1).1 61 (q30.1).toNat)) kg_9999 z51 (by decide)).mp q)) ?_
            have h := Option.some.inj h
            subst h
            exact gret kg_2 (gx_w1 (rfl : _ = gx (gw1 q45.2 61 (q30.1).toNat q45.1)) (gf1 (rfl : _ = gx q42.2) 60 2))
        · rw [if_neg c43] at h
          refine gb_f (fun q => c43 ((gc_ne (gb_b q42.1) kg_0 (gb_r _) (by decide)).mp q)) ?_
          have h := Option.some.inj h
          subst h
          exact gret kg_1 (rfl : _ = gx q42.2)
      · rw [if_neg c38] at h
        refine gb_f (fun q => c38 ((gc_eq (gr q36.1) kg_61 z37 (by decide)).mp q)) ?_
        have h := Option.some.inj h
        subst h
        exact gret kg_1 (rfl : _ = gx q36.2)
    · rw [if_neg c34] at h
      refine gb_f (fun q => c34 ((gc_ne (ga_o2 (f := (fun a b => (a &&& b))) (ga_o2 (f := (fun a b => (a >>> (b &&& 31)))) (gf1 (rfl : _ = gx q30.2) 60 1) (gr q30.1)) kg_1) kg_1 z33 (by decide)).mp q)) ?_
      have h := Option.some.inj h
      subst h
      exact gret kg_3 (rfl : _ = gx q30.2)
  · rw [if_neg c32] at h
    refine gb_f (fun q => c32 ((gc_ne (gr q30.1) kg_m1 z31 (by decide)).mp q)) ?_
    have h := Option.some.inj h
    subst h
    exact gret kg_1 (rfl : _ = gx q30.2)

/-! ZoneShares$Fitter.look(LZoneShares$State;I)V -/
def gm_10_98 (k_28 : Nat → Int → Int → gx_S → Option (gx_S)) (x1 : Nat) (x2 : Int) (x3 : Int) (s : gx_S) : Option (gx_S) :=
  k_28 x1 x2 (x3 + 1) s
def gm_10_28 : Nat → Nat → Int → Int → gx_S → Option (gx_S)
  | 0, _, _, _, _ => none
  | n + 1, x1, x2, x3, s =>
    if (-2147483648 ≤ x3 ∧ x3 ≤ 2147483647) then (
    if 8 ≤ x3 then (
      if 0 ≤ ((x2 * 4) : Int) ∧ 0 ≤ (0 : Int) ∧ 0 ≤ (4 : Int) ∧ ((x2 * 4) : Int) + 4 ≤ 12 ∧ (0 : Int) + 4 ≤ 4 then (
      some (gcp s (x1 + 3) ((x2 * 4)).toNat 63 0 4)) else none) else (
      (gm_62 x1 0 x3 s).bind fun q7 =>
      if (-2147483648 ≤ q7.1 ∧ q7.1 ≤ 2147483647) then (
      if q7.1 ≤ 0 then (
        gm_10_98 (gm_10_28 n) x1 x2 x3 q7.2) else (
        (gm_11 x1 x3 q7.2).bind fun q11 =>
        if 0 ≤ ((x2 * 9) + x3) ∧ ((x2 * 9) + x3) < 27 then (
        if 0 ≤ (q11.1 62 2) ∧ (q11.1 62 2) < 8 then (
        if 0 ≤ ((gw1 q11 64 ((q11.1 62 2)).toNat (q11.1 (x1 + 2) (((x2 * 9) + x3)).toNat)).1 62 2) ∧ ((gw1 q11 64 ((q11.1 62 2)).toNat (q11.1 (x1 + 2) (((x2 * 9) + x3)).toNat)).1 62 2) < 8 then (
        if (-2147483648 ≤ ((gw1 q11 64 ((q11.1 62 2)).toNat (q11.1 (x1 + 2) (((x2 * 9) + x3)).toNat)).1 64 (((gw1 q11 64 ((q11.1 62 2)).toNat (q11.1 (x1 + 2) (((x2 * 9) + x3)).toNat)).1 62 2)).toNat) ∧ ((gw1 q11 64 ((q11.1 62 2)).toNat (q11.1 (x1 + 2) (((x2 * 9) + x3)).toNat)).1 64 (((gw1 q11 64 ((q11.1 62 2)).toNat (q11.1 (x1 + 2) (((x2 * 9) + x3)).toNat)).1 62 2)).toNat) ≤ 2147483647) then (
        gm_10_98 (gm_10_28 n) x1 x2 x3 (gw1 (gw2 (gw1 q11 64 ((q11.1 62 2)).toNat (q11.1 (x1 + 2) (((x2 * 9) + x3)).toNat)) 62 1 (((gw1 q11 64 ((q11.1 62 2)).toNat (q11.1 (x1 + 2) (((x2 * 9) + x3)).toNat)).2 62 1) + ((gw1 q11 64 ((q11.1 62 2)).toNat (q11.1 (x1 + 2) (((x2 * 9) + x3)).toNat)).1 64 (((gw1 q11 64 ((q11.1 62 2)).toNat (q11.1 (x1 + 2) (((x2 * 9) + x3)).toNat)).1 62 2)).toNat))) 62 2 (((gw2 (gw1 q11 64 ((q11.1 62 2)).toNat (q11.1 (x1 + 2) (((x2 * 9) + x3)).toNat)) 62 1 (((gw1 q11 64 ((q11.1 62 2)).toNat (q11.1 (x1 + 2) (((x2 * 9) + x3)).toNat)).2 62 1) + ((gw1 q11 64 ((q11.1 62 2)).toNat (q11.1 (x1 + 2) (((x2 * 9) + x3)).toNat)).1 64 (((gw1 q11 64 ((q11.1 62 2)).toNat (q11.1 (x1 + 2) (((x2 * 9) + x3)).toNat)).1 62 2)).toNat))).1 62 2) + 1))) else none) else none) else none) else none)) else none)) else none
def gm_10 (x1 : Nat) (x2 : Int) (s : gx_S) : Option (gx_S) :=
  if fx_oc x1 6 = true then (
  (gm_235 65 0 s).bind fun q27 =>
  (gm_235 66 0 q27).bind fun q29 =>
  gm_10_28 100000 x1 x2 0 (gw2 (gw1 q29 62 2 0) 62 1 0)) else none
/-! ZoneShares$Group.shareUnknown()V -/
def gm_22_176 : Nat → Nat → Int → gx_S → Option (gx_S)
  | 0, _, _, _ => none
  | n + 1, x0, x3, s =>
    if (-2147483648 ≤ x3 ∧ x3 ≤ 2147483647) then (
    if 8 ≤ x3 then (
      some s) else (
      if 0 ≤ x3 ∧ x3 < 8 then (
      if 0 ≤ x3 ∧ x3 < 72 then (
      gm_22_176 n x0 (x3 + 1) (gw1 s (x0 + 1) (x3).toNat ((s.1 (x0 + 1) (x3).toNat) + (s.1 ((x0 + 39) + 8) (x3).toNat)))) else none) else none)) else none
theorem gf_22_176 : ∀ (n : Nat) (x0 : Nat) (x3 : Int) (yx3 : Int32) (e3 : yx3 = Int32.ofInt x3) (s : gx_S) (σ : fx_S) (es : σ = gx s) (q : gx_S) (g0 : fx_oc x0 2 = true), gm_22_176 n x0 x3 s = some q → fm_22_176 n x0 yx3 σ = some (gx q) := by
  intro n
  induction n with
  | zero =>
    intro x0 x3 yx3 e3 s σ es q g0 h
    rw [gm_22_176] at h
    exact fx_no h
  | succ n ih =>
    intro x0 x3 yx3 e3 s σ es q g0 h
    rw [gm_22_176] at h
    rw [fm_22_176]
    obtain ⟨z1, h⟩ := fx_gd h
    by_cases c2 : 8 ≤ x3
    · rw [if_pos c2] at h
      refine gb_t ((gc_le kg_8 e3 (by decide) z1).mpr c2) ?_
      have h := Option.some.inj h
      subst h
      exact gretv es
    · rw [if_neg c2] at h
      refine gb_f (fun q => c2 ((gc_le kg_8 e3 (by decide) z1).mp q)) ?_
      obtain ⟨z5, h⟩ := fx_gd h
      refine gb_bind (gl_ld es e3 (ga_2_0 g0) z5) ?_
      obtain ⟨z8, h⟩ := fx_gd h
      refine gb_bind (gl_ld es e3 (ga_7_7 (fg_2_12 g0)) z8) ?_
      refine gb_bind (gl_st es e3 (ga_add (gr (s.1 (x0 + 1) (x3).toNat)) (gr (s.1 ((x0 + 39) + 8) (x3).toNat))) (ga_2_0 g0) z5) ?_
      exact ih _ _ _ (ga_add e3 kg_1) _ _ (rfl : _ = gx (gw1 s (x0 + 1) (x3).toNat ((s.1 (x0 + 1) (x3).toNat) + (s.1 ((x0 + 39) + 8) (x3).toNat)))) _ g0 h
def gm_22_139 (x0 : Nat) (s0 : Nat) (s1 : Int) (s : gx_S) : Option (gx_S) :=
  (gm_70 (x0 + 39) (gw1 (gw1 s s0 7 s1) ((x0 + 39) + 1) 0 (((gw1 s s0 7 s1).1 x0 6) - ((gw1 s s0 7 s1).1 x0 7)))).bind fun q4 =>
  (gm_74 (x0 + 39) q4).bind fun q6 =>
  gm_22_176 100000 x0 0 q6
theorem gf_22_139 (x0 : Nat) (s0 : Nat) (s1 : Int) (ys1 : Int32) (es1 : ys1 = Int32.ofInt s1) (s : gx_S) (σ : fx_S) (es : σ = gx s) (q : gx_S) (g0 : fx_oc x0 2 = true) (gs0 : fx_oc s0 2 = true) (h : gm_22_139 x0 s0 s1 s = some q) : fm_22_139 x0 s0 ys1 σ = some (gx q) := by
  unfold gm_22_139 at h
  unfold fm_22_139
  refine gb_bind (gl_st (gx_w1 es es1) kg_0 (ga_sub (gf1 (gx_w1 es es1) x0 6) (gf1 (gx_w1 es es1) x0 7)) (ga_7_0 (fg_2_12 g0)) (by decide)) ?_
  obtain ⟨q4, w3, h⟩ := fx_bd h
  refine gb_bind (gf_70 (rfl : _ = gx (gw1 (gw1 s s0 7 s1) ((x0 + 39) + 1) 0 (((gw1 s s0 7 s1).1 x0 6) - ((gw1 s s0 7 s1).1 x0 7)))) w3) ?_
  obtain ⟨q6, w5, h⟩ := fx_bd h
  refine gb_bind (gf_74 (rfl : _ = gx q4) w5) ?_
  exact gf_22_176 100000 _ _ _ kg_0 _ _ (rfl : _ = gx q6) _ g0 h
def gm_22_131 (x0 : Nat) (s0 : Nat) (s : gx_S) : Option (gx_S) :=
  gm_22_139 x0 s0 (s.1 x0 6) s
theorem gf_22_131 (x0 : Nat) (s0 : Nat) (s : gx_S) (σ : fx_S) (es : σ = gx s) (q : gx_S) (g0 : fx_oc x0 2 = true) (gs0 : fx_oc s0 2 = true) (h : gm_22_131 x0 s0 s = some q) : fm_22_131 x0 s0 σ = some (gx q) := by
  unfold gm_22_131 at h
  unfold fm_22_131
  exact gf_22_139 _ _ _ _ (gf1 es x0 6) _ _ es _ g0 gs0 h
def gm_22_61 (k_13 : Nat → Int → Int → Int → gx_S → Option (gx_S)) (x0 : Nat) (x1 : Int) (x2 : Int) (x3 : Int) (x4 : Int) (s0 : Nat) (s1 : Int) (s2 : Int) (s : gx_S) : Option (gx_S) :=
  if gx_p s0 = true then (
  if 0 ≤ s1 ∧ s1 < ((fx_sh s0).2 : Int) then (
  if 0 ≤ x3 ∧ x3 < 8 then (
  (gm_69 (x0 + 39) 0 x3 ((gw1 s s0 (s1).toNat s2).1 (x0 + 1) (x3).toNat) x4 (gw1 s s0 (s1).toNat s2)).bind fun q9 =>
  k_13 x0 (x1 + (q9.1 (x0 + 1) (x3).toNat)) (x2 + x4) (x3 + 1) q9) else none) else none) else none
theorem gf_22_61 {kf_13 : Nat → Int32 → Int32 → Int32 → fx_S → Option (fx_S)} {kg_13 : Nat → Int → Int → Int → gx_S → Option (gx_S)} (hk_13 : ∀ (x0 : Nat) (x1 : Int) (yx1 : Int32) (e1 : yx1 = Int32.ofInt x1) (x2 : Int) (yx2 : Int32) (e2 : yx2 = Int32.ofInt x2) (x3 : Int) (yx3 : Int32) (e3 : yx3 = Int32.ofInt x3) (s : gx_S) (σ : fx_S) (es : σ = gx s) (q : gx_S) (g0 : fx_oc x0 2 = true), kg_13 x0 x1 x2 x3 s = some q → kf_13 x0 yx1 yx2 yx3 σ = some (gx q)) (x0 : Nat) (x1 : Int) (yx1 : Int32) (e1 : yx1 = Int32.ofInt x1) (x2 : Int) (yx2 : Int32) (e2 : yx2 = Int32.ofInt x2) (x3 : Int) (yx3 : Int32) (e3 : yx3 = Int32.ofInt x3) (x4 : Int) (yx4 : Int32) (e4 : yx4 = Int32.ofInt x4) (s0 : Nat) (s1 : Int) (ys1 : Int32) (es1 : ys1 = Int32.ofInt s1) (s2 : Int) (ys2 : Int32) (es2 : ys2 = Int32.ofInt s2) (s : gx_S) (σ : fx_S) (es : σ = gx s) (q : gx_S) (g0 : fx_oc x0 2 = true) (h : gm_22_61 kg_13 x0 x1 x2 x3 x4 s0 s1 s2 s = some q) : fm_22_61 kf_13 x0 yx1 yx2 yx3 yx4 s0 ys1 ys2 σ = some (gx q) := by
  unfold gm_22_61 at h
  unfold fm_22_61
  obtain ⟨z3, h⟩ := fx_gd h
  obtain ⟨z4, h⟩ := fx_gd h
  refine gb_bind (gl_st es es1 es2 z3 z4) ?_
  obtain ⟨z7, h⟩ := fx_gd h
  refine gb_bind (gl_ld (rfl : _ = gx (gw1 s s0 (s1).toNat s2)) e3 (ga_2_0 g0) z7) ?_
  obtain ⟨q9, w8, h⟩ := fx_bd h
  refine gb_bind (gf_69 kg_0 e3 (gr ((gw1 s s0 (s1).toNat s2).1 (x0 + 1) (x3).toNat)) e4 (rfl : _ = gx (gw1 s s0 (s1).toNat s2)) w8) ?_
  refine gb_bind (gl_ld (rfl : _ = gx q9) e3 (ga_2_0 g0) z7) ?_
  exact hk_13 _ _ _ (ga_add e1 (gr (q9.1 (x0 + 1) (x3).toNat))) _ _ (ga_add e2 e4) _ _ (ga_add e3 kg_1) _ _ (rfl : _ = gx q9) _ g0 h
def gm_22_13 : Nat → Nat → Int → Int → Int → gx_S → Option (gx_S)
  | 0, _, _, _, _, _ => none
  | n + 1, x0, x1, x2, x3, s =>
    if (-2147483648 ≤ x3 ∧ x3 ≤ 2147483647) then (
    if 8 ≤ x3 then (
      (gm_66 1 (s.1 x0 9) s).bind fun q4 =>
      if (-2147483648 ≤ ((gw1 q4.2 x0 6 (q4.1 - x1)).1 1 8) ∧ ((gw1 q4.2 x0 6 (q4.1 - x1)).1 1 8) ≤ 2147483647) then (
      if ((gw1 q4.2 x0 6 (q4.1 - x1)).1 1 8) = 0 then (
        gm_22_131 x0 x0 (gw1 q4.2 x0 6 (q4.1 - x1))) else (
        if (-2147483648 ≤ x2 ∧ x2 ≤ 2147483647) then (
        if ¬ x2 = 0 then (
          gm_22_139 x0 x0 0 (gw1 q4.2 x0 6 (q4.1 - x1))) else (
          gm_22_131 x0 x0 (gw1 q4.2 x0 6 (q4.1 - x1)))) else none)) else none) else (
      (gm_62 1 0 x3 s).bind fun q10 =>
      if (-2147483648 ≤ q10.1 ∧ q10.1 ≤ 2147483647) then (
      if q10.1 ≤ 0 then (
        gm_22_61 (gm_22_13 n) x0 x1 x2 x3 q10.1 (x0 + 1) x3 0 q10.2) else (
        if 0 ≤ (((q10.2.1 x0 9) * 9) + x3) ∧ (((q10.2.1 x0 9) * 9) + x3) < 27 then (
        gm_22_61 (gm_22_13 n) x0 x1 x2 x3 q10.1 (x0 + 1) x3 (q10.2.1 3 ((((q10.2.1 x0 9) * 9) + x3)).toNat) q10.2) else none)) else none)) else none
theorem gf_22_13 : ∀ (n : Nat) (x0 : Nat) (x1 : Int) (yx1 : Int32) (e1 : yx1 = Int32.ofInt x1) (x2 : Int) (yx2 : Int32) (e2 : yx2 = Int32.ofInt x2) (x3 : Int) (yx3 : Int32) (e3 : yx3 = Int32.ofInt x3) (s : gx_S) (σ : fx_S) (es : σ = gx s) (q : gx_S) (g0 : fx_oc x0 2 = true), gm_22_13 n x0 x1 x2 x3 s = some q → fm_22_13 n x0 yx1 yx2 yx3 σ = some (gx q) := by
  intro n
  induction n with
  | zero =>
    intro x0 x1 yx1 e1 x2 yx2 e2 x3 yx3 e3 s σ es q g0 h
    rw [gm_22_13] at h
    exact fx_no h
  | succ n ih =>
    intro x0 x1 yx1 e1 x2 yx2 e2 x3 yx3 e3 s σ es q g0 h
    rw [gm_22_13] at h
    rw [fm_22_13]
    obtain ⟨z1, h⟩ := fx_gd h
    by_cases c2 : 8 ≤ x3
    · rw [if_pos c2] at h
      refine gb_t ((gc_le kg_8 e3 (by decide) z1).mpr c2) ?_
      obtain ⟨q4, w3, h⟩ := fx_bd h
      refine gb_bind (gf_66 (gf1 es x0 9) es w3) ?_
      obtain ⟨z5, h⟩ := fx_gd h
      by_cases c6 : ((gw1 q4.2 x0 6 (q4.1 - x1)).1 1 8) = 0
      · rw [if_pos c6] at h
        refine gb_t ((gc_eq (gf1 (gx_w1 (rfl : _ = gx q4.2) (ga_sub (gr q4.1) e1)) 1 8) kg_0 z5 (by decide)).mpr c6) ?_
        exact gf_22_131 _ _ _ _ (gx_w1 (rfl : _ = gx q4.2) (ga_sub (gr q4.1) e1)) _ g0 g0 h
      · rw [if_neg c6] at h
        refine gb_f (fun q => c6 ((gc_eq (gf1 (gx_w1 (rfl : _ = gx q4.2) (ga_sub (gr q4.1) e1)) 1 8) kg_0 z5 (by decide)).mp q)) ?_
        obtain ⟨z7, h⟩ := fx_gd h
        by_cases c8 : ¬ x2 = 0
        · rw [if_pos c8] at h
          refine gb_t ((gc_ne e2 kg_0 z7 (by decide)).mpr c8) ?_
          exact gf_22_139 _ _ _ _ kg_0 _ _ (gx_w1 (rfl : _ = gx q4.2) (ga_sub (gr q4.1) e1)) _ g0 g0 h
        · rw [if_neg c8] at h
          refine gb_f (fun q => c8 ((gc_ne e2 kg_0 z7 (by decide)).mp q)) ?_
          exact gf_22_131 _ _ _ _ (gx_w1 (rfl : _ = gx q4.2) (ga_sub (gr q4.1) e1)) _ g0 g0 h
    · rw [if_neg c2] at h
      refine gb_f (fun q => c2 ((gc_le kg_8 e3 (by decide) z1).mp q)) ?_
      obtain ⟨q10, w9, h⟩ := fx_bd h
      refine gb_bind (gf_62 kg_0 e3 es w9) ?_
      obtain ⟨z11, h⟩ := fx_gd h
      by_cases c12 : q10.1 ≤ 0
      · rw [if_pos c12] at h
        refine gb_t ((gc_le (gr q10.1) kg_0 z11 (by decide)).mpr c12) ?_
        exact gf_22_61 ih _ _ _ e1 _ _ e2 _ _ e3 _ _ (gr q10.1) _ _ _ e3 _ _ kg_0 _ _ (rfl : _ = gx q10.2) _ g0 h
      · rw [if_neg c12] at h
        refine gb_f (fun q => c12 ((gc_le (gr q10.1) kg_0 z11 (by decide)).mp q)) ?_
        obtain ⟨z15, h⟩ := fx_gd h
        refine gb_bind (gl_ld (rfl : _ = gx q10.2) (ga_add (ga_mul (gf1 (rfl : _ = gx q10.2) x0 9) kg_9) e3) ga_3 z15) ?_
        exact gf_22_61 ih _ _ _ e1 _ _ e2 _ _ e3 _ _ (gr q10.1) _ _ _ e3 _ _ (gr (q10.2.1 3 ((((q10.2.1 x0 9) * 9) + x3)).toNat)) _ _ (rfl : _ = gx q10.2) _ g0 h
def gm_22 (x0 : Nat) (s : gx_S) : Option (gx_S) :=
  if fx_oc x0 2 = true then (
  (gm_68 (x0 + 39) s).bind fun q67 =>
  gm_22_13 100000 x0 0 0 0 q67) else none
theorem gf_22 {x0 : Nat} {s : gx_S} {σ : fx_S} (es : σ = gx s) {q : gx_S} (h : gm_22 x0 s = some q) : fm_22 x0 σ = some (gx q) := by
  unfold gm_22 at h
  unfold fm_22
  obtain ⟨gg, h⟩ := fx_gd h
  refine gb_t gg ?_
  have g0 := gg
  obtain ⟨q67, w66, h⟩ := fx_bd h
  refine gb_bind (gf_68 es w66) ?_
  exact gf_22_13 100000 _ _ _ kg_0 _ _ kg_0 _ _ kg_0 _ _ (rfl : _ = gx q67) _ g0 h

/-! ZoneShares$Group.fillMoves()V -/
def gm_23_86 (k_35 : Nat → Int → Int → gx_S → Option (gx_S)) (x0 : Nat) (x1 : Int) (x2 : Int) (s : gx_S) : Option (gx_S) :=
  k_35 x0 x1 (x2 + 1) s
theorem gf_23_86 {kf_35 : Nat → Int32 → Int32 → fx_S → Option (fx_S)} {kg_35 : Nat → Int → Int → gx_S → Option (gx_S)} (hk_35 : ∀ (x0 : Nat) (x1 : Int) (yx1 : Int32) (e1 : yx1 = Int32.ofInt x1) (x2 : Int) (yx2 : Int32) (e2 : yx2 = Int32.ofInt x2) (s : gx_S) (σ : fx_S) (es : σ = gx s) (q : gx_S) (g0 : fx_oc x0 2 = true), kg_35 x0 x1 x2 s = some q → kf_35 x0 yx1 yx2 σ = some (gx q)) (x0 : Nat) (x1 : Int) (yx1 : Int32) (e1 : yx1 = Int32.ofInt x1) (x2 : Int) (yx2 : Int32) (e2 : yx2 = Int32.ofInt x2) (s : gx_S) (σ : fx_S) (es : σ = gx s) (q : gx_S) (g0 : fx_oc x0 2 = true) (h : gm_23_86 kg_35 x0 x1 x2 s = some q) : fm_23_86 kf_35 x0 yx1 yx2 σ = some (gx q) := by
  unfold gm_23_86 at h
  unfold fm_23_86
  exact hk_35 _ _ _ e1 _ _ (ga_add e2 kg_1) _ _ es _ g0 h
def gm_23_35 : Nat → Nat → Int → Int → gx_S → Option (gx_S)
  | 0, _, _, _, _ => none
  | n + 1, x0, x1, x2, s =>
    if (-2147483648 ≤ x2 ∧ x2 ≤ 2147483647) then (
    if (-2147483648 ≤ x1 ∧ x1 ≤ 2147483647) then (
    if x1 ≤ x2 then (
      some s) else (
      (gm_60 1 0 x2 s).bind fun q5 =>
      if (-2147483648 ≤ q5.1 ∧ q5.1 ≤ 2147483647) then (
      if 8 ≤ q5.1 then (
        gm_23_86 (gm_23_35 n) x0 x1 x2 q5.2) else (
        (gm_60 1 1 x2 q5.2).bind fun q9 =>
        (gm_61 1 (q9.2.1 x0 9) x2 q9.2).bind fun q11 =>
        (gm_69 (x0 + 3) q5.1 q9.1 q11.1 1 q11.2).bind fun q13 =>
        gm_23_86 (gm_23_35 n) x0 x1 x2 q13)) else none)) else none) else none
theorem gf_23_35 : ∀ (n : Nat) (x0 : Nat) (x1 : Int) (yx1 : Int32) (e1 : yx1 = Int32.ofInt x1) (x2 : Int) (yx2 : Int32) (e2 : yx2 = Int32.ofInt x2) (s : gx_S) (σ : fx_S) (es : σ = gx s) (q : gx_S) (g0 : fx_oc x0 2 = true), gm_23_35 n x0 x1 x2 s = some q → fm_23_35 n x0 yx1 yx2 σ = some (gx q) := by
  intro n
  induction n with
  | zero =>
    intro x0 x1 yx1 e1 x2 yx2 e2 s σ es q g0 h
    rw [gm_23_35] at h
    exact fx_no h
  | succ n ih =>
    intro x0 x1 yx1 e1 x2 yx2 e2 s σ es q g0 h
    rw [gm_23_35] at h
    rw [fm_23_35]
    obtain ⟨z1, h⟩ := fx_gd h
    obtain ⟨z2, h⟩ := fx_gd h
    by_cases c3 : x1 ≤ x2
    · rw [if_pos c3] at h
      refine gb_t ((gc_le e1 e2 z2 z1).mpr c3) ?_
      have h := Option.some.inj h
      subst h
      exact gretv es
    · rw [if_neg c3] at h
      refine gb_f (fun q => c3 ((gc_le e1 e2 z2 z1).mp q)) ?_
      obtain ⟨q5, w4, h⟩ := fx_bd h
      refine gb_bind (gf_60 kg_0 e2 es w4) ?_
      obtain ⟨z6, h⟩ := fx_gd h
      by_cases c7 : 8 ≤ q5.1
      · rw [if_pos c7] at h
        refine gb_t ((gc_le kg_8 (gr q5.1) (by decide) z6).mpr c7) ?_
        exact gf_23_86 ih _ _ _ e1 _ _ e2 _ _ (rfl : _ = gx q5.2) _ g0 h
      · rw [if_neg c7] at h
        refine gb_f (fun q => c7 ((gc_le kg_8 (gr q5.1) (by decide) z6).mp q)) ?_
        obtain ⟨q9, w8, h⟩ := fx_bd h
        refine gb_bind (gf_60 kg_1 e2 (rfl : _ = gx q5.2) w8) ?_
        obtain ⟨q11, w10, h⟩ := fx_bd h
        refine gb_bind (gf_61 (gf1 (rfl : _ = gx q9.2) x0 9) e2 (rfl : _ = gx q9.2) w10) ?_
        obtain ⟨q13, w12, h⟩ := fx_bd h
        refine gb_bind (gf_69 (gr q5.1) (gr q9.1) (gr q11.1) kg_1 (rfl : _ = gx q11.2) w12) ?_
        exact gf_23_86 ih _ _ _ e1 _ _ e2 _ _ (rfl : _ = gx q13) _ g0 h
def gm_23 (x0 : Nat) (s : gx_S) : Option (gx_S) :=
  if fx_oc x0 2 = true then (
  (gm_68 (x0 + 3) s).bind fun q34 =>
  (gm_58 1 (gcp q34 (x0 + 1) 0 ((x0 + 3) + 1) 0 8)).bind fun q38 =>
  gm_23_35 100000 x0 q38.1 0 q38.2) else none
theorem gf_23 {x0 : Nat} {s : gx_S} {σ : fx_S} (es : σ = gx s) {q : gx_S} (h : gm_23 x0 s = some q) : fm_23 x0 σ = some (gx q) := by
  unfold gm_23 at h
  unfold fm_23
  obtain ⟨gg, h⟩ := fx_gd h
  refine gb_t gg ?_
  have g0 := gg
  obtain ⟨q34, w33, h⟩ := fx_bd h
  refine gb_bind (gf_68 es w33) ?_
  refine gb_bind (gl_cpy (rfl : _ = gx q34) kg_0 kg_0 kg_8 (ga_2_0 g0) (ga_7_0 (fg_2_2 g0)) (by decide)) ?_
  obtain ⟨q38, w37, h⟩ := fx_bd h
  refine gb_bind (gf_58 (rfl : _ = gx (gcp q34 (x0 + 1) 0 ((x0 + 3) + 1) 0 8)) w37) ?_
  exact gf_23_35 100000 _ _ _ (gr q38.1) _ _ kg_0 _ _ (rfl : _ = gx q38.2) _ g0 h
