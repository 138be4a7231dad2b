/-! ZoneSharesModel.in(JJJ)Z -/
def gm_130 (x0 : Int) (x2 : Int) (x4 : Int) (s : gx_S) : Option (Bool × gx_S) :=
  if (-9223372036854775808 ≤ x0 ∧ x0 ≤ 9223372036854775807) then (
  if (-9223372036854775808 ≤ x2 ∧ x2 ≤ 9223372036854775807) then (
  if x0 < x2 then (
    some (false, s)) else (
    if (-9223372036854775808 ≤ x4 ∧ x4 ≤ 9223372036854775807) then (
    if x4 < x0 then (
      some (false, s)) else (
      some (true, s))) else none)) else none) else none
theorem gf_130 {x0 : Int} {yx0 : Int64} (e0 : yx0 = Int64.ofInt x0) {x2 : Int} {yx2 : Int64} (e2 : yx2 = Int64.ofInt x2) {x4 : Int} {yx4 : Int64} (e4 : yx4 = Int64.ofInt x4) {s : gx_S} {σ : fx_S} (es : σ = gx s) {q : Bool × gx_S} (h : gm_130 x0 x2 x4 s = some q) : fm_130 yx0 yx2 yx4 σ = some (q.1, gx q.2) := by
  unfold gm_130 at h
  unfold fm_130
  obtain ⟨z6, h⟩ := fx_gd h
  obtain ⟨z7, h⟩ := fx_gd h
  by_cases c8 : x0 < x2
  · rw [if_pos c8] at h
    refine gb_t ((gcl_lt e0 e2 z6 z7).mpr c8) ?_
    have h := Option.some.inj h
    subst h
    exact gretb es
  · rw [if_neg c8] at h
    refine gb_f (fun q => c8 ((gcl_lt e0 e2 z6 z7).mp q)) ?_
    obtain ⟨z9, h⟩ := fx_gd h
    by_cases c10 : x4 < x0
    · rw [if_pos c10] at h
      refine gb_t ((gcl_lt e4 e0 z9 z6).mpr c10) ?_
      have h := Option.some.inj h
      subst h
      exact gretb es
    · rw [if_neg c10] at h
      refine gb_f (fun q => c10 ((gcl_lt e4 e0 z9 z6).mp q)) ?_
      have h := Option.some.inj h
      subst h
      exact gretb es

/-! ZoneSharesModel.truth(Z)I -/
def gm_131 (x0 : Int) (s : gx_S) : Option (Int × gx_S) :=
  if (-2147483648 ≤ x0 ∧ x0 ≤ 2147483647) then (
  if x0 = 0 then (
    some (0, s)) else (
    some (1, s))) else none
theorem gf_131 {x0 : Int} {yx0 : Int32} (e0 : yx0 = Int32.ofInt x0) {s : gx_S} {σ : fx_S} (es : σ = gx s) {q : Int × gx_S} (h : gm_131 x0 s = some q) : fm_131 yx0 σ = some (Int32.ofInt q.1, gx q.2) := by
  unfold gm_131 at h
  unfold fm_131
  obtain ⟨z3, h⟩ := fx_gd h
  by_cases c4 : x0 = 0
  · rw [if_pos c4] at h
    refine gb_t ((gc_eq e0 kg_0 z3 (by decide)).mpr c4) ?_
    have h := Option.some.inj h
    subst h
    exact gret kg_0 es
  · rw [if_neg c4] at h
    refine gb_f (fun q => c4 ((gc_eq e0 kg_0 z3 (by decide)).mp q)) ?_
    have h := Option.some.inj h
    subst h
    exact gret kg_1 es

/-! ZoneSharesModel.remembers()V -/
def gm_132_54 : Nat → Int → gx_S → Option (gx_S)
  | 0, _, _ => none
  | n + 1, x1, s =>
    if (-2147483648 ≤ x1 ∧ x1 ≤ 2147483647) then (
    if 340 ≤ x1 then (
      some (gw1 s 215 2 ((s.1 215 2) + 1))) else (
      if 0 ≤ x1 ∧ x1 < 340 then (
      if 0 ≤ ((340 * (s.1 215 2)) + x1) ∧ ((340 * (s.1 215 2)) + x1) < 2720 then (
      gm_132_54 n (x1 + 1) (gw1 s 217 (((340 * (s.1 215 2)) + x1)).toNat (s.1 216 (x1).toNat))) else none) else none)) else none
theorem gf_132_54 : ∀ (n : Nat) (x1 : Int) (yx1 : Int32) (e1 : yx1 = Int32.ofInt x1) (s : gx_S) (σ : fx_S) (es : σ = gx s) (q : gx_S), gm_132_54 n x1 s = some q → fm_132_54 n yx1 σ = some (gx q) := by
  intro n
  induction n with
  | zero =>
    intro x1 yx1 e1 s σ es q  h
    rw [gm_132_54] at h
    exact fx_no h
  | succ n ih =>
    intro x1 yx1 e1 s σ es q  h
    rw [gm_132_54] at h
    rw [fm_132_54]
    obtain ⟨z1, h⟩ := fx_gd h
    by_cases c2 : 340 ≤ x1
    · rw [if_pos c2] at h
      refine gb_t ((gc_le kg_340 e1 (by decide) z1).mpr c2) ?_
      have h := Option.some.inj h
      subst h
      exact gretv (gx_w1 es (ga_add (gf1 es 215 2) kg_1))
    · rw [if_neg c2] at h
      refine gb_f (fun q => c2 ((gc_le kg_340 e1 (by decide) z1).mp q)) ?_
      obtain ⟨z5, h⟩ := fx_gd h
      refine gb_bind (gl_ld es e1 ga_216 z5) ?_
      obtain ⟨z8, h⟩ := fx_gd h
      refine gb_bind (gl_st es (ga_add (ga_mul kg_340 (gf1 es 215 2)) e1) (gr (s.1 216 (x1).toNat)) ga_217 z8) ?_
      exact ih _ _ (ga_add e1 kg_1) _ _ (rfl : _ = gx (gw1 s 217 (((340 * (s.1 215 2)) + x1)).toNat (s.1 216 (x1).toNat))) _ h
def gm_132_52 (s : gx_S) : Option (gx_S) :=
  gm_132_54 100000 0 s
theorem gf_132_52 (s : gx_S) (σ : fx_S) (es : σ = gx s) (q : gx_S) (h : gm_132_52 s = some q) : fm_132_52 σ = some (gx q) := by
  unfold gm_132_52 at h
  unfold fm_132_52
  exact gf_132_54 100000 _ _ kg_0 _ _ es _ h
def gm_132_13 : Nat → Int → gx_S → Option (gx_S)
  | 0, _, _ => none
  | n + 1, x1, s =>
    if (-2147483648 ≤ x1 ∧ x1 ≤ 2147483647) then (
    if 2720 ≤ x1 then (
      gm_132_52 (gw1 s 215 2 ((s.1 215 2) - 1))) else (
      if 0 ≤ x1 ∧ x1 < 2720 then (
      if 0 ≤ (x1 - 340) ∧ (x1 - 340) < 2720 then (
      gm_132_13 n (x1 + 1) (gw1 s 217 ((x1 - 340)).toNat (s.1 217 (x1).toNat))) else none) else none)) else none
theorem gf_132_13 : ∀ (n : Nat) (x1 : Int) (yx1 : Int32) (e1 : yx1 = Int32.ofInt x1) (s : gx_S) (σ : fx_S) (es : σ = gx s) (q : gx_S), gm_132_13 n x1 s = some q → fm_132_13 n yx1 σ = some (gx q) := by
  intro n
  induction n with
  | zero =>
    intro x1 yx1 e1 s σ es q  h
    rw [gm_132_13] at h
    exact fx_no h
  | succ n ih =>
    intro x1 yx1 e1 s σ es q  h
    rw [gm_132_13] at h
    rw [fm_132_13]
    obtain ⟨z1, h⟩ := fx_gd h
    by_cases c2 : 2720 ≤ x1
    · rw [if_pos c2] at h
      refine gb_t ((gc_le kg_2720 e1 (by decide) z1).mpr c2) ?_
      exact gf_132_52 _ _ (gx_w1 es (ga_sub (gf1 es 215 2) kg_1)) _ h
    · rw [if_neg c2] at h
      refine gb_f (fun q => c2 ((gc_le kg_2720 e1 (by decide) z1).mp q)) ?_
      obtain ⟨z5, h⟩ := fx_gd h
      refine gb_bind (gl_ld es e1 ga_217 z5) ?_
      obtain ⟨z8, h⟩ := fx_gd h
      refine gb_bind (gl_st es (ga_sub e1 kg_340) (gr (s.1 217 (x1).toNat)) ga_217 z8) ?_
      exact ih _ _ (ga_add e1 kg_1) _ _ (rfl : _ = gx (gw1 s 217 ((x1 - 340)).toNat (s.1 217 (x1).toNat))) _ h
def gm_132 (s : gx_S) : Option (gx_S) :=
  if (-2147483648 ≤ (s.1 215 2) ∧ (s.1 215 2) ≤ 2147483647) then (
  if ¬ (s.1 215 2) = 8 then (
    gm_132_52 s) else (
    gm_132_13 100000 340 s)) else none
theorem gf_132 {s : gx_S} {σ : fx_S} (es : σ = gx s) {q : gx_S} (h : gm_132 s = some q) : fm_132 σ = some (gx q) := by
  unfold gm_132 at h
  unfold fm_132
  obtain ⟨z19, h⟩ := fx_gd h
  by_cases c20 : ¬ (s.1 215 2) = 8
  · rw [if_pos c20] at h
    refine gb_t ((gc_ne (gf1 es 215 2) kg_8 z19 (by decide)).mpr c20) ?_
    exact gf_132_52 _ _ es _ h
  · rw [if_neg c20] at h
    refine gb_f (fun q => c20 ((gc_ne (gf1 es 215 2) kg_8 z19 (by decide)).mp q)) ?_
    exact gf_132_13 100000 _ _ kg_340 _ _ es _ h

/-! ZoneSharesModel.undo()I -/
def gm_133_21 : Nat → Int → gx_S → Option (Int × gx_S)
  | 0, _, _ => none
  | n + 1, x1, s =>
    if (-2147483648 ≤ x1 ∧ x1 ≤ 2147483647) then (
    if 340 ≤ x1 then (
      some ((s.1 215 2), s)) else (
      if 0 ≤ ((340 * (s.1 215 2)) + x1) ∧ ((340 * (s.1 215 2)) + x1) < 2720 then (
      if 0 ≤ x1 ∧ x1 < 340 then (
      gm_133_21 n (x1 + 1) (gw1 s 216 (x1).toNat (s.1 217 (((340 * (s.1 215 2)) + x1)).toNat))) else none) else none)) else none
theorem gf_133_21 : ∀ (n : Nat) (x1 : Int) (yx1 : Int32) (e1 : yx1 = Int32.ofInt x1) (s : gx_S) (σ : fx_S) (es : σ = gx s) (q : Int × gx_S), gm_133_21 n x1 s = some q → fm_133_21 n yx1 σ = some (Int32.ofInt q.1, gx q.2) := by
  intro n
  induction n with
  | zero =>
    intro x1 yx1 e1 s σ es q  h
    rw [gm_133_21] at h
    exact fx_no h
  | succ n ih =>
    intro x1 yx1 e1 s σ es q  h
    rw [gm_133_21] at h
    rw [fm_133_21]
    obtain ⟨z1, h⟩ := fx_gd h
    by_cases c2 : 340 ≤ x1
    · rw [if_pos c2] at h
      refine gb_t ((gc_le kg_340 e1 (by decide) z1).mpr c2) ?_
      have h := Option.some.inj h
      subst h
      exact gret (gf1 es 215 2) es
    · rw [if_neg c2] at h
      refine gb_f (fun q => c2 ((gc_le kg_340 e1 (by decide) z1).mp q)) ?_
      obtain ⟨z5, h⟩ := fx_gd h
      refine gb_bind (gl_ld es (ga_add (ga_mul kg_340 (gf1 es 215 2)) e1) ga_217 z5) ?_
      obtain ⟨z8, h⟩ := fx_gd h
      refine gb_bind (gl_st es e1 (gr (s.1 217 (((340 * (s.1 215 2)) + x1)).toNat)) ga_216 z8) ?_
      exact ih _ _ (ga_add e1 kg_1) _ _ (rfl : _ = gx (gw1 s 216 (x1).toNat (s.1 217 (((340 * (s.1 215 2)) + x1)).toNat))) _ h
def gm_133 (s : gx_S) : Option (Int × gx_S) :=
  if (-2147483648 ≤ (s.1 215 2) ∧ (s.1 215 2) ≤ 2147483647) then (
  if ¬ (s.1 215 2) = 0 then (
    gm_133_21 100000 0 (gw1 s 215 2 ((s.1 215 2) - 1))) else (
    some ((-1), s))) else none
theorem gf_133 {s : gx_S} {σ : fx_S} (es : σ = gx s) {q : Int × gx_S} (h : gm_133 s = some q) : fm_133 σ = some (Int32.ofInt q.1, gx q.2) := by
  unfold gm_133 at h
  unfold fm_133
  obtain ⟨z11, h⟩ := fx_gd h
  by_cases c12 : ¬ (s.1 215 2) = 0
  · rw [if_pos c12] at h
    refine gb_t ((gc_ne (gf1 es 215 2) kg_0 z11 (by decide)).mpr c12) ?_
    exact gf_133_21 100000 _ _ kg_0 _ _ (gx_w1 es (ga_sub (gf1 es 215 2) kg_1)) _ h
  · rw [if_neg c12] at h
    refine gb_f (fun q => c12 ((gc_ne (gf1 es 215 2) kg_0 z11 (by decide)).mp q)) ?_
    have h := Option.some.inj h
    subst h
    exact gret kg_m1 es

/-! ZoneSharesModel.puts(I)V -/
def gm_135_3 : Nat → Int → Int → gx_S → Option (gx_S)
  | 0, _, _, _ => none
  | n + 1, x1, x2, s =>
    if (-2147483648 ≤ x2 ∧ x2 ≤ 2147483647) then (
    if x2 < 0 then (
      some s) else (
      if 0 ≤ (s.1 215 4) ∧ (s.1 215 4) < 200 then (
      gm_135_3 n x1 (x2 + (-8)) (gw1 (gw1 s 218 ((s.1 215 4)).toNat (gn3 (((Int32.ofInt (((Int32.ofInt x1 >>> (Int32.ofInt x2 &&& 31))).toInt)).toInt8.toInt32).toInt))) 215 4 (((gw1 s 218 ((s.1 215 4)).toNat (gn3 (((Int32.ofInt (((Int32.ofInt x1 >>> (Int32.ofInt x2 &&& 31))).toInt)).toInt8.toInt32).toInt))).1 215 4) + 1))) else none)) else none
theorem gf_135_3 : ∀ (n : Nat) (x1 : Int) (yx1 : Int32) (e1 : yx1 = Int32.ofInt x1) (x2 : Int) (yx2 : Int32) (e2 : yx2 = Int32.ofInt x2) (s : gx_S) (σ : fx_S) (es : σ = gx s) (q : gx_S), gm_135_3 n x1 x2 s = some q → fm_135_3 n yx1 yx2 σ = some (gx q) := by
  intro n
  induction n with
  | zero =>
    intro x1 yx1 e1 x2 yx2 e2 s σ es q  h
    rw [gm_135_3] at h
    exact fx_no h
  | succ n ih =>
    intro x1 yx1 e1 x2 yx2 e2 s σ es q  h
    rw [gm_135_3] at h
    rw [fm_135_3]
    obtain ⟨z1, h⟩ := fx_gd h
    by_cases c2 : x2 < 0
    · rw [if_pos c2] at h
      refine gb_t ((gc_lt e2 kg_0 z1 (by decide)).mpr c2) ?_
      have h := Option.some.inj h
      subst h
      exact gretv es
    · rw [if_neg c2] at h
      refine gb_f (fun q => c2 ((gc_lt e2 kg_0 z1 (by decide)).mp q)) ?_
      obtain ⟨z5, h⟩ := fx_gd h
      refine gb_bind (gl_stb3 es (gf1 es 215 4) (ga_o1 (f := fun a => a.toInt8.toInt32) (ga_o2 (f := (fun a b => (a >>> (b &&& 31)))) e1 e2)) ga_218 z5) ?_
      exact ih _ _ e1 _ _ (ga_add e2 kg_m8) _ _ (gx_w1 (rfl : _ = gx (gw1 s 218 ((s.1 215 4)).toNat (gn3 (((Int32.ofInt (((Int32.ofInt x1 >>> (Int32.ofInt x2 &&& 31))).toInt)).toInt8.toInt32).toInt)))) (ga_add (gf1 (rfl : _ = gx (gw1 s 218 ((s.1 215 4)).toNat (gn3 (((Int32.ofInt (((Int32.ofInt x1 >>> (Int32.ofInt x2 &&& 31))).toInt)).toInt8.toInt32).toInt)))) 215 4) kg_1)) _ h
def gm_135 (x1 : Int) (s : gx_S) : Option (gx_S) :=
  gm_135_3 100000 x1 24 s
theorem gf_135 {x1 : Int} {yx1 : Int32} (e1 : yx1 = Int32.ofInt x1) {s : gx_S} {σ : fx_S} (es : σ = gx s) {q : gx_S} (h : gm_135 x1 s = some q) : fm_135 yx1 σ = some (gx q) := by
  unfold gm_135 at h
  unfold fm_135
  exact gf_135_3 100000 _ _ e1 _ _ kg_24 _ _ es _ h

/-! ZoneSharesModel.end(I)I -/
def gm_136 (x1 : Int) (s : gx_S) : Option (Int × gx_S) :=
  if (-2147483648 ≤ x1 ∧ x1 ≤ 2147483647) then (
  if x1 < 0 then (
    some ((-1), s)) else (
    if (-2147483648 ≤ (s.1 215 4) ∧ (s.1 215 4) ≤ 2147483647) then (
    if x1 ≤ (s.1 215 4) then (
      some (x1, (gw1 s 215 4 x1))) else (
      some ((-1), s))) else none)) else none
theorem gf_136 {x1 : Int} {yx1 : Int32} (e1 : yx1 = Int32.ofInt x1) {s : gx_S} {σ : fx_S} (es : σ = gx s) {q : Int × gx_S} (h : gm_136 x1 s = some q) : fm_136 yx1 σ = some (Int32.ofInt q.1, gx q.2) := by
  unfold gm_136 at h
  unfold fm_136
  obtain ⟨z5, h⟩ := fx_gd h
  by_cases c6 : x1 < 0
  · rw [if_pos c6] at h
    refine gb_t ((gc_lt e1 kg_0 z5 (by decide)).mpr c6) ?_
    have h := Option.some.inj h
    subst h
    exact gret kg_m1 es
  · rw [if_neg c6] at h
    refine gb_f (fun q => c6 ((gc_lt e1 kg_0 z5 (by decide)).mp q)) ?_
    obtain ⟨z7, h⟩ := fx_gd h
    by_cases c8 : x1 ≤ (s.1 215 4)
    · rw [if_pos c8] at h
      refine gb_t ((gc_le e1 (gf1 es 215 4) z5 z7).mpr c8) ?_
      have h := Option.some.inj h
      subst h
      exact gret e1 (gx_w1 es e1)
    · rw [if_neg c8] at h
      refine gb_f (fun q => c8 ((gc_le e1 (gf1 es 215 4) z5 z7).mp q)) ?_
      have h := Option.some.inj h
      subst h
      exact gret kg_m1 es

/-! ZoneSharesModel.sign()I -/
def gm_137 (s : gx_S) : Option (Int × gx_S) :=
  if (-2147483648 ≤ (s.1 215 5) ∧ (s.1 215 5) ≤ 2147483647) then (
  if (-2147483648 ≤ (s.1 215 4) ∧ (s.1 215 4) ≤ 2147483647) then (
  if (s.1 215 4) ≤ (s.1 215 5) then (
    some ((-1), s)) else (
    if 0 ≤ (s.1 215 5) ∧ (s.1 215 5) < 200 then (
    some (((Int32.ofInt (s.1 218 ((s.1 215 5)).toNat) &&& Int32.ofInt 255)).toInt, s)) else none)) else none) else none
theorem gf_137 {s : gx_S} {σ : fx_S} (es : σ = gx s) {q : Int × gx_S} (h : gm_137 s = some q) : fm_137 σ = some (Int32.ofInt q.1, gx q.2) := by
  unfold gm_137 at h
  unfold fm_137
  obtain ⟨z7, h⟩ := fx_gd h
  obtain ⟨z8, h⟩ := fx_gd h
  by_cases c9 : (s.1 215 4) ≤ (s.1 215 5)
  · rw [if_pos c9] at h
    refine gb_t ((gc_le (gf1 es 215 4) (gf1 es 215 5) z8 z7).mpr c9) ?_
    have h := Option.some.inj h
    subst h
    exact gret kg_m1 es
  · rw [if_neg c9] at h
    refine gb_f (fun q => c9 ((gc_le (gf1 es 215 4) (gf1 es 215 5) z8 z7).mp q)) ?_
    obtain ⟨z12, h⟩ := fx_gd h
    refine gb_bind (gl_ldb3 es (gf1 es 215 5) ga_218 z12) ?_
    have h := Option.some.inj h
    subst h
    exact gret (ga_o2 (f := (fun a b => (a &&& b))) (gr (s.1 218 ((s.1 215 5)).toNat)) kg_255) es

/-! ZoneSharesModel.isRight()Z -/
def gm_138 (s : gx_S) : Option (Bool × gx_S) :=
  if (-2147483648 ≤ (s.1 215 6) ∧ (s.1 215 6) ≤ 2147483647) then (
  if ¬ (s.1 215 6) = (-1) then (
    some (false, s)) else (
    some (true, s))) else none
theorem gf_138 {s : gx_S} {σ : fx_S} (es : σ = gx s) {q : Bool × gx_S} (h : gm_138 s = some q) : fm_138 σ = some (q.1, gx q.2) := by
  unfold gm_138 at h
  unfold fm_138
  obtain ⟨z3, h⟩ := fx_gd h
  by_cases c4 : ¬ (s.1 215 6) = (-1)
  · rw [if_pos c4] at h
    refine gb_t ((gc_ne (gf1 es 215 6) kg_m1 z3 (by decide)).mpr c4) ?_
    have h := Option.some.inj h
    subst h
    exact gretb es
  · rw [if_neg c4] at h
    refine gb_f (fun q => c4 ((gc_ne (gf1 es 215 6) kg_m1 z3 (by decide)).mp q)) ?_
    have h := Option.some.inj h
    subst h
    exact gretb es

/-! ZoneSharesModel.fails(II)V -/
def gm_139 (x1 : Int) (x2 : Int) (s : gx_S) : Option (gx_S) :=
  (gm_138 s).bind fun q5 =>
  if (gb q5.1) = 0 then (
    some q5.2) else (
    some (gw1 q5.2 215 6 ((8 * x2) + x1)))
theorem gf_139 {x1 : Int} {yx1 : Int32} (e1 : yx1 = Int32.ofInt x1) {x2 : Int} {yx2 : Int32} (e2 : yx2 = Int32.ofInt x2) {s : gx_S} {σ : fx_S} (es : σ = gx s) {q : gx_S} (h : gm_139 x1 x2 s = some q) : fm_139 yx1 yx2 σ = some (gx q) := by
  unfold gm_139 at h
  unfold fm_139
  obtain ⟨q5, w4, h⟩ := fx_bd h
  refine gb_bind (gf_138 es w4) ?_
  by_cases c6 : (gb q5.1) = 0
  · rw [if_pos c6] at h
    refine gb_t ((gc_eq (gb_b q5.1) kg_0 (gb_r _) (by decide)).mpr c6) ?_
    have h := Option.some.inj h
    subst h
    exact gretv (rfl : _ = gx q5.2)
  · rw [if_neg c6] at h
    refine gb_f (fun q => c6 ((gc_eq (gb_b q5.1) kg_0 (gb_r _) (by decide)).mp q)) ?_
    have h := Option.some.inj h
    subst h
    exact gretv (gx_w1 (rfl : _ = gx q5.2) (ga_add (ga_mul kg_8 e2) e1))

/-! ZoneSharesModel.isSign(II)Z -/
def gm_140 (x0 : Int) (x1 : Int) (s : gx_S) : Option (Bool × gx_S) :=
  if (-2147483648 ≤ x0 ∧ x0 ≤ 2147483647) then (
  if ¬ x0 = 2 then (
    if (-2147483648 ≤ x1 ∧ x1 ≤ 2147483647) then (
    (gm_130 x1 97 104 s).bind fun q15 =>
    if ¬ (gb q15.1) = 0 then (
      some (true, q15.2)) else (
      if ¬ x1 = 46 then (
        some (false, q15.2)) else (
        some (true, q15.2)))) else none) else (
    if (-2147483648 ≤ x1 ∧ x1 ≤ 2147483647) then (
    (gm_130 x1 48 51 s).bind fun q20 =>
    some (q20.1, q20.2)) else none)) else none
theorem gf_140 {x0 : Int} {yx0 : Int32} (e0 : yx0 = Int32.ofInt x0) {x1 : Int} {yx1 : Int32} (e1 : yx1 = Int32.ofInt x1) {s : gx_S} {σ : fx_S} (es : σ = gx s) {q : Bool × gx_S} (h : gm_140 x0 x1 s = some q) : fm_140 yx0 yx1 σ = some (q.1, gx q.2) := by
  unfold gm_140 at h
  unfold fm_140
  obtain ⟨z11, h⟩ := fx_gd h
  by_cases c12 : ¬ x0 = 2
  · rw [if_pos c12] at h
    refine gb_t ((gc_ne e0 kg_2 z11 (by decide)).mpr c12) ?_
    obtain ⟨z13, h⟩ := fx_gd h
    obtain ⟨q15, w14, h⟩ := fx_bd h
    refine gb_bind (gf_130 (ga_i2l e1 z13) kgl_97 kgl_104 es w14) ?_
    by_cases c16 : ¬ (gb q15.1) = 0
    · rw [if_pos c16] at h
      refine gb_t ((gc_ne (gb_b q15.1) kg_0 (gb_r _) (by decide)).mpr c16) ?_
      have h := Option.some.inj h
      subst h
      exact gretb (rfl : _ = gx q15.2)
    · rw [if_neg c16] at h
      refine gb_f (fun q => c16 ((gc_ne (gb_b q15.1) kg_0 (gb_r _) (by decide)).mp q)) ?_
      by_cases c17 : ¬ x1 = 46
      · rw [if_pos c17] at h
        refine gb_t ((gc_ne e1 kg_46 z13 (by decide)).mpr c17) ?_
        have h := Option.some.inj h
        subst h
        exact gretb (rfl : _ = gx q15.2)
      · rw [if_neg c17] at h
        refine gb_f (fun q => c17 ((gc_ne e1 kg_46 z13 (by decide)).mp q)) ?_
        have h := Option.some.inj h
        subst h
        exact gretb (rfl : _ = gx q15.2)
  · rw [if_neg c12] at h
    refine gb_f (fun q => c12 ((gc_ne e0 kg_2 z11 (by decide)).mp q)) ?_
    obtain ⟨z18, h⟩ := fx_gd h
    obtain ⟨q20, w19, h⟩ := fx_bd h
    refine gb_bind (gf_130 (ga_i2l e1 z18) kgl_48 kgl_51 es w19) ?_
    have h := Option.some.inj h
    subst h
    exact gretb (rfl : _ = gx q20.2)

/-! ZoneSharesModel.codeOf(II)I -/
def gm_141 (x0 : Int) (x1 : Int) (s : gx_S) : Option (Int × gx_S) :=
  if (-2147483648 ≤ x0 ∧ x0 ≤ 2147483647) then (
  if ¬ x0 = 2 then (
    if (-2147483648 ≤ x1 ∧ x1 ≤ 2147483647) then (
    if ¬ x1 = 46 then (
      some ((x1 - 97), s)) else (
      some (8, s))) else none) else (
    some ((x1 - 48), s))) else none
theorem gf_141 {x0 : Int} {yx0 : Int32} (e0 : yx0 = Int32.ofInt x0) {x1 : Int} {yx1 : Int32} (e1 : yx1 = Int32.ofInt x1) {s : gx_S} {σ : fx_S} (es : σ = gx s) {q : Int × gx_S} (h : gm_141 x0 x1 s = some q) : fm_141 yx0 yx1 σ = some (Int32.ofInt q.1, gx q.2) := by
  unfold gm_141 at h
  unfold fm_141
  obtain ⟨z5, h⟩ := fx_gd h
  by_cases c6 : ¬ x0 = 2
  · rw [if_pos c6] at h
    refine gb_t ((gc_ne e0 kg_2 z5 (by decide)).mpr c6) ?_
    obtain ⟨z7, h⟩ := fx_gd h
    by_cases c8 : ¬ x1 = 46
    · rw [if_pos c8] at h
      refine gb_t ((gc_ne e1 kg_46 z7 (by decide)).mpr c8) ?_
      have h := Option.some.inj h
      subst h
      exact gret (ga_sub e1 kg_97) es
    · rw [if_neg c8] at h
      refine gb_f (fun q => c8 ((gc_ne e1 kg_46 z7 (by decide)).mp q)) ?_
      have h := Option.some.inj h
      subst h
      exact gret kg_8 es
  · rw [if_neg c6] at h
    refine gb_f (fun q => c6 ((gc_ne e0 kg_2 z5 (by decide)).mp q)) ?_
    have h := Option.some.inj h
    subst h
    exact gret (ga_sub e1 kg_48) es

/-! ZoneSharesModel.readsRow(II)V -/
def gm_142_168 (x4 : Int) (s : gx_S) : Option (gx_S) :=
  some (gw1 (gw1 s 215 9 x4) 215 8 (((gw1 s 215 9 x4).1 215 8) + 1))
theorem gf_142_168 (x4 : Int) (yx4 : Int32) (e4 : yx4 = Int32.ofInt x4) (s : gx_S) (σ : fx_S) (es : σ = gx s) (q : gx_S) (h : gm_142_168 x4 s = some q) : fm_142_168 yx4 σ = some (gx q) := by
  unfold gm_142_168 at h
  unfold fm_142_168
  have h := Option.some.inj h
  subst h
  exact gretv (gx_w1 (gx_w1 es e4) (ga_add (gf1 (gx_w1 es e4) 215 8) kg_1))
def gm_142_138 (x4 : Int) (s1 : Int) (s : gx_S) : Option (gx_S) :=
  (gm_139 s1 (s.1 215 5) s).bind fun q2 =>
  gm_142_168 x4 q2
theorem gf_142_138 (x4 : Int) (yx4 : Int32) (e4 : yx4 = Int32.ofInt x4) (s1 : Int) (ys1 : Int32) (es1 : ys1 = Int32.ofInt s1) (s : gx_S) (σ : fx_S) (es : σ = gx s) (q : gx_S) (h : gm_142_138 x4 s1 s = some q) : fm_142_138 yx4 ys1 σ = some (gx q) := by
  unfold gm_142_138 at h
  unfold fm_142_138
  obtain ⟨q2, w1, h⟩ := fx_bd h
  refine gb_bind (gf_139 es1 (gf1 es 215 5) es w1) ?_
  exact gf_142_168 _ _ e4 _ _ (rfl : _ = gx q2) _ h
def gm_142_114 (x1 : Int) (x2 : Int) (x4 : Int) (s0 : Int) (s : gx_S) : Option (gx_S) :=
  if (-2147483648 ≤ s0 ∧ s0 ≤ 2147483647) then (
  if ¬ s0 = 0 then (
    if (-2147483648 ≤ x2 ∧ x2 ≤ 2147483647) then (
    if x2 = (-1) then (
      gm_142_168 x4 s) else (
      if (-2147483648 ≤ x4 ∧ x4 ≤ 2147483647) then (
      if x2 ≤ x4 then (
        gm_142_168 x4 s) else (
        (gm_139 2 (s.1 215 5) s).bind fun q8 =>
        gm_142_168 x4 q8)) else none)) else none) else (
    (gm_137 s).bind fun q10 =>
    (gm_140 x1 q10.1 q10.2).bind fun q12 =>
    if (gb q12.1) = 0 then (
      gm_142_138 x4 1 q12.2) else (
      gm_142_138 x4 3 q12.2))) else none
theorem gf_142_114 (x1 : Int) (yx1 : Int32) (e1 : yx1 = Int32.ofInt x1) (x2 : Int) (yx2 : Int32) (e2 : yx2 = Int32.ofInt x2) (x4 : Int) (yx4 : Int32) (e4 : yx4 = Int32.ofInt x4) (s0 : Int) (ys0 : Int32) (es0 : ys0 = Int32.ofInt s0) (s : gx_S) (σ : fx_S) (es : σ = gx s) (q : gx_S) (h : gm_142_114 x1 x2 x4 s0 s = some q) : fm_142_114 yx1 yx2 yx4 ys0 σ = some (gx q) := by
  unfold gm_142_114 at h
  unfold fm_142_114
  obtain ⟨z1, h⟩ := fx_gd h
  by_cases c2 : ¬ s0 = 0
  · rw [if_pos c2] at h
    refine gb_t ((gc_ne es0 kg_0 z1 (by decide)).mpr c2) ?_
    obtain ⟨z3, h⟩ := fx_gd h
    by_cases c4 : x2 = (-1)
    · rw [if_pos c4] at h
      refine gb_t ((gc_eq e2 kg_m1 z3 (by decide)).mpr c4) ?_
      exact gf_142_168 _ _ e4 _ _ es _ h
    · rw [if_neg c4] at h
      refine gb_f (fun q => c4 ((gc_eq e2 kg_m1 z3 (by decide)).mp q)) ?_
      obtain ⟨z5, h⟩ := fx_gd h
      by_cases c6 : x2 ≤ x4
      · rw [if_pos c6] at h
        refine gb_t ((gc_le e2 e4 z3 z5).mpr c6) ?_
        exact gf_142_168 _ _ e4 _ _ es _ h
      · rw [if_neg c6] at h
        refine gb_f (fun q => c6 ((gc_le e2 e4 z3 z5).mp q)) ?_
        obtain ⟨q8, w7, h⟩ := fx_bd h
        refine gb_bind (gf_139 kg_2 (gf1 es 215 5) es w7) ?_
        exact gf_142_168 _ _ e4 _ _ (rfl : _ = gx q8) _ h
  · rw [if_neg c2] at h
    refine gb_f (fun q => c2 ((gc_ne es0 kg_0 z1 (by decide)).mp q)) ?_
    obtain ⟨q10, w9, h⟩ := fx_bd h
    refine gb_bind (gf_137 es w9) ?_
    obtain ⟨q12, w11, h⟩ := fx_bd h
    refine gb_bind (gf_140 e1 (gr q10.1) (rfl : _ = gx q10.2) w11) ?_
    by_cases c13 : (gb q12.1) = 0
    · rw [if_pos c13] at h
      refine gb_t ((gc_eq (gb_b q12.1) kg_0 (gb_r _) (by decide)).mpr c13) ?_
      exact gf_142_138 _ _ e4 _ _ kg_1 _ _ (rfl : _ = gx q12.2) _ h
    · rw [if_neg c13] at h
      refine gb_f (fun q => c13 ((gc_eq (gb_b q12.1) kg_0 (gb_r _) (by decide)).mp q)) ?_
      exact gf_142_138 _ _ e4 _ _ kg_3 _ _ (rfl : _ = gx q12.2) _ h
def gm_142_92 (x1 : Int) (x2 : Int) (x4 : Int) (s : gx_S) : Option (gx_S) :=
  (gm_137 s).bind fun q2 =>
  if (-2147483648 ≤ q2.1 ∧ q2.1 ≤ 2147483647) then (
  if q2.1 = 47 then (
    gm_142_114 x1 x2 x4 1 q2.2) else (
    (gm_137 q2.2).bind fun q6 =>
    if (-2147483648 ≤ q6.1 ∧ q6.1 ≤ 2147483647) then (
    if ¬ q6.1 = (-1) then (
      gm_142_114 x1 x2 x4 0 q6.2) else (
      gm_142_114 x1 x2 x4 1 q6.2)) else none)) else none
theorem gf_142_92 (x1 : Int) (yx1 : Int32) (e1 : yx1 = Int32.ofInt x1) (x2 : Int) (yx2 : Int32) (e2 : yx2 = Int32.ofInt x2) (x4 : Int) (yx4 : Int32) (e4 : yx4 = Int32.ofInt x4) (s : gx_S) (σ : fx_S) (es : σ = gx s) (q : gx_S) (h : gm_142_92 x1 x2 x4 s = some q) : fm_142_92 yx1 yx2 yx4 σ = some (gx q) := by
  unfold gm_142_92 at h
  unfold fm_142_92
  obtain ⟨q2, w1, h⟩ := fx_bd h
  refine gb_bind (gf_137 es w1) ?_
  obtain ⟨z3, h⟩ := fx_gd h
  by_cases c4 : q2.1 = 47
  · rw [if_pos c4] at h
    refine gb_t ((gc_eq (gr q2.1) kg_47 z3 (by decide)).mpr c4) ?_
    exact gf_142_114 _ _ e1 _ _ e2 _ _ e4 _ _ kg_1 _ _ (rfl : _ = gx q2.2) _ h
  · rw [if_neg c4] at h
    refine gb_f (fun q => c4 ((gc_eq (gr q2.1) kg_47 z3 (by decide)).mp q)) ?_
    obtain ⟨q6, w5, h⟩ := fx_bd h
    refine gb_bind (gf_137 (rfl : _ = gx q2.2) w5) ?_
    obtain ⟨z7, h⟩ := fx_gd h
    by_cases c8 : ¬ q6.1 = (-1)
    · rw [if_pos c8] at h
      refine gb_t ((gc_ne (gr q6.1) kg_m1 z7 (by decide)).mpr c8) ?_
      exact gf_142_114 _ _ e1 _ _ e2 _ _ e4 _ _ kg_0 _ _ (rfl : _ = gx q6.2) _ h
    · rw [if_neg c8] at h
      refine gb_f (fun q => c8 ((gc_ne (gr q6.1) kg_m1 z7 (by decide)).mp q)) ?_
      exact gf_142_114 _ _ e1 _ _ e2 _ _ e4 _ _ kg_1 _ _ (rfl : _ = gx q6.2) _ h
def gm_142_36 : Nat → Int → Int → Int → Int → gx_S → Option (gx_S)
  | 0, _, _, _, _, _ => none
  | n + 1, x1, x2, x3, x4, s =>
    if (-2147483648 ≤ x4 ∧ x4 ≤ 2147483647) then (
    if (-2147483648 ≤ x3 ∧ x3 ≤ 2147483647) then (
    if x3 ≤ x4 then (
      gm_142_92 x1 x2 x4 s) else (
      (gm_137 s).bind fun q5 =>
      (gm_140 x1 q5.1 q5.2).bind fun q7 =>
      if (gb q7.1) = 0 then (
        gm_142_92 x1 x2 x4 q7.2) else (
        (gm_137 q7.2).bind fun q10 =>
        (gm_141 x1 q10.1 q10.2).bind fun q12 =>
        if 0 ≤ ((12 * (q7.2.1 215 8)) + x4) ∧ ((12 * (q7.2.1 215 8)) + x4) < 96 then (
        gm_142_36 n x1 x2 x3 (x4 + 1) (gw1 (gw1 q12.2 219 (((12 * (q7.2.1 215 8)) + x4)).toNat q12.1) 215 5 (((gw1 q12.2 219 (((12 * (q7.2.1 215 8)) + x4)).toNat q12.1).1 215 5) + 1))) else none))) else none) else none
theorem gf_142_36 : ∀ (n : Nat) (x1 : Int) (yx1 : Int32) (e1 : yx1 = Int32.ofInt x1) (x2 : Int) (yx2 : Int32) (e2 : yx2 = Int32.ofInt x2) (x3 : Int) (yx3 : Int32) (e3 : yx3 = Int32.ofInt x3) (x4 : Int) (yx4 : Int32) (e4 : yx4 = Int32.ofInt x4) (s : gx_S) (σ : fx_S) (es : σ = gx s) (q : gx_S), gm_142_36 n x1 x2 x3 x4 s = some q → fm_142_36 n yx1 yx2 yx3 yx4 σ = some (gx q) := by
  intro n
  induction n with
  | zero =>
    intro x1 yx1 e1 x2 yx2 e2 x3 yx3 e3 x4 yx4 e4 s σ es q  h
    rw [gm_142_36] at h
    exact fx_no h
  | succ n ih =>
    intro x1 yx1 e1 x2 yx2 e2 x3 yx3 e3 x4 yx4 e4 s σ es q  h
    rw [gm_142_36] at h
    rw [fm_142_36]
    obtain ⟨z1, h⟩ := fx_gd h
    obtain ⟨z2, h⟩ := fx_gd h
    by_cases c3 : x3 ≤ x4
    · rw [if_pos c3] at h
      refine gb_t ((gc_le e3 e4 z2 z1).mpr c3) ?_
      exact gf_142_92 _ _ e1 _ _ e2 _ _ e4 _ _ es _ h
    · rw [if_neg c3] at h
      refine gb_f (fun q => c3 ((gc_le e3 e4 z2 z1).mp q)) ?_
      obtain ⟨q5, w4, h⟩ := fx_bd h
      refine gb_bind (gf_137 es w4) ?_
      obtain ⟨q7, w6, h⟩ := fx_bd h
      refine gb_bind (gf_140 e1 (gr q5.1) (rfl : _ = gx q5.2) w6) ?_
      by_cases c8 : (gb q7.1) = 0
      · rw [if_pos c8] at h
        refine gb_t ((gc_eq (gb_b q7.1) kg_0 (gb_r _) (by decide)).mpr c8) ?_
        exact gf_142_92 _ _ e1 _ _ e2 _ _ e4 _ _ (rfl : _ = gx q7.2) _ h
      · rw [if_neg c8] at h
        refine gb_f (fun q => c8 ((gc_eq (gb_b q7.1) kg_0 (gb_r _) (by decide)).mp q)) ?_
        obtain ⟨q10, w9, h⟩ := fx_bd h
        refine gb_bind (gf_137 (rfl : _ = gx q7.2) w9) ?_
        obtain ⟨q12, w11, h⟩ := fx_bd h
        refine gb_bind (gf_141 e1 (gr q10.1) (rfl : _ = gx q10.2) w11) ?_
        obtain ⟨z15, h⟩ := fx_gd h
        refine gb_bind (gl_st (rfl : _ = gx q12.2) (ga_add (ga_mul kg_12 (gf1 (rfl : _ = gx q7.2) 215 8)) e4) (gr q12.1) ga_219 z15) ?_
        exact ih _ _ e1 _ _ e2 _ _ e3 _ _ (ga_add e4 kg_1) _ _ (gx_w1 (rfl : _ = gx (gw1 q12.2 219 (((12 * (q7.2.1 215 8)) + x4)).toNat q12.1)) (ga_add (gf1 (rfl : _ = gx (gw1 q12.2 219 (((12 * (q7.2.1 215 8)) + x4)).toNat q12.1)) 215 5) kg_1)) _ h
def gm_142_32 (x1 : Int) (x2 : Int) (s0 : Int) (s : gx_S) : Option (gx_S) :=
  gm_142_36 100000 x1 x2 s0 0 s
theorem gf_142_32 (x1 : Int) (yx1 : Int32) (e1 : yx1 = Int32.ofInt x1) (x2 : Int) (yx2 : Int32) (e2 : yx2 = Int32.ofInt x2) (s0 : Int) (ys0 : Int32) (es0 : ys0 = Int32.ofInt s0) (s : gx_S) (σ : fx_S) (es : σ = gx s) (q : gx_S) (h : gm_142_32 x1 x2 s0 s = some q) : fm_142_32 yx1 yx2 ys0 σ = some (gx q) := by
  unfold gm_142_32 at h
  unfold fm_142_32
  exact gf_142_36 100000 _ _ e1 _ _ e2 _ _ es0 _ _ kg_0 _ _ es _ h
def gm_142 (x1 : Int) (x2 : Int) (s : gx_S) : Option (gx_S) :=
  (gm_137 s).bind fun q49 =>
  (gm_140 x1 q49.1 q49.2).bind fun q51 =>
  if ¬ (gb q51.1) = 0 then (
    if (-2147483648 ≤ x2 ∧ x2 ≤ 2147483647) then (
    if ¬ x2 = (-1) then (
      gm_142_32 x1 x2 x2 q51.2) else (
      gm_142_32 x1 x2 12 q51.2)) else none) else (
    (gm_139 1 (q51.2.1 215 5) q51.2).bind fun q56 =>
    some q56)
theorem gf_142 {x1 : Int} {yx1 : Int32} (e1 : yx1 = Int32.ofInt x1) {x2 : Int} {yx2 : Int32} (e2 : yx2 = Int32.ofInt x2) {s : gx_S} {σ : fx_S} (es : σ = gx s) {q : gx_S} (h : gm_142 x1 x2 s = some q) : fm_142 yx1 yx2 σ = some (gx q) := by
  unfold gm_142 at h
  unfold fm_142
  obtain ⟨q49, w48, h⟩ := fx_bd h
  refine gb_bind (gf_137 es w48) ?_
  obtain ⟨q51, w50, h⟩ := fx_bd h
  refine gb_bind (gf_140 e1 (gr q49.1) (rfl : _ = gx q49.2) w50) ?_
  by_cases c52 : ¬ (gb q51.1) = 0
  · rw [if_pos c52] at h
    refine gb_t ((gc_ne (gb_b q51.1) kg_0 (gb_r _) (by decide)).mpr c52) ?_
    obtain ⟨z53, h⟩ := fx_gd h
    by_cases c54 : ¬ x2 = (-1)
    · rw [if_pos c54] at h
      refine gb_t ((gc_ne e2 kg_m1 z53 (by decide)).mpr c54) ?_
      exact gf_142_32 _ _ e1 _ _ e2 _ _ e2 _ _ (rfl : _ = gx q51.2) _ h
    · rw [if_neg c54] at h
      refine gb_f (fun q => c54 ((gc_ne e2 kg_m1 z53 (by decide)).mp q)) ?_
      exact gf_142_32 _ _ e1 _ _ e2 _ _ kg_12 _ _ (rfl : _ = gx q51.2) _ h
  · rw [if_neg c52] at h
    refine gb_f (fun q => c52 ((gc_ne (gb_b q51.1) kg_0 (gb_r _) (by decide)).mp q)) ?_
    obtain ⟨q56, w55, h⟩ := fx_bd h
    refine gb_bind (gf_139 kg_1 (gf1 (rfl : _ = gx q51.2) 215 5) (rfl : _ = gx q51.2) w55) ?_
    have h := Option.some.inj h
    subst h
    exact gretv (rfl : _ = gx q56)

/-! ZoneSharesModel.readsLayer(I)V -/
def gm_143_112 (x1 : Int) (x2 : Int) (s : gx_S) : Option (gx_S) :=
  (gm_138 s).bind fun q2 =>
  if (gb q2.1) = 0 then (
    some q2.2) else (
    if (-2147483648 ≤ x1 ∧ x1 ≤ 2147483647) then (
    if x1 = 0 then (
      some q2.2) else (
      if (-2147483648 ≤ (q2.2.1 215 8) ∧ (q2.2.1 215 8) ≤ 2147483647) then (
      if (-2147483648 ≤ x2 ∧ x2 ≤ 2147483647) then (
      if x2 ≤ (q2.2.1 215 8) then (
        some q2.2) else (
        (gm_139 4 (q2.2.1 215 5) q2.2).bind fun q10 =>
        some q10)) else none) else none)) else none)
theorem gf_143_112 (x1 : Int) (yx1 : Int32) (e1 : yx1 = Int32.ofInt x1) (x2 : Int) (yx2 : Int32) (e2 : yx2 = Int32.ofInt x2) (s : gx_S) (σ : fx_S) (es : σ = gx s) (q : gx_S) (h : gm_143_112 x1 x2 s = some q) : fm_143_112 yx1 yx2 σ = some (gx q) := by
  unfold gm_143_112 at h
  unfold fm_143_112
  obtain ⟨q2, w1, h⟩ := fx_bd h
  refine gb_bind (gf_138 es w1) ?_
  by_cases c3 : (gb q2.1) = 0
  · rw [if_pos c3] at h
    refine gb_t ((gc_eq (gb_b q2.1) kg_0 (gb_r _) (by decide)).mpr c3) ?_
    have h := Option.some.inj h
    subst h
    exact gretv (rfl : _ = gx q2.2)
  · rw [if_neg c3] at h
    refine gb_f (fun q => c3 ((gc_eq (gb_b q2.1) kg_0 (gb_r _) (by decide)).mp q)) ?_
    obtain ⟨z4, h⟩ := fx_gd h
    by_cases c5 : x1 = 0
    · rw [if_pos c5] at h
      refine gb_t ((gc_eq e1 kg_0 z4 (by decide)).mpr c5) ?_
      have h := Option.some.inj h
      subst h
      exact gretv (rfl : _ = gx q2.2)
    · rw [if_neg c5] at h
      refine gb_f (fun q => c5 ((gc_eq e1 kg_0 z4 (by decide)).mp q)) ?_
      obtain ⟨z6, h⟩ := fx_gd h
      obtain ⟨z7, h⟩ := fx_gd h
      by_cases c8 : x2 ≤ (q2.2.1 215 8)
      · rw [if_pos c8] at h
        refine gb_t ((gc_le e2 (gf1 (rfl : _ = gx q2.2) 215 8) z7 z6).mpr c8) ?_
        have h := Option.some.inj h
        subst h
        exact gretv (rfl : _ = gx q2.2)
      · rw [if_neg c8] at h
        refine gb_f (fun q => c8 ((gc_le e2 (gf1 (rfl : _ = gx q2.2) 215 8) z7 z6).mp q)) ?_
        obtain ⟨q10, w9, h⟩ := fx_bd h
        refine gb_bind (gf_139 kg_4 (gf1 (rfl : _ = gx q2.2) 215 5) (rfl : _ = gx q2.2) w9) ?_
        have h := Option.some.inj h
        subst h
        exact gretv (rfl : _ = gx q10)
def gm_143_57 : Nat → Int → Int → Int → gx_S → Option (gx_S)
  | 0, _, _, _, _ => none
  | n + 1, x1, x2, x3, s =>
    (gm_138 s).bind fun q2 =>
    if (gb q2.1) = 0 then (
      gm_143_112 x1 x2 q2.2) else (
      (gm_137 q2.2).bind fun q5 =>
      if (-2147483648 ≤ q5.1 ∧ q5.1 ≤ 2147483647) then (
      if ¬ q5.1 = 47 then (
        gm_143_112 x1 x2 q5.2) else (
        if (-2147483648 ≤ (q5.2.1 215 8) ∧ (q5.2.1 215 8) ≤ 2147483647) then (
        if (-2147483648 ≤ x2 ∧ x2 ≤ 2147483647) then (
        if ¬ (q5.2.1 215 8) = x2 then (
          (gm_142 x1 x3 (gw1 q5.2 215 5 ((q5.2.1 215 5) + 1))).bind fun q12 =>
          gm_143_57 n x1 x2 x3 q12) else (
          (gm_139 3 (q5.2.1 215 5) q5.2).bind fun q14 =>
          gm_143_57 n x1 x2 x3 q14)) else none) else none)) else none)
theorem gf_143_57 : ∀ (n : Nat) (x1 : Int) (yx1 : Int32) (e1 : yx1 = Int32.ofInt x1) (x2 : Int) (yx2 : Int32) (e2 : yx2 = Int32.ofInt x2) (x3 : Int) (yx3 : Int32) (e3 : yx3 = Int32.ofInt x3) (s : gx_S) (σ : fx_S) (es : σ = gx s) (q : gx_S), gm_143_57 n x1 x2 x3 s = some q → fm_143_57 n yx1 yx2 yx3 σ = some (gx q) := by
  intro n
  induction n with
  | zero =>
    intro x1 yx1 e1 x2 yx2 e2 x3 yx3 e3 s σ es q  h
    rw [gm_143_57] at h
    exact fx_no h
  | succ n ih =>
    intro x1 yx1 e1 x2 yx2 e2 x3 yx3 e3 s σ es q  h
    rw [gm_143_57] at h
    rw [fm_143_57]
    obtain ⟨q2, w1, h⟩ := fx_bd h
    refine gb_bind (gf_138 es w1) ?_
    by_cases c3 : (gb q2.1) = 0
    · rw [if_pos c3] at h
      refine gb_t ((gc_eq (gb_b q2.1) kg_0 (gb_r _) (by decide)).mpr c3) ?_
      exact gf_143_112 _ _ e1 _ _ e2 _ _ (rfl : _ = gx q2.2) _ h
    · rw [if_neg c3] at h
      refine gb_f (fun q => c3 ((gc_eq (gb_b q2.1) kg_0 (gb_r _) (by decide)).mp q)) ?_
      obtain ⟨q5, w4, h⟩ := fx_bd h
      refine gb_bind (gf_137 (rfl : _ = gx q2.2) w4) ?_
      obtain ⟨z6, h⟩ := fx_gd h
      by_cases c7 : ¬ q5.1 = 47
      · rw [if_pos c7] at h
        refine gb_t ((gc_ne (gr q5.1) kg_47 z6 (by decide)).mpr c7) ?_
        exact gf_143_112 _ _ e1 _ _ e2 _ _ (rfl : _ = gx q5.2) _ h
      · rw [if_neg c7] at h
        refine gb_f (fun q => c7 ((gc_ne (gr q5.1) kg_47 z6 (by decide)).mp q)) ?_
        obtain ⟨z8, h⟩ := fx_gd h
        obtain ⟨z9, h⟩ := fx_gd h
        by_cases c10 : ¬ (q5.2.1 215 8) = x2
        · rw [if_pos c10] at h
          refine gb_t ((gc_ne (gf1 (rfl : _ = gx q5.2) 215 8) e2 z8 z9).mpr c10) ?_
          obtain ⟨q12, w11, h⟩ := fx_bd h
          refine gb_bind (gf_142 e1 e3 (gx_w1 (rfl : _ = gx q5.2) (ga_add (gf1 (rfl : _ = gx q5.2) 215 5) kg_1)) w11) ?_
          exact ih _ _ e1 _ _ e2 _ _ e3 _ _ (rfl : _ = gx q12) _ h
        · rw [if_neg c10] at h
          refine gb_f (fun q => c10 ((gc_ne (gf1 (rfl : _ = gx q5.2) 215 8) e2 z8 z9).mp q)) ?_
          obtain ⟨q14, w13, h⟩ := fx_bd h
          refine gb_bind (gf_139 kg_3 (gf1 (rfl : _ = gx q5.2) 215 5) (rfl : _ = gx q5.2) w13) ?_
          exact ih _ _ e1 _ _ e2 _ _ e3 _ _ (rfl : _ = gx q14) _ h
def gm_143_45 (x1 : Int) (x2 : Int) (s0 : Int) (s : gx_S) : Option (gx_S) :=
  (gm_142 x1 s0 s).bind fun q2 =>
  gm_143_57 100000 x1 x2 (q2.1 215 9) q2
theorem gf_143_45 (x1 : Int) (yx1 : Int32) (e1 : yx1 = Int32.ofInt x1) (x2 : Int) (yx2 : Int32) (e2 : yx2 = Int32.ofInt x2) (s0 : Int) (ys0 : Int32) (es0 : ys0 = Int32.ofInt s0) (s : gx_S) (σ : fx_S) (es : σ = gx s) (q : gx_S) (h : gm_143_45 x1 x2 s0 s = some q) : fm_143_45 yx1 yx2 ys0 σ = some (gx q) := by
  unfold gm_143_45 at h
  unfold fm_143_45
  obtain ⟨q2, w1, h⟩ := fx_bd h
  refine gb_bind (gf_142 e1 es0 es w1) ?_
  exact gf_143_57 100000 _ _ e1 _ _ e2 _ _ (gf1 (rfl : _ = gx q2) 215 9) _ _ (rfl : _ = gx q2) _ h
def gm_143_30 (x1 : Int) (s0 : Int) (s : gx_S) : Option (gx_S) :=
  if (-2147483648 ≤ x1 ∧ x1 ≤ 2147483647) then (
  if ¬ x1 = 0 then (
    gm_143_45 x1 s0 (s.1 216 1) s) else (
    gm_143_45 x1 s0 (-1) s)) else none
theorem gf_143_30 (x1 : Int) (yx1 : Int32) (e1 : yx1 = Int32.ofInt x1) (s0 : Int) (ys0 : Int32) (es0 : ys0 = Int32.ofInt s0) (s : gx_S) (σ : fx_S) (es : σ = gx s) (q : gx_S) (h : gm_143_30 x1 s0 s = some q) : fm_143_30 yx1 ys0 σ = some (gx q) := by
  unfold gm_143_30 at h
  unfold fm_143_30
  obtain ⟨z1, h⟩ := fx_gd h
  by_cases c2 : ¬ x1 = 0
  · rw [if_pos c2] at h
    refine gb_t ((gc_ne e1 kg_0 z1 (by decide)).mpr c2) ?_
    refine gb_bind (gl_ld es kg_1 ga_216 (by decide)) ?_
    exact gf_143_45 _ _ e1 _ _ es0 _ _ (gr (s.1 216 1)) _ _ es _ h
  · rw [if_neg c2] at h
    refine gb_f (fun q => c2 ((gc_ne e1 kg_0 z1 (by decide)).mp q)) ?_
    exact gf_143_45 _ _ e1 _ _ es0 _ _ kg_m1 _ _ es _ h
def gm_143 (x1 : Int) (s : gx_S) : Option (gx_S) :=
  if (-2147483648 ≤ x1 ∧ x1 ≤ 2147483647) then (
  if ¬ x1 = 0 then (
    gm_143_30 x1 ((gw1 (gw1 (gw1 s 215 5 0) 215 6 (-1)) 215 8 0).1 216 0) (gw1 (gw1 (gw1 s 215 5 0) 215 6 (-1)) 215 8 0)) else (
    gm_143_30 x1 8 (gw1 (gw1 (gw1 s 215 5 0) 215 6 (-1)) 215 8 0))) else none
theorem gf_143 {x1 : Int} {yx1 : Int32} (e1 : yx1 = Int32.ofInt x1) {s : gx_S} {σ : fx_S} (es : σ = gx s) {q : gx_S} (h : gm_143 x1 s = some q) : fm_143 yx1 σ = some (gx q) := by
  unfold gm_143 at h
  unfold fm_143
  obtain ⟨z35, h⟩ := fx_gd h
  by_cases c36 : ¬ x1 = 0
  · rw [if_pos c36] at h
    refine gb_t ((gc_ne e1 kg_0 z35 (by decide)).mpr c36) ?_
    refine gb_bind (gl_ld (gx_w1 (gx_w1 (gx_w1 es kg_0) kg_m1) kg_0) kg_0 ga_216 (by decide)) ?_
    exact gf_143_30 _ _ e1 _ _ (gr ((gw1 (gw1 (gw1 s 215 5 0) 215 6 (-1)) 215 8 0).1 216 0)) _ _ (gx_w1 (gx_w1 (gx_w1 es kg_0) kg_m1) kg_0) _ h
  · rw [if_neg c36] at h
    refine gb_f (fun q => c36 ((gc_ne e1 kg_0 z35 (by decide)).mp q)) ?_
    exact gf_143_30 _ _ e1 _ _ kg_8 _ _ (gx_w1 (gx_w1 (gx_w1 es kg_0) kg_m1) kg_0) _ h

/-! ZoneSharesModel.isTold(I)Z -/
def gm_144 (x1 : Int) (s : gx_S) : Option (Bool × gx_S) :=
  if (-2147483648 ≤ ((Int32.ofInt (((Int32.ofInt (s.1 216 2) >>> (Int32.ofInt x1 &&& 31))).toInt) &&& Int32.ofInt 1)).toInt ∧ ((Int32.ofInt (((Int32.ofInt (s.1 216 2) >>> (Int32.ofInt x1 &&& 31))).toInt) &&& Int32.ofInt 1)).toInt ≤ 2147483647) then (
  if ¬ ((Int32.ofInt (((Int32.ofInt (s.1 216 2) >>> (Int32.ofInt x1 &&& 31))).toInt) &&& Int32.ofInt 1)).toInt = 1 then (
    some (false, s)) else (
    some (true, s))) else none
theorem gf_144 {x1 : Int} {yx1 : Int32} (e1 : yx1 = Int32.ofInt x1) {s : gx_S} {σ : fx_S} (es : σ = gx s) {q : Bool × gx_S} (h : gm_144 x1 s = some q) : fm_144 yx1 σ = some (q.1, gx q.2) := by
  unfold gm_144 at h
  unfold fm_144
  refine gb_bind (gl_ld es kg_2 ga_216 (by decide)) ?_
  obtain ⟨z7, h⟩ := fx_gd h
  by_cases c8 : ¬ ((Int32.ofInt (((Int32.ofInt (s.1 216 2) >>> (Int32.ofInt x1 &&& 31))).toInt) &&& Int32.ofInt 1)).toInt = 1
  · rw [if_pos c8] at h
    refine gb_t ((gc_ne (ga_o2 (f := (fun a b => (a &&& b))) (ga_o2 (f := (fun a b => (a >>> (b &&& 31)))) (gr (s.1 216 2)) e1) kg_1) kg_1 z7 (by decide)).mpr c8) ?_
    have h := Option.some.inj h
    subst h
    exact gretb es
  · rw [if_neg c8] at h
    refine gb_f (fun q => c8 ((gc_ne (ga_o2 (f := (fun a b => (a &&& b))) (ga_o2 (f := (fun a b => (a >>> (b &&& 31)))) (gr (s.1 216 2)) e1) kg_1) kg_1 z7 (by decide)).mp q)) ?_
    have h := Option.some.inj h
    subst h
    exact gretb es

/-! ZoneSharesModel.layer(I)I -/
def gm_145_126 : Nat → Int → Int → gx_S → Option (Int × gx_S)
  | 0, _, _, _ => none
  | n + 1, x1, x2, s =>
    if (-2147483648 ≤ x2 ∧ x2 ≤ 2147483647) then (
    if 96 ≤ x2 then (
      some (((s.1 216 0) * (s.1 216 1)), s)) else (
      if 0 ≤ x2 ∧ x2 < 96 then (
      if 0 ≤ ((52 + (96 * x1)) + x2) ∧ ((52 + (96 * x1)) + x2) < 340 then (
      gm_145_126 n x1 (x2 + 1) (gw1 s 216 (((52 + (96 * x1)) + x2)).toNat (s.1 219 (x2).toNat))) else none) else none)) else none
theorem gf_145_126 : ∀ (n : Nat) (x1 : Int) (yx1 : Int32) (e1 : yx1 = Int32.ofInt x1) (x2 : Int) (yx2 : Int32) (e2 : yx2 = Int32.ofInt x2) (s : gx_S) (σ : fx_S) (es : σ = gx s) (q : Int × gx_S), gm_145_126 n x1 x2 s = some q → fm_145_126 n yx1 yx2 σ = some (Int32.ofInt q.1, gx q.2) := by
  intro n
  induction n with
  | zero =>
    intro x1 yx1 e1 x2 yx2 e2 s σ es q  h
    rw [gm_145_126] at h
    exact fx_no h
  | succ n ih =>
    intro x1 yx1 e1 x2 yx2 e2 s σ es q  h
    rw [gm_145_126] at h
    rw [fm_145_126]
    obtain ⟨z1, h⟩ := fx_gd h
    by_cases c2 : 96 ≤ x2
    · rw [if_pos c2] at h
      refine gb_t ((gc_le kg_96 e2 (by decide) z1).mpr c2) ?_
      refine gb_bind (gl_ld es kg_0 ga_216 (by decide)) ?_
      refine gb_bind (gl_ld es kg_1 ga_216 (by decide)) ?_
      have h := Option.some.inj h
      subst h
      exact gret (ga_mul (gr (s.1 216 0)) (gr (s.1 216 1))) es
    · rw [if_neg c2] at h
      refine gb_f (fun q => c2 ((gc_le kg_96 e2 (by decide) z1).mp q)) ?_
      obtain ⟨z9, h⟩ := fx_gd h
      refine gb_bind (gl_ld es e2 ga_219 z9) ?_
      obtain ⟨z12, h⟩ := fx_gd h
      refine gb_bind (gl_st es (ga_add (ga_add kg_52 (ga_mul kg_96 e1)) e2) (gr (s.1 219 (x2).toNat)) ga_216 z12) ?_
      exact ih _ _ e1 _ _ (ga_add e2 kg_1) _ _ (rfl : _ = gx (gw1 s 216 (((52 + (96 * x1)) + x2)).toNat (s.1 219 (x2).toNat))) _ h
def gm_145_112 (x1 : Int) (s : gx_S) : Option (Int × gx_S) :=
  gm_145_126 100000 x1 0 (gw1 s 216 2 (((Int32.ofInt (s.1 216 2) ||| Int32.ofInt (((Int32.ofInt 1 <<< (Int32.ofInt x1 &&& 31))).toInt))).toInt))
theorem gf_145_112 (x1 : Int) (yx1 : Int32) (e1 : yx1 = Int32.ofInt x1) (s : gx_S) (σ : fx_S) (es : σ = gx s) (q : Int × gx_S) (h : gm_145_112 x1 s = some q) : fm_145_112 yx1 σ = some (Int32.ofInt q.1, gx q.2) := by
  unfold gm_145_112 at h
  unfold fm_145_112
  refine gb_bind (gl_ld es kg_2 ga_216 (by decide)) ?_
  refine gb_bind (gl_st es kg_2 (ga_o2 (f := (fun a b => (a ||| b))) (gr (s.1 216 2)) (ga_o2 (f := (fun a b => (a <<< (b &&& 31)))) kg_1 e1)) ga_216 (by decide)) ?_
  exact gf_145_126 100000 _ _ e1 _ _ kg_0 _ _ (rfl : _ = gx (gw1 s 216 2 (((Int32.ofInt (s.1 216 2) ||| Int32.ofInt (((Int32.ofInt 1 <<< (Int32.ofInt x1 &&& 31))).toInt))).toInt))) _ h
def gm_145_85 (x1 : Int) (s : gx_S) : Option (Int × gx_S) :=
  gm_145_112 x1 (gw1 (gw1 (gw1 s 216 2 0) 216 0 ((gw1 s 216 2 0).1 215 8)) 216 1 ((gw1 (gw1 s 216 2 0) 216 0 ((gw1 s 216 2 0).1 215 8)).1 215 9))
theorem gf_145_85 (x1 : Int) (yx1 : Int32) (e1 : yx1 = Int32.ofInt x1) (s : gx_S) (σ : fx_S) (es : σ = gx s) (q : Int × gx_S) (h : gm_145_85 x1 s = some q) : fm_145_85 yx1 σ = some (Int32.ofInt q.1, gx q.2) := by
  unfold gm_145_85 at h
  unfold fm_145_85
  refine gb_bind (gl_st es kg_2 kg_0 ga_216 (by decide)) ?_
  refine gb_bind (gl_st (rfl : _ = gx (gw1 s 216 2 0)) kg_0 (gf1 (rfl : _ = gx (gw1 s 216 2 0)) 215 8) ga_216 (by decide)) ?_
  refine gb_bind (gl_st (rfl : _ = gx (gw1 (gw1 s 216 2 0) 216 0 ((gw1 s 216 2 0).1 215 8))) kg_1 (gf1 (rfl : _ = gx (gw1 (gw1 s 216 2 0) 216 0 ((gw1 s 216 2 0).1 215 8))) 215 9) ga_216 (by decide)) ?_
  exact gf_145_112 _ _ e1 _ _ (rfl : _ = gx (gw1 (gw1 (gw1 s 216 2 0) 216 0 ((gw1 s 216 2 0).1 215 8)) 216 1 ((gw1 (gw1 s 216 2 0) 216 0 ((gw1 s 216 2 0).1 215 8)).1 215 9))) _ h
def gm_145_26 (x1 : Int) (s : gx_S) : Option (Int × gx_S) :=
  (gm_143 x1 s).bind fun q2 =>
  (gm_138 (gw1 q2 215 4 0)).bind fun q4 =>
  if ¬ (gb q4.1) = 0 then (
    (gm_132 q4.2).bind fun q7 =>
    if (-2147483648 ≤ x1 ∧ x1 ≤ 2147483647) then (
    if ¬ x1 = 0 then (
      gm_145_112 x1 q7) else (
      if (-2147483648 ≤ (q7.1 215 8) ∧ (q7.1 215 8) ≤ 2147483647) then (
      if (-2147483648 ≤ (q7.1 216 0) ∧ (q7.1 216 0) ≤ 2147483647) then (
      if ¬ (q7.1 215 8) = (q7.1 216 0) then (
        gm_145_85 x1 q7) else (
        if (-2147483648 ≤ (q7.1 215 9) ∧ (q7.1 215 9) ≤ 2147483647) then (
        if (-2147483648 ≤ (q7.1 216 1) ∧ (q7.1 216 1) ≤ 2147483647) then (
        if (q7.1 215 9) = (q7.1 216 1) then (
          gm_145_112 x1 q7) else (
          gm_145_85 x1 q7)) else none) else none)) else none) else none)) else none) else (
    some (((-2) - (q4.2.1 215 6)), q4.2))
theorem gf_145_26 (x1 : Int) (yx1 : Int32) (e1 : yx1 = Int32.ofInt x1) (s : gx_S) (σ : fx_S) (es : σ = gx s) (q : Int × gx_S) (h : gm_145_26 x1 s = some q) : fm_145_26 yx1 σ = some (Int32.ofInt q.1, gx q.2) := by
  unfold gm_145_26 at h
  unfold fm_145_26
  obtain ⟨q2, w1, h⟩ := fx_bd h
  refine gb_bind (gf_143 e1 es w1) ?_
  obtain ⟨q4, w3, h⟩ := fx_bd h
  refine gb_bind (gf_138 (gx_w1 (rfl : _ = gx q2) kg_0) w3) ?_
  by_cases c5 : ¬ (gb q4.1) = 0
  · rw [if_pos c5] at h
    refine gb_t ((gc_ne (gb_b q4.1) kg_0 (gb_r _) (by decide)).mpr c5) ?_
    obtain ⟨q7, w6, h⟩ := fx_bd h
    refine gb_bind (gf_132 (rfl : _ = gx q4.2) w6) ?_
    obtain ⟨z8, h⟩ := fx_gd h
    by_cases c9 : ¬ x1 = 0
    · rw [if_pos c9] at h
      refine gb_t ((gc_ne e1 kg_0 z8 (by decide)).mpr c9) ?_
      exact gf_145_112 _ _ e1 _ _ (rfl : _ = gx q7) _ h
    · rw [if_neg c9] at h
      refine gb_f (fun q => c9 ((gc_ne e1 kg_0 z8 (by decide)).mp q)) ?_
      refine gb_bind (gl_ld (rfl : _ = gx q7) kg_0 ga_216 (by decide)) ?_
      obtain ⟨z12, h⟩ := fx_gd h
      obtain ⟨z13, h⟩ := fx_gd h
      by_cases c14 : ¬ (q7.1 215 8) = (q7.1 216 0)
      · rw [if_pos c14] at h
        refine gb_t ((gc_ne (gf1 (rfl : _ = gx q7) 215 8) (gr (q7.1 216 0)) z12 z13).mpr c14) ?_
        exact gf_145_85 _ _ e1 _ _ (rfl : _ = gx q7) _ h
      · rw [if_neg c14] at h
        refine gb_f (fun q => c14 ((gc_ne (gf1 (rfl : _ = gx q7) 215 8) (gr (q7.1 216 0)) z12 z13).mp q)) ?_
        refine gb_bind (gl_ld (rfl : _ = gx q7) kg_1 ga_216 (by decide)) ?_
        obtain ⟨z17, h⟩ := fx_gd h
        obtain ⟨z18, h⟩ := fx_gd h
        by_cases c19 : (q7.1 215 9) = (q7.1 216 1)
        · rw [if_pos c19] at h
          refine gb_t ((gc_eq (gf1 (rfl : _ = gx q7) 215 9) (gr (q7.1 216 1)) z17 z18).mpr c19) ?_
          exact gf_145_112 _ _ e1 _ _ (rfl : _ = gx q7) _ h
        · rw [if_neg c19] at h
          refine gb_f (fun q => c19 ((gc_eq (gf1 (rfl : _ = gx q7) 215 9) (gr (q7.1 216 1)) z17 z18).mp q)) ?_
          exact gf_145_85 _ _ e1 _ _ (rfl : _ = gx q7) _ h
  · rw [if_neg c5] at h
    refine gb_f (fun q => c5 ((gc_ne (gb_b q4.1) kg_0 (gb_r _) (by decide)).mp q)) ?_
    have h := Option.some.inj h
    subst h
    exact gret (ga_sub kg_m2 (gf1 (rfl : _ = gx q4.2) 215 6)) (rfl : _ = gx q4.2)
def gm_145 (x1 : Int) (s : gx_S) : Option (Int × gx_S) :=
  if (-2147483648 ≤ x1 ∧ x1 ≤ 2147483647) then (
  (gm_130 x1 0 2 s).bind fun q52 =>
  if (gb q52.1) = 0 then (
    some ((-1), q52.2)) else (
    if x1 = 0 then (
      gm_145_26 x1 q52.2) else (
      (gm_144 0 q52.2).bind fun q56 =>
      if ¬ (gb q56.1) = 0 then (
        gm_145_26 x1 q56.2) else (
        some ((-1), q56.2))))) else none
theorem gf_145 {x1 : Int} {yx1 : Int32} (e1 : yx1 = Int32.ofInt x1) {s : gx_S} {σ : fx_S} (es : σ = gx s) {q : Int × gx_S} (h : gm_145 x1 s = some q) : fm_145 yx1 σ = some (Int32.ofInt q.1, gx q.2) := by
  unfold gm_145 at h
  unfold fm_145
  obtain ⟨z50, h⟩ := fx_gd h
  obtain ⟨q52, w51, h⟩ := fx_bd h
  refine gb_bind (gf_130 (ga_i2l e1 z50) kgl_0 kgl_2 es w51) ?_
  by_cases c53 : (gb q52.1) = 0
  · rw [if_pos c53] at h
    refine gb_t ((gc_eq (gb_b q52.1) kg_0 (gb_r _) (by decide)).mpr c53) ?_
    have h := Option.some.inj h
    subst h
    exact gret kg_m1 (rfl : _ = gx q52.2)
  · rw [if_neg c53] at h
    refine gb_f (fun q => c53 ((gc_eq (gb_b q52.1) kg_0 (gb_r _) (by decide)).mp q)) ?_
    by_cases c54 : x1 = 0
    · rw [if_pos c54] at h
      refine gb_t ((gc_eq e1 kg_0 z50 (by decide)).mpr c54) ?_
      exact gf_145_26 _ _ e1 _ _ (rfl : _ = gx q52.2) _ h
    · rw [if_neg c54] at h
      refine gb_f (fun q => c54 ((gc_eq e1 kg_0 z50 (by decide)).mp q)) ?_
      obtain ⟨q56, w55, h⟩ := fx_bd h
      refine gb_bind (gf_144 kg_0 (rfl : _ = gx q52.2) w55) ?_
      by_cases c57 : ¬ (gb q56.1) = 0
      · rw [if_pos c57] at h
        refine gb_t ((gc_ne (gb_b q56.1) kg_0 (gb_r _) (by decide)).mpr c57) ?_
        exact gf_145_26 _ _ e1 _ _ (rfl : _ = gx q56.2) _ h
      · rw [if_neg c57] at h
        refine gb_f (fun q => c57 ((gc_ne (gb_b q56.1) kg_0 (gb_r _) (by decide)).mp q)) ?_
        have h := Option.some.inj h
        subst h
        exact gret kg_m1 (rfl : _ = gx q56.2)

/-! ZoneSharesModel.readsPart()V -/
def gm_146_236 (x2 : Int) (x4 : Int) (s : gx_S) : Option (gx_S) :=
  if 0 ≤ x2 ∧ x2 < 9 then (
  some (gw1 (gw1 s 220 (x2).toNat x4) 215 11 (((Int32.ofInt ((gw1 s 220 (x2).toNat x4).1 215 11) ||| Int32.ofInt (((Int32.ofInt 1 <<< (Int32.ofInt x2 &&& 31))).toInt))).toInt))) else none
theorem gf_146_236 (x2 : Int) (yx2 : Int32) (e2 : yx2 = Int32.ofInt x2) (x4 : Int) (yx4 : Int32) (e4 : yx4 = Int32.ofInt x4) (s : gx_S) (σ : fx_S) (es : σ = gx s) (q : gx_S) (h : gm_146_236 x2 x4 s = some q) : fm_146_236 yx2 yx4 σ = some (gx q) := by
  unfold gm_146_236 at h
  unfold fm_146_236
  obtain ⟨z3, h⟩ := fx_gd h
  refine gb_bind (gl_st es e2 e4 ga_220 z3) ?_
  have h := Option.some.inj h
  subst h
  exact gretv (gx_w1 (rfl : _ = gx (gw1 s 220 (x2).toNat x4)) (ga_o2 (f := (fun a b => (a ||| b))) (gf1 (rfl : _ = gx (gw1 s 220 (x2).toNat x4)) 215 11) (ga_o2 (f := (fun a b => (a <<< (b &&& 31)))) kg_1 e2)))
def gm_146_222 (x2 : Int) (x3 : Int) (x4 : Int) (s : gx_S) : Option (gx_S) :=
  if (-2147483648 ≤ x4 ∧ x4 ≤ 2147483647) then (
  if x4 ≤ 9999 then (
    gm_146_236 x2 x4 s) else (
    (gm_139 2 x3 s).bind fun q4 =>
    gm_146_236 x2 x4 q4)) else none
theorem gf_146_222 (x2 : Int) (yx2 : Int32) (e2 : yx2 = Int32.ofInt x2) (x3 : Int) (yx3 : Int32) (e3 : yx3 = Int32.ofInt x3) (x4 : Int) (yx4 : Int32) (e4 : yx4 = Int32.ofInt x4) (s : gx_S) (σ : fx_S) (es : σ = gx s) (q : gx_S) (h : gm_146_222 x2 x3 x4 s = some q) : fm_146_222 yx2 yx3 yx4 σ = some (gx q) := by
  unfold gm_146_222 at h
  unfold fm_146_222
  obtain ⟨z1, h⟩ := fx_gd h
  by_cases c2 : x4 ≤ 9999
  · rw [if_pos c2] at h
    refine gb_t ((gc_le e4 kg_9999 z1 (by decide)).mpr c2) ?_
    exact gf_146_236 _ _ e2 _ _ e4 _ _ es _ h
  · rw [if_neg c2] at h
    refine gb_f (fun q => c2 ((gc_le e4 kg_9999 z1 (by decide)).mp q)) ?_
    obtain ⟨q4, w3, h⟩ := fx_bd h
    refine gb_bind (gf_139 kg_2 e3 es w3) ?_
    exact gf_146_236 _ _ e2 _ _ e4 _ _ (rfl : _ = gx q4) _ h
def gm_146_164 : Nat → Int → Int → Int → gx_S → Option (gx_S)
  | 0, _, _, _, _ => none
  | n + 1, x2, x3, x4, s =>
    (gm_138 s).bind fun q2 =>
    if (gb q2.1) = 0 then (
      gm_146_222 x2 x3 x4 q2.2) else (
      (gm_137 q2.2).bind fun q5 =>
      if (-2147483648 ≤ q5.1 ∧ q5.1 ≤ 2147483647) then (
      (gm_130 q5.1 48 57 q5.2).bind fun q8 =>
      if (gb q8.1) = 0 then (
        gm_146_222 x2 x3 x4 q8.2) else (
        (gm_137 q8.2).bind fun q11 =>
        if (-2147483648 ≤ (((10 * x4) + q11.1) - 48) ∧ (((10 * x4) + q11.1) - 48) ≤ 2147483647) then (
        gm_146_164 n x2 x3 (if (((10 * x4) + q11.1) - 48) < 10000 then (((10 * x4) + q11.1) - 48) else 10000) (gw1 q11.2 215 5 ((q11.2.1 215 5) + 1))) else none)) else none)
theorem gf_146_164 : ∀ (n : Nat) (x2 : Int) (yx2 : Int32) (e2 : yx2 = Int32.ofInt x2) (x3 : Int) (yx3 : Int32) (e3 : yx3 = Int32.ofInt x3) (x4 : Int) (yx4 : Int32) (e4 : yx4 = Int32.ofInt x4) (s : gx_S) (σ : fx_S) (es : σ = gx s) (q : gx_S), gm_146_164 n x2 x3 x4 s = some q → fm_146_164 n yx2 yx3 yx4 σ = some (gx q) := by
  intro n
  induction n with
  | zero =>
    intro x2 yx2 e2 x3 yx3 e3 x4 yx4 e4 s σ es q  h
    rw [gm_146_164] at h
    exact fx_no h
  | succ n ih =>
    intro x2 yx2 e2 x3 yx3 e3 x4 yx4 e4 s σ es q  h
    rw [gm_146_164] at h
    rw [fm_146_164]
    obtain ⟨q2, w1, h⟩ := fx_bd h
    refine gb_bind (gf_138 es w1) ?_
    by_cases c3 : (gb q2.1) = 0
    · rw [if_pos c3] at h
      refine gb_t ((gc_eq (gb_b q2.1) kg_0 (gb_r _) (by decide)).mpr c3) ?_
      exact gf_146_222 _ _ e2 _ _ e3 _ _ e4 _ _ (rfl : _ = gx q2.2) _ h
    · rw [if_neg c3] at h
      refine gb_f (fun q => c3 ((gc_eq (gb_b q2.1) kg_0 (gb_r _) (by decide)).mp q)) ?_
      obtain ⟨q5, w4, h⟩ := fx_bd h
      refine gb_bind (gf_137 (rfl : _ = gx q2.2) w4) ?_
      obtain ⟨z6, h⟩ := fx_gd h
      obtain ⟨q8, w7, h⟩ := fx_bd h
      refine gb_bind (gf_130 (ga_i2l (gr q5.1) z6) kgl_48 kgl_57 (rfl : _ = gx q5.2) w7) ?_
      by_cases c9 : (gb q8.1) = 0
      · rw [if_pos c9] at h
        refine gb_t ((gc_eq (gb_b q8.1) kg_0 (gb_r _) (by decide)).mpr c9) ?_
        exact gf_146_222 _ _ e2 _ _ e3 _ _ e4 _ _ (rfl : _ = gx q8.2) _ h
      · rw [if_neg c9] at h
        refine gb_f (fun q => c9 ((gc_eq (gb_b q8.1) kg_0 (gb_r _) (by decide)).mp q)) ?_
        obtain ⟨q11, w10, h⟩ := fx_bd h
        refine gb_bind (gf_137 (rfl : _ = gx q8.2) w10) ?_
        obtain ⟨z12, h⟩ := fx_gd h
        exact ih _ _ e2 _ _ e3 _ _ (ga_lt_ite kg_10000 (ga_sub (ga_add (ga_mul kg_10 e4) (gr q11.1)) kg_48) (by decide) z12) _ _ (gx_w1 (rfl : _ = gx q11.2) (ga_add (gf1 (rfl : _ = gx q11.2) 215 5) kg_1)) _ h
def gm_146_161 (x2 : Int) (x3 : Int) (s : gx_S) : Option (gx_S) :=
  gm_146_164 100000 x2 x3 0 s
theorem gf_146_161 (x2 : Int) (yx2 : Int32) (e2 : yx2 = Int32.ofInt x2) (x3 : Int) (yx3 : Int32) (e3 : yx3 = Int32.ofInt x3) (s : gx_S) (σ : fx_S) (es : σ = gx s) (q : gx_S) (h : gm_146_161 x2 x3 s = some q) : fm_146_161 yx2 yx3 σ = some (gx q) := by
  unfold gm_146_161 at h
  unfold fm_146_161
  exact gf_146_164 100000 _ _ e2 _ _ e3 _ _ kg_0 _ _ es _ h
def gm_146_113 (x2 : Int) (s : gx_S) : Option (gx_S) :=
  (gm_138 (gw1 s 215 5 ((s.1 215 5) + 1))).bind fun q2 =>
  if (gb q2.1) = 0 then (
    gm_146_161 x2 ((gw1 s 215 5 ((s.1 215 5) + 1)).1 215 5) q2.2) else (
    (gm_137 q2.2).bind fun q5 =>
    if (-2147483648 ≤ q5.1 ∧ q5.1 ≤ 2147483647) then (
    (gm_130 q5.1 48 57 q5.2).bind fun q8 =>
    if ¬ (gb q8.1) = 0 then (
      gm_146_161 x2 ((gw1 s 215 5 ((s.1 215 5) + 1)).1 215 5) q8.2) else (
      (gm_139 1 (q8.2.1 215 5) q8.2).bind fun q11 =>
      gm_146_161 x2 ((gw1 s 215 5 ((s.1 215 5) + 1)).1 215 5) q11)) else none)
theorem gf_146_113 (x2 : Int) (yx2 : Int32) (e2 : yx2 = Int32.ofInt x2) (s : gx_S) (σ : fx_S) (es : σ = gx s) (q : gx_S) (h : gm_146_113 x2 s = some q) : fm_146_113 yx2 σ = some (gx q) := by
  unfold gm_146_113 at h
  unfold fm_146_113
  obtain ⟨q2, w1, h⟩ := fx_bd h
  refine gb_bind (gf_138 (gx_w1 es (ga_add (gf1 es 215 5) kg_1)) w1) ?_
  by_cases c3 : (gb q2.1) = 0
  · rw [if_pos c3] at h
    refine gb_t ((gc_eq (gb_b q2.1) kg_0 (gb_r _) (by decide)).mpr c3) ?_
    exact gf_146_161 _ _ e2 _ _ (gf1 (gx_w1 es (ga_add (gf1 es 215 5) kg_1)) 215 5) _ _ (rfl : _ = gx q2.2) _ h
  · rw [if_neg c3] at h
    refine gb_f (fun q => c3 ((gc_eq (gb_b q2.1) kg_0 (gb_r _) (by decide)).mp q)) ?_
    obtain ⟨q5, w4, h⟩ := fx_bd h
    refine gb_bind (gf_137 (rfl : _ = gx q2.2) w4) ?_
    obtain ⟨z6, h⟩ := fx_gd h
    obtain ⟨q8, w7, h⟩ := fx_bd h
    refine gb_bind (gf_130 (ga_i2l (gr q5.1) z6) kgl_48 kgl_57 (rfl : _ = gx q5.2) w7) ?_
    by_cases c9 : ¬ (gb q8.1) = 0
    · rw [if_pos c9] at h
      refine gb_t ((gc_ne (gb_b q8.1) kg_0 (gb_r _) (by decide)).mpr c9) ?_
      exact gf_146_161 _ _ e2 _ _ (gf1 (gx_w1 es (ga_add (gf1 es 215 5) kg_1)) 215 5) _ _ (rfl : _ = gx q8.2) _ h
    · rw [if_neg c9] at h
      refine gb_f (fun q => c9 ((gc_ne (gb_b q8.1) kg_0 (gb_r _) (by decide)).mp q)) ?_
      obtain ⟨q11, w10, h⟩ := fx_bd h
      refine gb_bind (gf_139 kg_1 (gf1 (rfl : _ = gx q8.2) 215 5) (rfl : _ = gx q8.2) w10) ?_
      exact gf_146_161 _ _ e2 _ _ (gf1 (gx_w1 es (ga_add (gf1 es 215 5) kg_1)) 215 5) _ _ (rfl : _ = gx q11) _ h
def gm_146_78 (x2 : Int) (s : gx_S) : Option (gx_S) :=
  (gm_138 (gw1 s 215 5 ((s.1 215 5) + 1))).bind fun q2 =>
  if (gb q2.1) = 0 then (
    gm_146_113 x2 q2.2) else (
    (gm_137 q2.2).bind fun q5 =>
    if (-2147483648 ≤ q5.1 ∧ q5.1 ≤ 2147483647) then (
    if q5.1 = 61 then (
      gm_146_113 x2 q5.2) else (
      (gm_139 1 (q5.2.1 215 5) q5.2).bind fun q9 =>
      gm_146_113 x2 q9)) else none)
theorem gf_146_78 (x2 : Int) (yx2 : Int32) (e2 : yx2 = Int32.ofInt x2) (s : gx_S) (σ : fx_S) (es : σ = gx s) (q : gx_S) (h : gm_146_78 x2 s = some q) : fm_146_78 yx2 σ = some (gx q) := by
  unfold gm_146_78 at h
  unfold fm_146_78
  obtain ⟨q2, w1, h⟩ := fx_bd h
  refine gb_bind (gf_138 (gx_w1 es (ga_add (gf1 es 215 5) kg_1)) w1) ?_
  by_cases c3 : (gb q2.1) = 0
  · rw [if_pos c3] at h
    refine gb_t ((gc_eq (gb_b q2.1) kg_0 (gb_r _) (by decide)).mpr c3) ?_
    exact gf_146_113 _ _ e2 _ _ (rfl : _ = gx q2.2) _ h
  · rw [if_neg c3] at h
    refine gb_f (fun q => c3 ((gc_eq (gb_b q2.1) kg_0 (gb_r _) (by decide)).mp q)) ?_
    obtain ⟨q5, w4, h⟩ := fx_bd h
    refine gb_bind (gf_137 (rfl : _ = gx q2.2) w4) ?_
    obtain ⟨z6, h⟩ := fx_gd h
    by_cases c7 : q5.1 = 61
    · rw [if_pos c7] at h
      refine gb_t ((gc_eq (gr q5.1) kg_61 z6 (by decide)).mpr c7) ?_
      exact gf_146_113 _ _ e2 _ _ (rfl : _ = gx q5.2) _ h
    · rw [if_neg c7] at h
      refine gb_f (fun q => c7 ((gc_eq (gr q5.1) kg_61 z6 (by decide)).mp q)) ?_
      obtain ⟨q9, w8, h⟩ := fx_bd h
      refine gb_bind (gf_139 kg_1 (gf1 (rfl : _ = gx q5.2) 215 5) (rfl : _ = gx q5.2) w8) ?_
      exact gf_146_113 _ _ e2 _ _ (rfl : _ = gx q9) _ h
def gm_146_47 (x1 : Int) (s0 : Int) (s : gx_S) : Option (gx_S) :=
  if (-2147483648 ≤ s0 ∧ s0 ≤ 2147483647) then (
  if ¬ s0 = (-1) then (
    if (-2147483648 ≤ ((Int32.ofInt (((Int32.ofInt (s.1 215 11) >>> (Int32.ofInt s0 &&& 31))).toInt) &&& Int32.ofInt 1)).toInt ∧ ((Int32.ofInt (((Int32.ofInt (s.1 215 11) >>> (Int32.ofInt s0 &&& 31))).toInt) &&& Int32.ofInt 1)).toInt ≤ 2147483647) then (
    if ¬ ((Int32.ofInt (((Int32.ofInt (s.1 215 11) >>> (Int32.ofInt s0 &&& 31))).toInt) &&& Int32.ofInt 1)).toInt = 1 then (
      gm_146_78 s0 s) else (
      (gm_139 3 x1 s).bind fun q6 =>
      gm_146_78 s0 q6)) else none) else (
    (gm_139 1 x1 s).bind fun q8 =>
    some q8)) else none
theorem gf_146_47 (x1 : Int) (yx1 : Int32) (e1 : yx1 = Int32.ofInt x1) (s0 : Int) (ys0 : Int32) (es0 : ys0 = Int32.ofInt s0) (s : gx_S) (σ : fx_S) (es : σ = gx s) (q : gx_S) (h : gm_146_47 x1 s0 s = some q) : fm_146_47 yx1 ys0 σ = some (gx q) := by
  unfold gm_146_47 at h
  unfold fm_146_47
  obtain ⟨z1, h⟩ := fx_gd h
  by_cases c2 : ¬ s0 = (-1)
  · rw [if_pos c2] at h
    refine gb_t ((gc_ne es0 kg_m1 z1 (by decide)).mpr c2) ?_
    obtain ⟨z3, h⟩ := fx_gd h
    by_cases c4 : ¬ ((Int32.ofInt (((Int32.ofInt (s.1 215 11) >>> (Int32.ofInt s0 &&& 31))).toInt) &&& Int32.ofInt 1)).toInt = 1
    · rw [if_pos c4] at h
      refine gb_t ((gc_ne (ga_o2 (f := (fun a b => (a &&& b))) (ga_o2 (f := (fun a b => (a >>> (b &&& 31)))) (gf1 es 215 11) es0) kg_1) kg_1 z3 (by decide)).mpr c4) ?_
      exact gf_146_78 _ _ es0 _ _ es _ h
    · rw [if_neg c4] at h
      refine gb_f (fun q => c4 ((gc_ne (ga_o2 (f := (fun a b => (a &&& b))) (ga_o2 (f := (fun a b => (a >>> (b &&& 31)))) (gf1 es 215 11) es0) kg_1) kg_1 z3 (by decide)).mp q)) ?_
      obtain ⟨q6, w5, h⟩ := fx_bd h
      refine gb_bind (gf_139 kg_3 e1 es w5) ?_
      exact gf_146_78 _ _ es0 _ _ (rfl : _ = gx q6) _ h
  · rw [if_neg c2] at h
    refine gb_f (fun q => c2 ((gc_ne es0 kg_m1 z1 (by decide)).mp q)) ?_
    obtain ⟨q8, w7, h⟩ := fx_bd h
    refine gb_bind (gf_139 kg_1 e1 es w7) ?_
    have h := Option.some.inj h
    subst h
    exact gretv (rfl : _ = gx q8)
def gm_146 (s : gx_S) : Option (gx_S) :=
  (gm_137 s).bind fun q61 =>
  if (-2147483648 ≤ q61.1 ∧ q61.1 ≤ 2147483647) then (
  if ¬ q61.1 = 63 then (
    (gm_137 q61.2).bind fun q65 =>
    if (-2147483648 ≤ q65.1 ∧ q65.1 ≤ 2147483647) then (
    (gm_130 q65.1 97 104 q65.2).bind fun q68 =>
    if (gb q68.1) = 0 then (
      gm_146_47 (s.1 215 5) (-1) q68.2) else (
      (gm_137 q68.2).bind fun q71 =>
      gm_146_47 (s.1 215 5) (q71.1 - 97) q71.2)) else none) else (
    gm_146_47 (s.1 215 5) 8 q61.2)) else none
theorem gf_146 {s : gx_S} {σ : fx_S} (es : σ = gx s) {q : gx_S} (h : gm_146 s = some q) : fm_146 σ = some (gx q) := by
  unfold gm_146 at h
  unfold fm_146
  obtain ⟨q61, w60, h⟩ := fx_bd h
  refine gb_bind (gf_137 es w60) ?_
  obtain ⟨z62, h⟩ := fx_gd h
  by_cases c63 : ¬ q61.1 = 63
  · rw [if_pos c63] at h
    refine gb_t ((gc_ne (gr q61.1) kg_63 z62 (by decide)).mpr c63) ?_
    obtain ⟨q65, w64, h⟩ := fx_bd h
    refine gb_bind (gf_137 (rfl : _ = gx q61.2) w64) ?_
    obtain ⟨z66, h⟩ := fx_gd h
    obtain ⟨q68, w67, h⟩ := fx_bd h
    refine gb_bind (gf_130 (ga_i2l (gr q65.1) z66) kgl_97 kgl_104 (rfl : _ = gx q65.2) w67) ?_
    by_cases c69 : (gb q68.1) = 0
    · rw [if_pos c69] at h
      refine gb_t ((gc_eq (gb_b q68.1) kg_0 (gb_r _) (by decide)).mpr c69) ?_
      exact gf_146_47 _ _ (gf1 es 215 5) _ _ kg_m1 _ _ (rfl : _ = gx q68.2) _ h
    · rw [if_neg c69] at h
      refine gb_f (fun q => c69 ((gc_eq (gb_b q68.1) kg_0 (gb_r _) (by decide)).mp q)) ?_
      obtain ⟨q71, w70, h⟩ := fx_bd h
      refine gb_bind (gf_137 (rfl : _ = gx q68.2) w70) ?_
      exact gf_146_47 _ _ (gf1 es 215 5) _ _ (ga_sub (gr q71.1) kg_97) _ _ (rfl : _ = gx q71.2) _ h
  · rw [if_neg c63] at h
    refine gb_f (fun q => c63 ((gc_ne (gr q61.1) kg_63 z62 (by decide)).mp q)) ?_
    exact gf_146_47 _ _ (gf1 es 215 5) _ _ kg_8 _ _ (rfl : _ = gx q61.2) _ h

/-! ZoneSharesModel.readsCounts()V -/
def gm_147_78 (k_49 : Int → gx_S → Option (gx_S)) (s0 : Int) (s : gx_S) : Option (gx_S) :=
  (gm_131 s0 s).bind fun q2 =>
  k_49 s0 (gw1 q2.2 215 5 ((s.1 215 5) + q2.1))
theorem gf_147_78 {kf_49 : Int32 → fx_S → Option (fx_S)} {kg_49 : Int → gx_S → Option (gx_S)} (hk_49 : ∀ (x1 : Int) (yx1 : Int32) (e1 : yx1 = Int32.ofInt x1) (s : gx_S) (σ : fx_S) (es : σ = gx s) (q : gx_S), kg_49 x1 s = some q → kf_49 yx1 σ = some (gx q)) (s0 : Int) (ys0 : Int32) (es0 : ys0 = Int32.ofInt s0) (s : gx_S) (σ : fx_S) (es : σ = gx s) (q : gx_S) (h : gm_147_78 kg_49 s0 s = some q) : fm_147_78 kf_49 ys0 σ = some (gx q) := by
  unfold gm_147_78 at h
  unfold fm_147_78
  obtain ⟨q2, w1, h⟩ := fx_bd h
  refine gb_bind (gf_131 es0 es w1) ?_
  exact hk_49 _ _ es0 _ _ (gx_w1 (rfl : _ = gx q2.2) (ga_add (gf1 es 215 5) (gr q2.1))) _ h
def gm_147_49 : Nat → Int → gx_S → Option (gx_S)
  | 0, _, _ => none
  | n + 1, x1, s =>
    if (-2147483648 ≤ x1 ∧ x1 ≤ 2147483647) then (
    if x1 = 0 then (
      (gm_138 s).bind fun q4 =>
      if (gb q4.1) = 0 then (
        some q4.2) else (
        (gm_137 q4.2).bind fun q7 =>
        if (-2147483648 ≤ q7.1 ∧ q7.1 ≤ 2147483647) then (
        if q7.1 = (-1) then (
          some q7.2) else (
          (gm_139 1 (q7.2.1 215 5) q7.2).bind fun q11 =>
          some q11)) else none)) else (
      (gm_146 s).bind fun q13 =>
      (gm_138 q13).bind fun q15 =>
      if (gb q15.1) = 0 then (
        gm_147_78 (gm_147_49 n) 0 q15.2) else (
        (gm_137 q15.2).bind fun q18 =>
        if (-2147483648 ≤ q18.1 ∧ q18.1 ≤ 2147483647) then (
        if ¬ q18.1 = 44 then (
          gm_147_78 (gm_147_49 n) 0 q18.2) else (
          gm_147_78 (gm_147_49 n) 1 q18.2)) else none))) else none
theorem gf_147_49 : ∀ (n : Nat) (x1 : Int) (yx1 : Int32) (e1 : yx1 = Int32.ofInt x1) (s : gx_S) (σ : fx_S) (es : σ = gx s) (q : gx_S), gm_147_49 n x1 s = some q → fm_147_49 n yx1 σ = some (gx q) := by
  intro n
  induction n with
  | zero =>
    intro x1 yx1 e1 s σ es q  h
    rw [gm_147_49] at h
    exact fx_no h
  | succ n ih =>
    intro x1 yx1 e1 s σ es q  h
    rw [gm_147_49] at h
    rw [fm_147_49]
    obtain ⟨z1, h⟩ := fx_gd h
    by_cases c2 : x1 = 0
    · rw [if_pos c2] at h
      refine gb_t ((gc_eq e1 kg_0 z1 (by decide)).mpr c2) ?_
      obtain ⟨q4, w3, h⟩ := fx_bd h
      refine gb_bind (gf_138 es w3) ?_
      by_cases c5 : (gb q4.1) = 0
      · rw [if_pos c5] at h
        refine gb_t ((gc_eq (gb_b q4.1) kg_0 (gb_r _) (by decide)).mpr c5) ?_
        have h := Option.some.inj h
        subst h
        exact gretv (rfl : _ = gx q4.2)
      · rw [if_neg c5] at h
        refine gb_f (fun q => c5 ((gc_eq (gb_b q4.1) kg_0 (gb_r _) (by decide)).mp q)) ?_
        obtain ⟨q7, w6, h⟩ := fx_bd h
        refine gb_bind (gf_137 (rfl : _ = gx q4.2) w6) ?_
        obtain ⟨z8, h⟩ := fx_gd h
        by_cases c9 : q7.1 = (-1)
        · rw [if_pos c9] at h
          refine gb_t ((gc_eq (gr q7.1) kg_m1 z8 (by decide)).mpr c9) ?_
          have h := Option.some.inj h
          subst h
          exact gretv (rfl : _ = gx q7.2)
        · rw [if_neg c9] at h
          refine gb_f (fun q => c9 ((gc_eq (gr q7.1) kg_m1 z8 (by decide)).mp q)) ?_
          obtain ⟨q11, w10, h⟩ := fx_bd h
          refine gb_bind (gf_139 kg_1 (gf1 (rfl : _ = gx q7.2) 215 5) (rfl : _ = gx q7.2) w10) ?_
          have h := Option.some.inj h
          subst h
          exact gretv (rfl : _ = gx q11)
    · rw [if_neg c2] at h
      refine gb_f (fun q => c2 ((gc_eq e1 kg_0 z1 (by decide)).mp q)) ?_
      obtain ⟨q13, w12, h⟩ := fx_bd h
      refine gb_bind (gf_146 es w12) ?_
      obtain ⟨q15, w14, h⟩ := fx_bd h
      refine gb_bind (gf_138 (rfl : _ = gx q13) w14) ?_
      by_cases c16 : (gb q15.1) = 0
      · rw [if_pos c16] at h
        refine gb_t ((gc_eq (gb_b q15.1) kg_0 (gb_r _) (by decide)).mpr c16) ?_
        exact gf_147_78 ih _ _ kg_0 _ _ (rfl : _ = gx q15.2) _ h
      · rw [if_neg c16] at h
        refine gb_f (fun q => c16 ((gc_eq (gb_b q15.1) kg_0 (gb_r _) (by decide)).mp q)) ?_
        obtain ⟨q18, w17, h⟩ := fx_bd h
        refine gb_bind (gf_137 (rfl : _ = gx q15.2) w17) ?_
        obtain ⟨z19, h⟩ := fx_gd h
        by_cases c20 : ¬ q18.1 = 44
        · rw [if_pos c20] at h
          refine gb_t ((gc_ne (gr q18.1) kg_44 z19 (by decide)).mpr c20) ?_
          exact gf_147_78 ih _ _ kg_0 _ _ (rfl : _ = gx q18.2) _ h
        · rw [if_neg c20] at h
          refine gb_f (fun q => c20 ((gc_ne (gr q18.1) kg_44 z19 (by decide)).mp q)) ?_
          exact gf_147_78 ih _ _ kg_1 _ _ (rfl : _ = gx q18.2) _ h
def gm_147_48 (s0 : Int) (s : gx_S) : Option (gx_S) :=
  gm_147_49 100000 s0 s
theorem gf_147_48 (s0 : Int) (ys0 : Int32) (es0 : ys0 = Int32.ofInt s0) (s : gx_S) (σ : fx_S) (es : σ = gx s) (q : gx_S) (h : gm_147_48 s0 s = some q) : fm_147_48 ys0 σ = some (gx q) := by
  unfold gm_147_48 at h
  unfold fm_147_48
  exact gf_147_49 100000 _ _ es0 _ _ es _ h
def gm_147_17 : Nat → Int → gx_S → Option (gx_S)
  | 0, _, _ => none
  | n + 1, x1, s =>
    if (-2147483648 ≤ x1 ∧ x1 ≤ 2147483647) then (
    if 9 ≤ x1 then (
      if (-2147483648 ≤ (s.1 215 4) ∧ (s.1 215 4) ≤ 2147483647) then (
      if (s.1 215 4) ≤ 0 then (
        gm_147_48 0 s) else (
        gm_147_48 1 s)) else none) else (
      if 0 ≤ x1 ∧ x1 < 9 then (
      gm_147_17 n (x1 + 1) (gw1 s 220 (x1).toNat 0)) else none)) else none
theorem gf_147_17 : ∀ (n : Nat) (x1 : Int) (yx1 : Int32) (e1 : yx1 = Int32.ofInt x1) (s : gx_S) (σ : fx_S) (es : σ = gx s) (q : gx_S), gm_147_17 n x1 s = some q → fm_147_17 n yx1 σ = some (gx q) := by
  intro n
  induction n with
  | zero =>
    intro x1 yx1 e1 s σ es q  h
    rw [gm_147_17] at h
    exact fx_no h
  | succ n ih =>
    intro x1 yx1 e1 s σ es q  h
    rw [gm_147_17] at h
    rw [fm_147_17]
    obtain ⟨z1, h⟩ := fx_gd h
    by_cases c2 : 9 ≤ x1
    · rw [if_pos c2] at h
      refine gb_t ((gc_le kg_9 e1 (by decide) z1).mpr c2) ?_
      obtain ⟨z3, h⟩ := fx_gd h
      by_cases c4 : (s.1 215 4) ≤ 0
      · rw [if_pos c4] at h
        refine gb_t ((gc_le (gf1 es 215 4) kg_0 z3 (by decide)).mpr c4) ?_
        exact gf_147_48 _ _ kg_0 _ _ es _ h
      · rw [if_neg c4] at h
        refine gb_f (fun q => c4 ((gc_le (gf1 es 215 4) kg_0 z3 (by decide)).mp q)) ?_
        exact gf_147_48 _ _ kg_1 _ _ es _ h
    · rw [if_neg c2] at h
      refine gb_f (fun q => c2 ((gc_le kg_9 e1 (by decide) z1).mp q)) ?_
      obtain ⟨z7, h⟩ := fx_gd h
      refine gb_bind (gl_st es e1 kg_0 ga_220 z7) ?_
      exact ih _ _ (ga_add e1 kg_1) _ _ (rfl : _ = gx (gw1 s 220 (x1).toNat 0)) _ h
def gm_147 (s : gx_S) : Option (gx_S) :=
  gm_147_17 100000 0 (gw1 (gw1 (gw1 s 215 5 0) 215 6 (-1)) 215 11 0)
theorem gf_147 {s : gx_S} {σ : fx_S} (es : σ = gx s) {q : gx_S} (h : gm_147 s = some q) : fm_147 σ = some (gx q) := by
  unfold gm_147 at h
  unfold fm_147
  exact gf_147_17 100000 _ _ kg_0 _ _ (gx_w1 (gx_w1 (gx_w1 es kg_0) kg_m1) kg_0) _ h

/-! ZoneSharesModel.isGroup(I)Z -/
def gm_148 (x0 : Int) (s : gx_S) : Option (Bool × gx_S) :=
  if (-2147483648 ≤ x0 ∧ x0 ≤ 2147483647) then (
  (gm_130 x0 0 2 s).bind fun q6 =>
  some (q6.1, q6.2)) else none
theorem gf_148 {x0 : Int} {yx0 : Int32} (e0 : yx0 = Int32.ofInt x0) {s : gx_S} {σ : fx_S} (es : σ = gx s) {q : Bool × gx_S} (h : gm_148 x0 s = some q) : fm_148 yx0 σ = some (q.1, gx q.2) := by
  unfold gm_148 at h
  unfold fm_148
  obtain ⟨z4, h⟩ := fx_gd h
  obtain ⟨q6, w5, h⟩ := fx_bd h
  refine gb_bind (gf_130 (ga_i2l e0 z4) kgl_0 kgl_2 es w5) ?_
  have h := Option.some.inj h
  subst h
  exact gretb (rfl : _ = gx q6.2)

/-! ZoneSharesModel.counts(I)I -/
def gm_149_41 : Nat → Int → Int → Int → gx_S → Option (Int × gx_S)
  | 0, _, _, _, _ => none
  | n + 1, x1, x2, x3, s =>
    if (-2147483648 ≤ x3 ∧ x3 ≤ 2147483647) then (
    if 9 ≤ x3 then (
      some (x2, s)) else (
      if 0 ≤ x3 ∧ x3 < 9 then (
      if 0 ≤ ((5 + (9 * x1)) + x3) ∧ ((5 + (9 * x1)) + x3) < 340 then (
      gm_149_41 n x1 (x2 + ((gw1 s 216 (((5 + (9 * x1)) + x3)).toNat (s.1 220 (x3).toNat)).1 220 (x3).toNat)) (x3 + 1) (gw1 s 216 (((5 + (9 * x1)) + x3)).toNat (s.1 220 (x3).toNat))) else none) else none)) else none
theorem gf_149_41 : ∀ (n : Nat) (x1 : Int) (yx1 : Int32) (e1 : yx1 = Int32.ofInt x1) (x2 : Int) (yx2 : Int32) (e2 : yx2 = Int32.ofInt x2) (x3 : Int) (yx3 : Int32) (e3 : yx3 = Int32.ofInt x3) (s : gx_S) (σ : fx_S) (es : σ = gx s) (q : Int × gx_S), gm_149_41 n x1 x2 x3 s = some q → fm_149_41 n yx1 yx2 yx3 σ = some (Int32.ofInt q.1, gx q.2) := by
  intro n
  induction n with
  | zero =>
    intro x1 yx1 e1 x2 yx2 e2 x3 yx3 e3 s σ es q  h
    rw [gm_149_41] at h
    exact fx_no h
  | succ n ih =>
    intro x1 yx1 e1 x2 yx2 e2 x3 yx3 e3 s σ es q  h
    rw [gm_149_41] at h
    rw [fm_149_41]
    obtain ⟨z1, h⟩ := fx_gd h
    by_cases c2 : 9 ≤ x3
    · rw [if_pos c2] at h
      refine gb_t ((gc_le kg_9 e3 (by decide) z1).mpr c2) ?_
      have h := Option.some.inj h
      subst h
      exact gret e2 es
    · rw [if_neg c2] at h
      refine gb_f (fun q => c2 ((gc_le kg_9 e3 (by decide) z1).mp q)) ?_
      obtain ⟨z5, h⟩ := fx_gd h
      refine gb_bind (gl_ld es e3 ga_220 z5) ?_
      obtain ⟨z8, h⟩ := fx_gd h
      refine gb_bind (gl_st es (ga_add (ga_add kg_5 (ga_mul kg_9 e1)) e3) (gr (s.1 220 (x3).toNat)) ga_216 z8) ?_
      refine gb_bind (gl_ld (rfl : _ = gx (gw1 s 216 (((5 + (9 * x1)) + x3)).toNat (s.1 220 (x3).toNat))) e3 ga_220 z5) ?_
      exact ih _ _ e1 _ _ (ga_add e2 (gr ((gw1 s 216 (((5 + (9 * x1)) + x3)).toNat (s.1 220 (x3).toNat)).1 220 (x3).toNat))) _ _ (ga_add e3 kg_1) _ _ (rfl : _ = gx (gw1 s 216 (((5 + (9 * x1)) + x3)).toNat (s.1 220 (x3).toNat))) _ h
def gm_149 (x1 : Int) (s : gx_S) : Option (Int × gx_S) :=
  (gm_148 x1 s).bind fun q22 =>
  if ¬ (gb q22.1) = 0 then (
    (gm_147 q22.2).bind fun q25 =>
    (gm_138 (gw1 q25 215 4 0)).bind fun q27 =>
    if ¬ (gb q27.1) = 0 then (
      (gm_132 q27.2).bind fun q30 =>
      gm_149_41 100000 x1 0 0 q30) else (
      some (((-2) - (q27.2.1 215 6)), q27.2))) else (
    some ((-1), q22.2))
theorem gf_149 {x1 : Int} {yx1 : Int32} (e1 : yx1 = Int32.ofInt x1) {s : gx_S} {σ : fx_S} (es : σ = gx s) {q : Int × gx_S} (h : gm_149 x1 s = some q) : fm_149 yx1 σ = some (Int32.ofInt q.1, gx q.2) := by
  unfold gm_149 at h
  unfold fm_149
  obtain ⟨q22, w21, h⟩ := fx_bd h
  refine gb_bind (gf_148 e1 es w21) ?_
  by_cases c23 : ¬ (gb q22.1) = 0
  · rw [if_pos c23] at h
    refine gb_t ((gc_ne (gb_b q22.1) kg_0 (gb_r _) (by decide)).mpr c23) ?_
    obtain ⟨q25, w24, h⟩ := fx_bd h
    refine gb_bind (gf_147 (rfl : _ = gx q22.2) w24) ?_
    obtain ⟨q27, w26, h⟩ := fx_bd h
    refine gb_bind (gf_138 (gx_w1 (rfl : _ = gx q25) kg_0) w26) ?_
    by_cases c28 : ¬ (gb q27.1) = 0
    · rw [if_pos c28] at h
      refine gb_t ((gc_ne (gb_b q27.1) kg_0 (gb_r _) (by decide)).mpr c28) ?_
      obtain ⟨q30, w29, h⟩ := fx_bd h
      refine gb_bind (gf_132 (rfl : _ = gx q27.2) w29) ?_
      exact gf_149_41 100000 _ _ e1 _ _ kg_0 _ _ kg_0 _ _ (rfl : _ = gx q30) _ h
    · rw [if_neg c28] at h
      refine gb_f (fun q => c28 ((gc_ne (gb_b q27.1) kg_0 (gb_r _) (by decide)).mp q)) ?_
      have h := Option.some.inj h
      subst h
      exact gret (ga_sub kg_m2 (gf1 (rfl : _ = gx q27.2) 215 6)) (rfl : _ = gx q27.2)
  · rw [if_neg c23] at h
    refine gb_f (fun q => c23 ((gc_ne (gb_b q22.1) kg_0 (gb_r _) (by decide)).mp q)) ?_
    have h := Option.some.inj h
    subst h
    exact gret kg_m1 (rfl : _ = gx q22.2)

/-! ZoneSharesModel.isWhole()Z -/
def gm_150 (s : gx_S) : Option (Bool × gx_S) :=
  if (-2147483648 ≤ (s.1 216 2) ∧ (s.1 216 2) ≤ 2147483647) then (
  if ¬ (s.1 216 2) = 7 then (
    some (false, s)) else (
    some (true, s))) else none
theorem gf_150 {s : gx_S} {σ : fx_S} (es : σ = gx s) {q : Bool × gx_S} (h : gm_150 s = some q) : fm_150 σ = some (q.1, gx q.2) := by
  unfold gm_150 at h
  unfold fm_150
  refine gb_bind (gl_ld es kg_2 ga_216 (by decide)) ?_
  obtain ⟨z7, h⟩ := fx_gd h
  by_cases c8 : ¬ (s.1 216 2) = 7
  · rw [if_pos c8] at h
    refine gb_t ((gc_ne (gr (s.1 216 2)) kg_7 z7 (by decide)).mpr c8) ?_
    have h := Option.some.inj h
    subst h
    exact gretb es
  · rw [if_neg c8] at h
    refine gb_f (fun q => c8 ((gc_ne (gr (s.1 216 2)) kg_7 z7 (by decide)).mp q)) ?_
    have h := Option.some.inj h
    subst h
    exact gretb es

/-! ZoneSharesModel.cellMany()I -/
def gm_151 (s : gx_S) : Option (Int × gx_S) :=
  some (((s.1 216 0) * (s.1 216 1)), s)
theorem gf_151 {s : gx_S} {σ : fx_S} (es : σ = gx s) {q : Int × gx_S} (h : gm_151 s = some q) : fm_151 σ = some (Int32.ofInt q.1, gx q.2) := by
  unfold gm_151 at h
  unfold fm_151
  refine gb_bind (gl_ld es kg_0 ga_216 (by decide)) ?_
  refine gb_bind (gl_ld es kg_1 ga_216 (by decide)) ?_
  have h := Option.some.inj h
  subst h
  exact gret (ga_mul (gr (s.1 216 0)) (gr (s.1 216 1))) es

/-! ZoneSharesModel.codeAt(II)I -/
def gm_152 (x1 : Int) (x2 : Int) (s : gx_S) : Option (Int × gx_S) :=
  if 0 ≤ x2 ∧ x2 ≤ 2147483647 ∧ 0 < (s.1 216 1) ∧ (s.1 216 1) ≤ 2147483647 then (
  if 0 ≤ (((52 + (96 * x1)) + (12 * (x2 / (s.1 216 1)))) + (x2 % (s.1 216 1))) ∧ (((52 + (96 * x1)) + (12 * (x2 / (s.1 216 1)))) + (x2 % (s.1 216 1))) < 340 then (
  some ((s.1 216 ((((52 + (96 * x1)) + (12 * (x2 / (s.1 216 1)))) + (x2 % (s.1 216 1)))).toNat), s)) else none) else none
theorem gf_152 {x1 : Int} {yx1 : Int32} (e1 : yx1 = Int32.ofInt x1) {x2 : Int} {yx2 : Int32} (e2 : yx2 = Int32.ofInt x2) {s : gx_S} {σ : fx_S} (es : σ = gx s) {q : Int × gx_S} (h : gm_152 x1 x2 s = some q) : fm_152 yx1 yx2 σ = some (Int32.ofInt q.1, gx q.2) := by
  unfold gm_152 at h
  unfold fm_152
  refine gb_bind (gl_ld es kg_1 ga_216 (by decide)) ?_
  obtain ⟨z13, h⟩ := fx_gd h
  refine gb_t (gc_nz (gr (s.1 216 1)) z13) ?_
  refine gb_bind (gl_ld es kg_1 ga_216 (by decide)) ?_
  refine gb_t (gc_nz (gr (s.1 216 1)) z13) ?_
  obtain ⟨z20, h⟩ := fx_gd h
  refine gb_bind (gl_ld es (ga_add (ga_add (ga_add kg_52 (ga_mul kg_96 e1)) (ga_mul kg_12 (ga_div e2 (gr (s.1 216 1)) z13))) (ga_rem e2 (gr (s.1 216 1)) z13)) ga_216 z20) ?_
  have h := Option.some.inj h
  subst h
  exact gret (gr (s.1 216 ((((52 + (96 * x1)) + (12 * (x2 / (s.1 216 1)))) + (x2 % (s.1 216 1)))).toNat)) es

/-! ZoneSharesModel.hasZone(II)Z -/
def gm_153_2 : Nat → Int → Int → Int → gx_S → Option (Bool × gx_S)
  | 0, _, _, _, _ => none
  | n + 1, x1, x2, x3, s =>
    (gm_151 s).bind fun q2 =>
    if (-2147483648 ≤ x3 ∧ x3 ≤ 2147483647) then (
    if (-2147483648 ≤ q2.1 ∧ q2.1 ≤ 2147483647) then (
    if q2.1 ≤ x3 then (
      some (false, q2.2)) else (
      (gm_144 x1 q2.2).bind fun q7 =>
      if (gb q7.1) = 0 then (
        some (false, q7.2)) else (
        (gm_152 x1 x3 q7.2).bind fun q10 =>
        if (-2147483648 ≤ q10.1 ∧ q10.1 ≤ 2147483647) then (
        if (-2147483648 ≤ x2 ∧ x2 ≤ 2147483647) then (
        if ¬ q10.1 = x2 then (
          gm_153_2 n x1 x2 (x3 + 1) q10.2) else (
          some (true, q10.2))) else none) else none))) else none) else none
theorem gf_153_2 : ∀ (n : Nat) (x1 : Int) (yx1 : Int32) (e1 : yx1 = Int32.ofInt x1) (x2 : Int) (yx2 : Int32) (e2 : yx2 = Int32.ofInt x2) (x3 : Int) (yx3 : Int32) (e3 : yx3 = Int32.ofInt x3) (s : gx_S) (σ : fx_S) (es : σ = gx s) (q : Bool × gx_S), gm_153_2 n x1 x2 x3 s = some q → fm_153_2 n yx1 yx2 yx3 σ = some (q.1, gx q.2) := by
  intro n
  induction n with
  | zero =>
    intro x1 yx1 e1 x2 yx2 e2 x3 yx3 e3 s σ es q  h
    rw [gm_153_2] at h
    exact fx_no h
  | succ n ih =>
    intro x1 yx1 e1 x2 yx2 e2 x3 yx3 e3 s σ es q  h
    rw [gm_153_2] at h
    rw [fm_153_2]
    obtain ⟨q2, w1, h⟩ := fx_bd h
    refine gb_bind (gf_151 es w1) ?_
    obtain ⟨z3, h⟩ := fx_gd h
    obtain ⟨z4, h⟩ := fx_gd h
    by_cases c5 : q2.1 ≤ x3
    · rw [if_pos c5] at h
      refine gb_t ((gc_le (gr q2.1) e3 z4 z3).mpr c5) ?_
      have h := Option.some.inj h
      subst h
      exact gretb (rfl : _ = gx q2.2)
    · rw [if_neg c5] at h
      refine gb_f (fun q => c5 ((gc_le (gr q2.1) e3 z4 z3).mp q)) ?_
      obtain ⟨q7, w6, h⟩ := fx_bd h
      refine gb_bind (gf_144 e1 (rfl : _ = gx q2.2) w6) ?_
      by_cases c8 : (gb q7.1) = 0
      · rw [if_pos c8] at h
        refine gb_t ((gc_eq (gb_b q7.1) kg_0 (gb_r _) (by decide)).mpr c8) ?_
        have h := Option.some.inj h
        subst h
        exact gretb (rfl : _ = gx q7.2)
      · rw [if_neg c8] at h
        refine gb_f (fun q => c8 ((gc_eq (gb_b q7.1) kg_0 (gb_r _) (by decide)).mp q)) ?_
        obtain ⟨q10, w9, h⟩ := fx_bd h
        refine gb_bind (gf_152 e1 e3 (rfl : _ = gx q7.2) w9) ?_
        obtain ⟨z11, h⟩ := fx_gd h
        obtain ⟨z12, h⟩ := fx_gd h
        by_cases c13 : ¬ q10.1 = x2
        · rw [if_pos c13] at h
          refine gb_t ((gc_ne (gr q10.1) e2 z11 z12).mpr c13) ?_
          exact ih _ _ e1 _ _ e2 _ _ (ga_add e3 kg_1) _ _ (rfl : _ = gx q10.2) _ h
        · rw [if_neg c13] at h
          refine gb_f (fun q => c13 ((gc_ne (gr q10.1) e2 z11 z12).mp q)) ?_
          have h := Option.some.inj h
          subst h
          exact gretb (rfl : _ = gx q10.2)
def gm_153 (x1 : Int) (x2 : Int) (s : gx_S) : Option (Bool × gx_S) :=
  gm_153_2 100000 x1 x2 0 s
theorem gf_153 {x1 : Int} {yx1 : Int32} (e1 : yx1 = Int32.ofInt x1) {x2 : Int} {yx2 : Int32} (e2 : yx2 = Int32.ofInt x2) {s : gx_S} {σ : fx_S} (es : σ = gx s) {q : Bool × gx_S} (h : gm_153 x1 x2 s = some q) : fm_153 yx1 yx2 σ = some (q.1, gx q.2) := by
  unfold gm_153 at h
  unfold fm_153
  exact gf_153_2 100000 _ _ e1 _ _ e2 _ _ kg_0 _ _ es _ h

/-! ZoneSharesModel.codeMany(II)I -/
def gm_154_5 : Nat → Int → Int → Int → Int → gx_S → Option (Int × gx_S)
  | 0, _, _, _, _, _ => none
  | n + 1, x1, x2, x3, x4, s =>
    if (-2147483648 ≤ x4 ∧ x4 ≤ 2147483647) then (
    if (-2147483648 ≤ x2 ∧ x2 ≤ 2147483647) then (
    if x2 ≤ x4 then (
      some (x3, s)) else (
      (gm_153 x1 x4 s).bind fun q5 =>
      (gm_131 (gb q5.1) q5.2).bind fun q7 =>
      gm_154_5 n x1 x2 (x3 + q7.1) (x4 + 1) q7.2)) else none) else none
theorem gf_154_5 : ∀ (n : Nat) (x1 : Int) (yx1 : Int32) (e1 : yx1 = Int32.ofInt x1) (x2 : Int) (yx2 : Int32) (e2 : yx2 = Int32.ofInt x2) (x3 : Int) (yx3 : Int32) (e3 : yx3 = Int32.ofInt x3) (x4 : Int) (yx4 : Int32) (e4 : yx4 = Int32.ofInt x4) (s : gx_S) (σ : fx_S) (es : σ = gx s) (q : Int × gx_S), gm_154_5 n x1 x2 x3 x4 s = some q → fm_154_5 n yx1 yx2 yx3 yx4 σ = some (Int32.ofInt q.1, gx q.2) := by
  intro n
  induction n with
  | zero =>
    intro x1 yx1 e1 x2 yx2 e2 x3 yx3 e3 x4 yx4 e4 s σ es q  h
    rw [gm_154_5] at h
    exact fx_no h
  | succ n ih =>
    intro x1 yx1 e1 x2 yx2 e2 x3 yx3 e3 x4 yx4 e4 s σ es q  h
    rw [gm_154_5] at h
    rw [fm_154_5]
    obtain ⟨z1, h⟩ := fx_gd h
    obtain ⟨z2, h⟩ := fx_gd h
    by_cases c3 : x2 ≤ x4
    · rw [if_pos c3] at h
      refine gb_t ((gc_le e2 e4 z2 z1).mpr c3) ?_
      have h := Option.some.inj h
      subst h
      exact gret e3 es
    · rw [if_neg c3] at h
      refine gb_f (fun q => c3 ((gc_le e2 e4 z2 z1).mp q)) ?_
      obtain ⟨q5, w4, h⟩ := fx_bd h
      refine gb_bind (gf_153 e1 e4 es w4) ?_
      obtain ⟨q7, w6, h⟩ := fx_bd h
      refine gb_bind (gf_131 (gb_b q5.1) (rfl : _ = gx q5.2) w6) ?_
      exact ih _ _ e1 _ _ e2 _ _ (ga_add e3 (gr q7.1)) _ _ (ga_add e4 kg_1) _ _ (rfl : _ = gx q7.2) _ h
def gm_154 (x1 : Int) (x2 : Int) (s : gx_S) : Option (Int × gx_S) :=
  gm_154_5 100000 x1 x2 0 0 s
theorem gf_154 {x1 : Int} {yx1 : Int32} (e1 : yx1 = Int32.ofInt x1) {x2 : Int} {yx2 : Int32} (e2 : yx2 = Int32.ofInt x2) {s : gx_S} {σ : fx_S} (es : σ = gx s) {q : Int × gx_S} (h : gm_154 x1 x2 s = some q) : fm_154 yx1 yx2 σ = some (Int32.ofInt q.1, gx q.2) := by
  unfold gm_154 at h
  unfold fm_154
  exact gf_154_5 100000 _ _ e1 _ _ e2 _ _ kg_0 _ _ kg_0 _ _ es _ h

/-! ZoneSharesModel.countOf(II)I -/
def gm_155 (x1 : Int) (x2 : Int) (s : gx_S) : Option (Int × gx_S) :=
  if 0 ≤ ((5 + (9 * x1)) + x2) ∧ ((5 + (9 * x1)) + x2) < 340 then (
  some ((s.1 216 (((5 + (9 * x1)) + x2)).toNat), s)) else none
theorem gf_155 {x1 : Int} {yx1 : Int32} (e1 : yx1 = Int32.ofInt x1) {x2 : Int} {yx2 : Int32} (e2 : yx2 = Int32.ofInt x2) {s : gx_S} {σ : fx_S} (es : σ = gx s) {q : Int × gx_S} (h : gm_155 x1 x2 s = some q) : fm_155 yx1 yx2 σ = some (Int32.ofInt q.1, gx q.2) := by
  unfold gm_155 at h
  unfold fm_155
  obtain ⟨z6, h⟩ := fx_gd h
  refine gb_bind (gl_ld es (ga_add (ga_add kg_5 (ga_mul kg_9 e1)) e2) ga_216 z6) ?_
  have h := Option.some.inj h
  subst h
  exact gret (gr (s.1 216 (((5 + (9 * x1)) + x2)).toNat)) es

/-! ZoneSharesModel.weightAt(II)I -/
def gm_156 (x1 : Int) (x2 : Int) (s : gx_S) : Option (Int × gx_S) :=
  (gm_152 2 x2 s).bind fun q7 =>
  if 0 ≤ ((32 + (4 * x1)) + q7.1) ∧ ((32 + (4 * x1)) + q7.1) < 340 then (
  some ((q7.2.1 216 (((32 + (4 * x1)) + q7.1)).toNat), q7.2)) else none
theorem gf_156 {x1 : Int} {yx1 : Int32} (e1 : yx1 = Int32.ofInt x1) {x2 : Int} {yx2 : Int32} (e2 : yx2 = Int32.ofInt x2) {s : gx_S} {σ : fx_S} (es : σ = gx s) {q : Int × gx_S} (h : gm_156 x1 x2 s = some q) : fm_156 yx1 yx2 σ = some (Int32.ofInt q.1, gx q.2) := by
  unfold gm_156 at h
  unfold fm_156
  obtain ⟨q7, w6, h⟩ := fx_bd h
  refine gb_bind (gf_152 kg_2 e2 es w6) ?_
  obtain ⟨z10, h⟩ := fx_gd h
  refine gb_bind (gl_ld (rfl : _ = gx q7.2) (ga_add (ga_add kg_32 (ga_mul kg_4 e1)) (gr q7.1)) ga_216 z10) ?_
  have h := Option.some.inj h
  subst h
  exact gret (gr (q7.2.1 216 (((32 + (4 * x1)) + q7.1)).toNat)) (rfl : _ = gx q7.2)

/-! ZoneSharesModel.sumOf(IIIZ)I -/
def gm_157_81 (k_6 : Int → Int → Int → Int → Int → Int → gx_S → Option (Int × gx_S)) (x1 : Int) (x2 : Int) (x3 : Int) (x4 : Int) (x6 : Int) (s0 : Int) (s1 : Int) (s : gx_S) : Option (Int × gx_S) :=
  k_6 x1 x2 x3 x4 (s0 + s1) (x6 + 1) s
theorem gf_157_81 {kf_6 : Int32 → Int32 → Int32 → Int32 → Int32 → Int32 → fx_S → Option (Int32 × fx_S)} {kg_6 : Int → Int → Int → Int → Int → Int → gx_S → Option (Int × gx_S)} (hk_6 : ∀ (x1 : Int) (yx1 : Int32) (e1 : yx1 = Int32.ofInt x1) (x2 : Int) (yx2 : Int32) (e2 : yx2 = Int32.ofInt x2) (x3 : Int) (yx3 : Int32) (e3 : yx3 = Int32.ofInt x3) (x4 : Int) (yx4 : Int32) (e4 : yx4 = Int32.ofInt x4) (x5 : Int) (yx5 : Int32) (e5 : yx5 = Int32.ofInt x5) (x6 : Int) (yx6 : Int32) (e6 : yx6 = Int32.ofInt x6) (s : gx_S) (σ : fx_S) (es : σ = gx s) (q : Int × gx_S), kg_6 x1 x2 x3 x4 x5 x6 s = some q → kf_6 yx1 yx2 yx3 yx4 yx5 yx6 σ = some (Int32.ofInt q.1, gx q.2)) (x1 : Int) (yx1 : Int32) (e1 : yx1 = Int32.ofInt x1) (x2 : Int) (yx2 : Int32) (e2 : yx2 = Int32.ofInt x2) (x3 : Int) (yx3 : Int32) (e3 : yx3 = Int32.ofInt x3) (x4 : Int) (yx4 : Int32) (e4 : yx4 = Int32.ofInt x4) (x6 : Int) (yx6 : Int32) (e6 : yx6 = Int32.ofInt x6) (s0 : Int) (ys0 : Int32) (es0 : ys0 = Int32.ofInt s0) (s1 : Int) (ys1 : Int32) (es1 : ys1 = Int32.ofInt s1) (s : gx_S) (σ : fx_S) (es : σ = gx s) (q : Int × gx_S) (h : gm_157_81 kg_6 x1 x2 x3 x4 x6 s0 s1 s = some q) : fm_157_81 kf_6 yx1 yx2 yx3 yx4 yx6 ys0 ys1 σ = some (Int32.ofInt q.1, gx q.2) := by
  unfold gm_157_81 at h
  unfold fm_157_81
  exact hk_6 _ _ e1 _ _ e2 _ _ e3 _ _ e4 _ _ (ga_add es0 es1) _ _ (ga_add e6 kg_1) _ _ es _ h
def gm_157_52 (k_6 : Int → Int → Int → Int → Int → Int → gx_S → Option (Int × gx_S)) (x1 : Int) (x2 : Int) (x3 : Int) (x4 : Int) (x5 : Int) (x6 : Int) (s0 : Int) (s : gx_S) : Option (Int × gx_S) :=
  if (-2147483648 ≤ s0 ∧ s0 ≤ 2147483647) then (
  if ¬ s0 = 0 then (
    if (-2147483648 ≤ x4 ∧ x4 ≤ 2147483647) then (
    if x4 = 0 then (
      (gm_156 x1 x6 s).bind fun q6 =>
      gm_157_81 k_6 x1 x2 x3 x4 x6 x5 q6.1 q6.2) else (
      gm_157_81 k_6 x1 x2 x3 x4 x6 x5 1 s)) else none) else (
    gm_157_81 k_6 x1 x2 x3 x4 x6 x5 0 s)) else none
theorem gf_157_52 {kf_6 : Int32 → Int32 → Int32 → Int32 → Int32 → Int32 → fx_S → Option (Int32 × fx_S)} {kg_6 : Int → Int → Int → Int → Int → Int → gx_S → Option (Int × gx_S)} (hk_6 : ∀ (x1 : Int) (yx1 : Int32) (e1 : yx1 = Int32.ofInt x1) (x2 : Int) (yx2 : Int32) (e2 : yx2 = Int32.ofInt x2) (x3 : Int) (yx3 : Int32) (e3 : yx3 = Int32.ofInt x3) (x4 : Int) (yx4 : Int32) (e4 : yx4 = Int32.ofInt x4) (x5 : Int) (yx5 : Int32) (e5 : yx5 = Int32.ofInt x5) (x6 : Int) (yx6 : Int32) (e6 : yx6 = Int32.ofInt x6) (s : gx_S) (σ : fx_S) (es : σ = gx s) (q : Int × gx_S), kg_6 x1 x2 x3 x4 x5 x6 s = some q → kf_6 yx1 yx2 yx3 yx4 yx5 yx6 σ = some (Int32.ofInt q.1, gx q.2)) (x1 : Int) (yx1 : Int32) (e1 : yx1 = Int32.ofInt x1) (x2 : Int) (yx2 : Int32) (e2 : yx2 = Int32.ofInt x2) (x3 : Int) (yx3 : Int32) (e3 : yx3 = Int32.ofInt x3) (x4 : Int) (yx4 : Int32) (e4 : yx4 = Int32.ofInt x4) (x5 : Int) (yx5 : Int32) (e5 : yx5 = Int32.ofInt x5) (x6 : Int) (yx6 : Int32) (e6 : yx6 = Int32.ofInt x6) (s0 : Int) (ys0 : Int32) (es0 : ys0 = Int32.ofInt s0) (s : gx_S) (σ : fx_S) (es : σ = gx s) (q : Int × gx_S) (h : gm_157_52 kg_6 x1 x2 x3 x4 x5 x6 s0 s = some q) : fm_157_52 kf_6 yx1 yx2 yx3 yx4 yx5 yx6 ys0 σ = some (Int32.ofInt q.1, gx q.2) := by
  unfold gm_157_52 at h
  unfold fm_157_52
  obtain ⟨z1, h⟩ := fx_gd h
  by_cases c2 : ¬ s0 = 0
  · rw [if_pos c2] at h
    refine gb_t ((gc_ne es0 kg_0 z1 (by decide)).mpr c2) ?_
    obtain ⟨z3, h⟩ := fx_gd h
    by_cases c4 : x4 = 0
    · rw [if_pos c4] at h
      refine gb_t ((gc_eq e4 kg_0 z3 (by decide)).mpr c4) ?_
      obtain ⟨q6, w5, h⟩ := fx_bd h
      refine gb_bind (gf_156 e1 e6 es w5) ?_
      exact gf_157_81 hk_6 _ _ e1 _ _ e2 _ _ e3 _ _ e4 _ _ e6 _ _ e5 _ _ (gr q6.1) _ _ (rfl : _ = gx q6.2) _ h
    · rw [if_neg c4] at h
      refine gb_f (fun q => c4 ((gc_eq e4 kg_0 z3 (by decide)).mp q)) ?_
      exact gf_157_81 hk_6 _ _ e1 _ _ e2 _ _ e3 _ _ e4 _ _ e6 _ _ e5 _ _ kg_1 _ _ es _ h
  · rw [if_neg c2] at h
    refine gb_f (fun q => c2 ((gc_ne es0 kg_0 z1 (by decide)).mp q)) ?_
    exact gf_157_81 hk_6 _ _ e1 _ _ e2 _ _ e3 _ _ e4 _ _ e6 _ _ e5 _ _ kg_0 _ _ es _ h
def gm_157_31 (k_6 : Int → Int → Int → Int → Int → Int → gx_S → Option (Int × gx_S)) (x1 : Int) (x2 : Int) (x3 : Int) (x4 : Int) (x5 : Int) (x6 : Int) (s : gx_S) : Option (Int × gx_S) :=
  if (-2147483648 ≤ x3 ∧ x3 ≤ 2147483647) then (
  if x3 = (-1) then (
    gm_157_52 k_6 x1 x2 x3 x4 x5 x6 1 s) else (
    (gm_152 1 x6 s).bind fun q4 =>
    if (-2147483648 ≤ q4.1 ∧ q4.1 ≤ 2147483647) then (
    if ¬ q4.1 = x3 then (
      gm_157_52 k_6 x1 x2 x3 x4 x5 x6 0 q4.2) else (
      gm_157_52 k_6 x1 x2 x3 x4 x5 x6 1 q4.2)) else none)) else none
theorem gf_157_31 {kf_6 : Int32 → Int32 → Int32 → Int32 → Int32 → Int32 → fx_S → Option (Int32 × fx_S)} {kg_6 : Int → Int → Int → Int → Int → Int → gx_S → Option (Int × gx_S)} (hk_6 : ∀ (x1 : Int) (yx1 : Int32) (e1 : yx1 = Int32.ofInt x1) (x2 : Int) (yx2 : Int32) (e2 : yx2 = Int32.ofInt x2) (x3 : Int) (yx3 : Int32) (e3 : yx3 = Int32.ofInt x3) (x4 : Int) (yx4 : Int32) (e4 : yx4 = Int32.ofInt x4) (x5 : Int) (yx5 : Int32) (e5 : yx5 = Int32.ofInt x5) (x6 : Int) (yx6 : Int32) (e6 : yx6 = Int32.ofInt x6) (s : gx_S) (σ : fx_S) (es : σ = gx s) (q : Int × gx_S), kg_6 x1 x2 x3 x4 x5 x6 s = some q → kf_6 yx1 yx2 yx3 yx4 yx5 yx6 σ = some (Int32.ofInt q.1, gx q.2)) (x1 : Int) (yx1 : Int32) (e1 : yx1 = Int32.ofInt x1) (x2 : Int) (yx2 : Int32) (e2 : yx2 = Int32.ofInt x2) (x3 : Int) (yx3 : Int32) (e3 : yx3 = Int32.ofInt x3) (x4 : Int) (yx4 : Int32) (e4 : yx4 = Int32.ofInt x4) (x5 : Int) (yx5 : Int32) (e5 : yx5 = Int32.ofInt x5) (x6 : Int) (yx6 : Int32) (e6 : yx6 = Int32.ofInt x6) (s : gx_S) (σ : fx_S) (es : σ = gx s) (q : Int × gx_S) (h : gm_157_31 kg_6 x1 x2 x3 x4 x5 x6 s = some q) : fm_157_31 kf_6 yx1 yx2 yx3 yx4 yx5 yx6 σ = some (Int32.ofInt q.1, gx q.2) := by
  unfold gm_157_31 at h
  unfold fm_157_31
  obtain ⟨z1, h⟩ := fx_gd h
  by_cases c2 : x3 = (-1)
  · rw [if_pos c2] at h
    refine gb_t ((gc_eq e3 kg_m1 z1 (by decide)).mpr c2) ?_
    exact gf_157_52 hk_6 _ _ e1 _ _ e2 _ _ e3 _ _ e4 _ _ e5 _ _ e6 _ _ kg_1 _ _ es _ h
  · rw [if_neg c2] at h
    refine gb_f (fun q => c2 ((gc_eq e3 kg_m1 z1 (by decide)).mp q)) ?_
    obtain ⟨q4, w3, h⟩ := fx_bd h
    refine gb_bind (gf_152 kg_1 e6 es w3) ?_
    obtain ⟨z5, h⟩ := fx_gd h
    by_cases c6 : ¬ q4.1 = x3
    · rw [if_pos c6] at h
      refine gb_t ((gc_ne (gr q4.1) e3 z5 z1).mpr c6) ?_
      exact gf_157_52 hk_6 _ _ e1 _ _ e2 _ _ e3 _ _ e4 _ _ e5 _ _ e6 _ _ kg_0 _ _ (rfl : _ = gx q4.2) _ h
    · rw [if_neg c6] at h
      refine gb_f (fun q => c6 ((gc_ne (gr q4.1) e3 z5 z1).mp q)) ?_
      exact gf_157_52 hk_6 _ _ e1 _ _ e2 _ _ e3 _ _ e4 _ _ e5 _ _ e6 _ _ kg_1 _ _ (rfl : _ = gx q4.2) _ h
def gm_157_6 : Nat → Int → Int → Int → Int → Int → Int → gx_S → Option (Int × gx_S)
  | 0, _, _, _, _, _, _, _ => none
  | n + 1, x1, x2, x3, x4, x5, x6, s =>
    (gm_151 s).bind fun q2 =>
    if (-2147483648 ≤ x6 ∧ x6 ≤ 2147483647) then (
    if (-2147483648 ≤ q2.1 ∧ q2.1 ≤ 2147483647) then (
    if q2.1 ≤ x6 then (
      some (x5, q2.2)) else (
      if (-2147483648 ≤ x2 ∧ x2 ≤ 2147483647) then (
      if x2 = (-1) then (
        gm_157_31 (gm_157_6 n) x1 x2 x3 x4 x5 x6 q2.2) else (
        (gm_152 0 x6 q2.2).bind fun q9 =>
        if (-2147483648 ≤ q9.1 ∧ q9.1 ≤ 2147483647) then (
        if ¬ q9.1 = x2 then (
          gm_157_52 (gm_157_6 n) x1 x2 x3 x4 x5 x6 0 q9.2) else (
          gm_157_31 (gm_157_6 n) x1 x2 x3 x4 x5 x6 q9.2)) else none)) else none)) else none) else none
theorem gf_157_6 : ∀ (n : Nat) (x1 : Int) (yx1 : Int32) (e1 : yx1 = Int32.ofInt x1) (x2 : Int) (yx2 : Int32) (e2 : yx2 = Int32.ofInt x2) (x3 : Int) (yx3 : Int32) (e3 : yx3 = Int32.ofInt x3) (x4 : Int) (yx4 : Int32) (e4 : yx4 = Int32.ofInt x4) (x5 : Int) (yx5 : Int32) (e5 : yx5 = Int32.ofInt x5) (x6 : Int) (yx6 : Int32) (e6 : yx6 = Int32.ofInt x6) (s : gx_S) (σ : fx_S) (es : σ = gx s) (q : Int × gx_S), gm_157_6 n x1 x2 x3 x4 x5 x6 s = some q → fm_157_6 n yx1 yx2 yx3 yx4 yx5 yx6 σ = some (Int32.ofInt q.1, gx q.2) := by
  intro n
  induction n with
  | zero =>
    intro x1 yx1 e1 x2 yx2 e2 x3 yx3 e3 x4 yx4 e4 x5 yx5 e5 x6 yx6 e6 s σ es q  h
    rw [gm_157_6] at h
    exact fx_no h
  | succ n ih =>
    intro x1 yx1 e1 x2 yx2 e2 x3 yx3 e3 x4 yx4 e4 x5 yx5 e5 x6 yx6 e6 s σ es q  h
    rw [gm_157_6] at h
    rw [fm_157_6]
    obtain ⟨q2, w1, h⟩ := fx_bd h
    refine gb_bind (gf_151 es w1) ?_
    obtain ⟨z3, h⟩ := fx_gd h
    obtain ⟨z4, h⟩ := fx_gd h
    by_cases c5 : q2.1 ≤ x6
    · rw [if_pos c5] at h
      refine gb_t ((gc_le (gr q2.1) e6 z4 z3).mpr c5) ?_
      have h := Option.some.inj h
      subst h
      exact gret e5 (rfl : _ = gx q2.2)
    · rw [if_neg c5] at h
      refine gb_f (fun q => c5 ((gc_le (gr q2.1) e6 z4 z3).mp q)) ?_
      obtain ⟨z6, h⟩ := fx_gd h
      by_cases c7 : x2 = (-1)
      · rw [if_pos c7] at h
        refine gb_t ((gc_eq e2 kg_m1 z6 (by decide)).mpr c7) ?_
        exact gf_157_31 ih _ _ e1 _ _ e2 _ _ e3 _ _ e4 _ _ e5 _ _ e6 _ _ (rfl : _ = gx q2.2) _ h
      · rw [if_neg c7] at h
        refine gb_f (fun q => c7 ((gc_eq e2 kg_m1 z6 (by decide)).mp q)) ?_
        obtain ⟨q9, w8, h⟩ := fx_bd h
        refine gb_bind (gf_152 kg_0 e6 (rfl : _ = gx q2.2) w8) ?_
        obtain ⟨z10, h⟩ := fx_gd h
        by_cases c11 : ¬ q9.1 = x2
        · rw [if_pos c11] at h
          refine gb_t ((gc_ne (gr q9.1) e2 z10 z6).mpr c11) ?_
          exact gf_157_52 ih _ _ e1 _ _ e2 _ _ e3 _ _ e4 _ _ e5 _ _ e6 _ _ kg_0 _ _ (rfl : _ = gx q9.2) _ h
        · rw [if_neg c11] at h
          refine gb_f (fun q => c11 ((gc_ne (gr q9.1) e2 z10 z6).mp q)) ?_
          exact gf_157_31 ih _ _ e1 _ _ e2 _ _ e3 _ _ e4 _ _ e5 _ _ e6 _ _ (rfl : _ = gx q9.2) _ h
def gm_157 (x1 : Int) (x2 : Int) (x3 : Int) (x4 : Int) (s : gx_S) : Option (Int × gx_S) :=
  gm_157_6 100000 x1 x2 x3 x4 0 0 s
theorem gf_157 {x1 : Int} {yx1 : Int32} (e1 : yx1 = Int32.ofInt x1) {x2 : Int} {yx2 : Int32} (e2 : yx2 = Int32.ofInt x2) {x3 : Int} {yx3 : Int32} (e3 : yx3 = Int32.ofInt x3) {x4 : Int} {yx4 : Int32} (e4 : yx4 = Int32.ofInt x4) {s : gx_S} {σ : fx_S} (es : σ = gx s) {q : Int × gx_S} (h : gm_157 x1 x2 x3 x4 s = some q) : fm_157 yx1 yx2 yx3 yx4 σ = some (Int32.ofInt q.1, gx q.2) := by
  unfold gm_157 at h
  unfold fm_157
  exact gf_157_6 100000 _ _ e1 _ _ e2 _ _ e3 _ _ e4 _ _ kg_0 _ _ kg_0 _ _ es _ h

/-! ZoneSharesModel.oldCells(I)I -/
def gm_158_28 (k_4 : Int → Int → Int → gx_S → Option (Int × gx_S)) (x1 : Int) (x3 : Int) (s0 : Int) (s1 : Int) (s : gx_S) : Option (Int × gx_S) :=
  (gm_131 s1 s).bind fun q2 =>
  k_4 x1 (s0 + q2.1) (x3 + 1) q2.2
theorem gf_158_28 {kf_4 : Int32 → Int32 → Int32 → fx_S → Option (Int32 × fx_S)} {kg_4 : Int → Int → Int → gx_S → Option (Int × gx_S)} (hk_4 : ∀ (x1 : Int) (yx1 : Int32) (e1 : yx1 = Int32.ofInt x1) (x2 : Int) (yx2 : Int32) (e2 : yx2 = Int32.ofInt x2) (x3 : Int) (yx3 : Int32) (e3 : yx3 = Int32.ofInt x3) (s : gx_S) (σ : fx_S) (es : σ = gx s) (q : Int × gx_S), kg_4 x1 x2 x3 s = some q → kf_4 yx1 yx2 yx3 σ = some (Int32.ofInt q.1, gx q.2)) (x1 : Int) (yx1 : Int32) (e1 : yx1 = Int32.ofInt x1) (x3 : Int) (yx3 : Int32) (e3 : yx3 = Int32.ofInt x3) (s0 : Int) (ys0 : Int32) (es0 : ys0 = Int32.ofInt s0) (s1 : Int) (ys1 : Int32) (es1 : ys1 = Int32.ofInt s1) (s : gx_S) (σ : fx_S) (es : σ = gx s) (q : Int × gx_S) (h : gm_158_28 kg_4 x1 x3 s0 s1 s = some q) : fm_158_28 kf_4 yx1 yx3 ys0 ys1 σ = some (Int32.ofInt q.1, gx q.2) := by
  unfold gm_158_28 at h
  unfold fm_158_28
  obtain ⟨q2, w1, h⟩ := fx_bd h
  refine gb_bind (gf_131 es1 es w1) ?_
  exact hk_4 _ _ e1 _ _ (ga_add es0 (gr q2.1)) _ _ (ga_add e3 kg_1) _ _ (rfl : _ = gx q2.2) _ h
def gm_158_4 : Nat → Int → Int → Int → gx_S → Option (Int × gx_S)
  | 0, _, _, _, _ => none
  | n + 1, x1, x2, x3, s =>
    (gm_151 s).bind fun q2 =>
    if (-2147483648 ≤ x3 ∧ x3 ≤ 2147483647) then (
    if (-2147483648 ≤ q2.1 ∧ q2.1 ≤ 2147483647) then (
    if q2.1 ≤ x3 then (
      some (x2, q2.2)) else (
      (gm_152 0 x3 q2.2).bind fun q7 =>
      if (-2147483648 ≤ q7.1 ∧ q7.1 ≤ 2147483647) then (
      if (-2147483648 ≤ x1 ∧ x1 ≤ 2147483647) then (
      if ¬ q7.1 = x1 then (
        gm_158_28 (gm_158_4 n) x1 x3 x2 0 q7.2) else (
        gm_158_28 (gm_158_4 n) x1 x3 x2 1 q7.2)) else none) else none)) else none) else none
theorem gf_158_4 : ∀ (n : Nat) (x1 : Int) (yx1 : Int32) (e1 : yx1 = Int32.ofInt x1) (x2 : Int) (yx2 : Int32) (e2 : yx2 = Int32.ofInt x2) (x3 : Int) (yx3 : Int32) (e3 : yx3 = Int32.ofInt x3) (s : gx_S) (σ : fx_S) (es : σ = gx s) (q : Int × gx_S), gm_158_4 n x1 x2 x3 s = some q → fm_158_4 n yx1 yx2 yx3 σ = some (Int32.ofInt q.1, gx q.2) := by
  intro n
  induction n with
  | zero =>
    intro x1 yx1 e1 x2 yx2 e2 x3 yx3 e3 s σ es q  h
    rw [gm_158_4] at h
    exact fx_no h
  | succ n ih =>
    intro x1 yx1 e1 x2 yx2 e2 x3 yx3 e3 s σ es q  h
    rw [gm_158_4] at h
    rw [fm_158_4]
    obtain ⟨q2, w1, h⟩ := fx_bd h
    refine gb_bind (gf_151 es w1) ?_
    obtain ⟨z3, h⟩ := fx_gd h
    obtain ⟨z4, h⟩ := fx_gd h
    by_cases c5 : q2.1 ≤ x3
    · rw [if_pos c5] at h
      refine gb_t ((gc_le (gr q2.1) e3 z4 z3).mpr c5) ?_
      have h := Option.some.inj h
      subst h
      exact gret e2 (rfl : _ = gx q2.2)
    · rw [if_neg c5] at h
      refine gb_f (fun q => c5 ((gc_le (gr q2.1) e3 z4 z3).mp q)) ?_
      obtain ⟨q7, w6, h⟩ := fx_bd h
      refine gb_bind (gf_152 kg_0 e3 (rfl : _ = gx q2.2) w6) ?_
      obtain ⟨z8, h⟩ := fx_gd h
      obtain ⟨z9, h⟩ := fx_gd h
      by_cases c10 : ¬ q7.1 = x1
      · rw [if_pos c10] at h
        refine gb_t ((gc_ne (gr q7.1) e1 z8 z9).mpr c10) ?_
        exact gf_158_28 ih _ _ e1 _ _ e3 _ _ e2 _ _ kg_0 _ _ (rfl : _ = gx q7.2) _ h
      · rw [if_neg c10] at h
        refine gb_f (fun q => c10 ((gc_ne (gr q7.1) e1 z8 z9).mp q)) ?_
        exact gf_158_28 ih _ _ e1 _ _ e3 _ _ e2 _ _ kg_1 _ _ (rfl : _ = gx q7.2) _ h
def gm_158 (x1 : Int) (s : gx_S) : Option (Int × gx_S) :=
  gm_158_4 100000 x1 0 0 s
theorem gf_158 {x1 : Int} {yx1 : Int32} (e1 : yx1 = Int32.ofInt x1) {s : gx_S} {σ : fx_S} (es : σ = gx s) {q : Int × gx_S} (h : gm_158 x1 s = some q) : fm_158 yx1 σ = some (Int32.ofInt q.1, gx q.2) := by
  unfold gm_158 at h
  unfold fm_158
  exact gf_158_4 100000 _ _ e1 _ _ kg_0 _ _ kg_0 _ _ es _ h

/-! ZoneSharesModel.begins(II)V -/
def gm_159_12 : Nat → Int → gx_S → Option (gx_S)
  | 0, _, _ => none
  | n + 1, x3, s =>
    if (-2147483648 ≤ x3 ∧ x3 ≤ 2147483647) then (
    if 72 ≤ x3 then (
      some s) else (
      if 0 ≤ x3 ∧ x3 < 72 then (
      gm_159_12 n (x3 + 1) (gw2 (gw2 (gw1 s 222 (x3).toNat 0) 224 (x3).toNat 0) 225 (x3).toNat 0)) else none)) else none
theorem gf_159_12 : ∀ (n : Nat) (x3 : Int) (yx3 : Int32) (e3 : yx3 = Int32.ofInt x3) (s : gx_S) (σ : fx_S) (es : σ = gx s) (q : gx_S), gm_159_12 n x3 s = some q → fm_159_12 n yx3 σ = some (gx q) := by
  intro n
  induction n with
  | zero =>
    intro x3 yx3 e3 s σ es q  h
    rw [gm_159_12] at h
    exact fx_no h
  | succ n ih =>
    intro x3 yx3 e3 s σ es q  h
    rw [gm_159_12] at h
    rw [fm_159_12]
    obtain ⟨z1, h⟩ := fx_gd h
    by_cases c2 : 72 ≤ x3
    · rw [if_pos c2] at h
      refine gb_t ((gc_le kg_72 e3 (by decide) z1).mpr c2) ?_
      have h := Option.some.inj h
      subst h
      exact gretv es
    · rw [if_neg c2] at h
      refine gb_f (fun q => c2 ((gc_le kg_72 e3 (by decide) z1).mp q)) ?_
      obtain ⟨z5, h⟩ := fx_gd h
      refine gb_bind (gl_st es e3 kg_0 ga_222 z5) ?_
      refine gb_bind (gl_stl (rfl : _ = gx (gw1 s 222 (x3).toNat 0)) e3 kgl_0 ga_224 z5) ?_
      refine gb_bind (gl_stl (rfl : _ = gx (gw2 (gw1 s 222 (x3).toNat 0) 224 (x3).toNat 0)) e3 kgl_0 ga_225 z5) ?_
      exact ih _ _ (ga_add e3 kg_1) _ _ (rfl : _ = gx (gw2 (gw2 (gw1 s 222 (x3).toNat 0) 224 (x3).toNat 0) 225 (x3).toNat 0)) _ h
def gm_159 (x1 : Int) (x2 : Int) (s : gx_S) : Option (gx_S) :=
  gm_159_12 100000 0 (gw1 (gw1 s 215 17 x1) 215 18 x2)
theorem gf_159 {x1 : Int} {yx1 : Int32} (e1 : yx1 = Int32.ofInt x1) {x2 : Int} {yx2 : Int32} (e2 : yx2 = Int32.ofInt x2) {s : gx_S} {σ : fx_S} (es : σ = gx s) {q : gx_S} (h : gm_159 x1 x2 s = some q) : fm_159 yx1 yx2 σ = some (gx q) := by
  unfold gm_159 at h
  unfold fm_159
  exact gf_159_12 100000 _ _ kg_0 _ _ (gx_w1 (gx_w1 es e1) e2) _ h

/-! ZoneSharesModel.at(II)I -/
def gm_160 (x0 : Int) (x1 : Int) (s : gx_S) : Option (Int × gx_S) :=
  some (((9 * x0) + x1), s)
theorem gf_160 {x0 : Int} {yx0 : Int32} (e0 : yx0 = Int32.ofInt x0) {x1 : Int} {yx1 : Int32} (e1 : yx1 = Int32.ofInt x1) {s : gx_S} {σ : fx_S} (es : σ = gx s) {q : Int × gx_S} (h : gm_160 x0 x1 s = some q) : fm_160 yx0 yx1 σ = some (Int32.ofInt q.1, gx q.2) := by
  unfold gm_160 at h
  unfold fm_160
  have h := Option.some.inj h
  subst h
  exact gret (ga_add (ga_mul kg_9 e0) e1) es

/-! ZoneSharesModel.wholeOf(I)I -/
def gm_161_4 : Nat → Int → Int → Int → gx_S → Option (Int × gx_S)
  | 0, _, _, _, _ => none
  | n + 1, x1, x2, x3, s =>
    if (-2147483648 ≤ x3 ∧ x3 ≤ 2147483647) then (
    if (-2147483648 ≤ (s.1 215 18) ∧ (s.1 215 18) ≤ 2147483647) then (
    if (s.1 215 18) ≤ x3 then (
      if 0 ≤ x1 ∧ x1 < 8 then (
      some (x2, (gw1 s 223 (x1).toNat x2))) else none) else (
      (gm_160 x1 x3 s).bind fun q8 =>
      if 0 ≤ q8.1 ∧ q8.1 < 72 then (
      gm_161_4 n x1 (x2 + (q8.2.1 222 (q8.1).toNat)) (x3 + 1) q8.2) else none)) else none) else none
theorem gf_161_4 : ∀ (n : Nat) (x1 : Int) (yx1 : Int32) (e1 : yx1 = Int32.ofInt x1) (x2 : Int) (yx2 : Int32) (e2 : yx2 = Int32.ofInt x2) (x3 : Int) (yx3 : Int32) (e3 : yx3 = Int32.ofInt x3) (s : gx_S) (σ : fx_S) (es : σ = gx s) (q : Int × gx_S), gm_161_4 n x1 x2 x3 s = some q → fm_161_4 n yx1 yx2 yx3 σ = some (Int32.ofInt q.1, gx q.2) := by
  intro n
  induction n with
  | zero =>
    intro x1 yx1 e1 x2 yx2 e2 x3 yx3 e3 s σ es q  h
    rw [gm_161_4] at h
    exact fx_no h
  | succ n ih =>
    intro x1 yx1 e1 x2 yx2 e2 x3 yx3 e3 s σ es q  h
    rw [gm_161_4] at h
    rw [fm_161_4]
    obtain ⟨z1, h⟩ := fx_gd h
    obtain ⟨z2, h⟩ := fx_gd h
    by_cases c3 : (s.1 215 18) ≤ x3
    · rw [if_pos c3] at h
      refine gb_t ((gc_le (gf1 es 215 18) e3 z2 z1).mpr c3) ?_
      obtain ⟨z6, h⟩ := fx_gd h
      refine gb_bind (gl_st es e1 e2 ga_223 z6) ?_
      have h := Option.some.inj h
      subst h
      exact gret e2 (rfl : _ = gx (gw1 s 223 (x1).toNat x2))
    · rw [if_neg c3] at h
      refine gb_f (fun q => c3 ((gc_le (gf1 es 215 18) e3 z2 z1).mp q)) ?_
      obtain ⟨q8, w7, h⟩ := fx_bd h
      refine gb_bind (gf_160 e1 e3 es w7) ?_
      obtain ⟨z11, h⟩ := fx_gd h
      refine gb_bind (gl_ld (rfl : _ = gx q8.2) (gr q8.1) ga_222 z11) ?_
      exact ih _ _ e1 _ _ (ga_add e2 (gr (q8.2.1 222 (q8.1).toNat))) _ _ (ga_add e3 kg_1) _ _ (rfl : _ = gx q8.2) _ h
def gm_161 (x1 : Int) (s : gx_S) : Option (Int × gx_S) :=
  gm_161_4 100000 x1 0 0 s
theorem gf_161 {x1 : Int} {yx1 : Int32} (e1 : yx1 = Int32.ofInt x1) {s : gx_S} {σ : fx_S} (es : σ = gx s) {q : Int × gx_S} (h : gm_161 x1 s = some q) : fm_161 yx1 σ = some (Int32.ofInt q.1, gx q.2) := by
  unfold gm_161 at h
  unfold fm_161
  exact gf_161_4 100000 _ _ e1 _ _ kg_0 _ _ kg_0 _ _ es _ h

/-! ZoneSharesModel.cutsOff(I)J -/
def gm_162_107 (k_10 : Int → Int → Int → gx_S → Option (Int × gx_S)) (x1 : Int) (x2 : Int) (x4 : Int) (s1 : Int) (s2 : Int) (s : gx_S) : Option (Int × gx_S) :=
  if 0 ≤ s1 ∧ s1 < 72 then (
  (gm_160 x1 x4 (gw2 s 225 (s1).toNat s2)).bind fun q5 =>
  if 0 ≤ q5.1 ∧ q5.1 < 72 then (
  k_10 x1 (x2 - (q5.2.2 224 (q5.1).toNat)) (x4 + 1) q5.2) else none) else none
theorem gf_162_107 {kf_10 : Int32 → Int64 → Int32 → fx_S → Option (Int64 × fx_S)} {kg_10 : Int → Int → Int → gx_S → Option (Int × gx_S)} (hk_10 : ∀ (x1 : Int) (yx1 : Int32) (e1 : yx1 = Int32.ofInt x1) (x2 : Int) (yx2 : Int64) (e2 : yx2 = Int64.ofInt x2) (x4 : Int) (yx4 : Int32) (e4 : yx4 = Int32.ofInt x4) (s : gx_S) (σ : fx_S) (es : σ = gx s) (q : Int × gx_S), kg_10 x1 x2 x4 s = some q → kf_10 yx1 yx2 yx4 σ = some (Int64.ofInt q.1, gx q.2)) (x1 : Int) (yx1 : Int32) (e1 : yx1 = Int32.ofInt x1) (x2 : Int) (yx2 : Int64) (e2 : yx2 = Int64.ofInt x2) (x4 : Int) (yx4 : Int32) (e4 : yx4 = Int32.ofInt x4) (s1 : Int) (ys1 : Int32) (es1 : ys1 = Int32.ofInt s1) (s2 : Int) (ys2 : Int64) (es2 : ys2 = Int64.ofInt s2) (s : gx_S) (σ : fx_S) (es : σ = gx s) (q : Int × gx_S) (h : gm_162_107 kg_10 x1 x2 x4 s1 s2 s = some q) : fm_162_107 kf_10 yx1 yx2 yx4 ys1 ys2 σ = some (Int64.ofInt q.1, gx q.2) := by
  unfold gm_162_107 at h
  unfold fm_162_107
  obtain ⟨z3, h⟩ := fx_gd h
  refine gb_bind (gl_stl es es1 es2 ga_225 z3) ?_
  obtain ⟨q5, w4, h⟩ := fx_bd h
  refine gb_bind (gf_160 e1 e4 (rfl : _ = gx (gw2 s 225 (s1).toNat s2)) w4) ?_
  obtain ⟨z8, h⟩ := fx_gd h
  refine gb_bind (gl_ldl (rfl : _ = gx q5.2) (gr q5.1) ga_224 z8) ?_
  exact hk_10 _ _ e1 _ _ (gal_sub e2 (gr2 (q5.2.2 224 (q5.1).toNat))) _ _ (ga_add e4 kg_1) _ _ (rfl : _ = gx q5.2) _ h
def gm_162_73 (k_10 : Int → Int → Int → gx_S → Option (Int × gx_S)) (x1 : Int) (x2 : Int) (x4 : Int) (x5 : Int) (s1 : Int) (s2 : Int) (s : gx_S) : Option (Int × gx_S) :=
  if 0 ≤ s1 ∧ s1 < 72 then (
  (gm_160 x1 x4 (gw2 s 224 (s1).toNat s2)).bind fun q5 =>
  if 0 ≤ x1 ∧ x1 < 8 then (
  if (-2147483648 ≤ (q5.2.1 223 (x1).toNat) ∧ (q5.2.1 223 (x1).toNat) ≤ 2147483647) then (
  if ¬ (q5.2.1 223 (x1).toNat) = 0 then (
    if 0 ≤ x5 ∧ x5 ≤ 9223372036854775807 ∧ 0 < (q5.2.1 223 (x1).toNat) ∧ (q5.2.1 223 (x1).toNat) ≤ 9223372036854775807 then (
    gm_162_107 k_10 x1 x2 x4 q5.1 (x5 % (q5.2.1 223 (x1).toNat)) q5.2) else none) else (
    gm_162_107 k_10 x1 x2 x4 q5.1 0 q5.2)) else none) else none) else none
theorem gf_162_73 {kf_10 : Int32 → Int64 → Int32 → fx_S → Option (Int64 × fx_S)} {kg_10 : Int → Int → Int → gx_S → Option (Int × gx_S)} (hk_10 : ∀ (x1 : Int) (yx1 : Int32) (e1 : yx1 = Int32.ofInt x1) (x2 : Int) (yx2 : Int64) (e2 : yx2 = Int64.ofInt x2) (x4 : Int) (yx4 : Int32) (e4 : yx4 = Int32.ofInt x4) (s : gx_S) (σ : fx_S) (es : σ = gx s) (q : Int × gx_S), kg_10 x1 x2 x4 s = some q → kf_10 yx1 yx2 yx4 σ = some (Int64.ofInt q.1, gx q.2)) (x1 : Int) (yx1 : Int32) (e1 : yx1 = Int32.ofInt x1) (x2 : Int) (yx2 : Int64) (e2 : yx2 = Int64.ofInt x2) (x4 : Int) (yx4 : Int32) (e4 : yx4 = Int32.ofInt x4) (x5 : Int) (yx5 : Int64) (e5 : yx5 = Int64.ofInt x5) (s1 : Int) (ys1 : Int32) (es1 : ys1 = Int32.ofInt s1) (s2 : Int) (ys2 : Int64) (es2 : ys2 = Int64.ofInt s2) (s : gx_S) (σ : fx_S) (es : σ = gx s) (q : Int × gx_S) (h : gm_162_73 kg_10 x1 x2 x4 x5 s1 s2 s = some q) : fm_162_73 kf_10 yx1 yx2 yx4 yx5 ys1 ys2 σ = some (Int64.ofInt q.1, gx q.2) := by
  unfold gm_162_73 at h
  unfold fm_162_73
  obtain ⟨z3, h⟩ := fx_gd h
  refine gb_bind (gl_stl es es1 es2 ga_224 z3) ?_
  obtain ⟨q5, w4, h⟩ := fx_bd h
  refine gb_bind (gf_160 e1 e4 (rfl : _ = gx (gw2 s 224 (s1).toNat s2)) w4) ?_
  obtain ⟨z8, h⟩ := fx_gd h
  refine gb_bind (gl_ld (rfl : _ = gx q5.2) e1 ga_223 z8) ?_
  obtain ⟨z9, h⟩ := fx_gd h
  by_cases c10 : ¬ (q5.2.1 223 (x1).toNat) = 0
  · rw [if_pos c10] at h
    refine gb_t ((gc_ne (gr (q5.2.1 223 (x1).toNat)) kg_0 z9 (by decide)).mpr c10) ?_
    refine gb_bind (gl_ld (rfl : _ = gx q5.2) e1 ga_223 z8) ?_
    obtain ⟨z13, h⟩ := fx_gd h
    refine gb_t (gcl_nz (ga_i2l (gr (q5.2.1 223 (x1).toNat)) z9) z13) ?_
    exact gf_162_107 hk_10 _ _ e1 _ _ e2 _ _ e4 _ _ (gr q5.1) _ _ (gal_rem e5 (ga_i2l (gr (q5.2.1 223 (x1).toNat)) z9) z13) _ _ (rfl : _ = gx q5.2) _ h
  · rw [if_neg c10] at h
    refine gb_f (fun q => c10 ((gc_ne (gr (q5.2.1 223 (x1).toNat)) kg_0 z9 (by decide)).mp q)) ?_
    exact gf_162_107 hk_10 _ _ e1 _ _ e2 _ _ e4 _ _ (gr q5.1) _ _ kgl_0 _ _ (rfl : _ = gx q5.2) _ h
def gm_162_10 : Nat → Int → Int → Int → gx_S → Option (Int × gx_S)
  | 0, _, _, _, _ => none
  | n + 1, x1, x2, x4, s =>
    if (-2147483648 ≤ x4 ∧ x4 ≤ 2147483647) then (
    if (-2147483648 ≤ (s.1 215 18) ∧ (s.1 215 18) ≤ 2147483647) then (
    if (s.1 215 18) ≤ x4 then (
      if 0 ≤ x1 ∧ x1 < 8 then (
      if (-2147483648 ≤ (s.1 223 (x1).toNat) ∧ (s.1 223 (x1).toNat) ≤ 2147483647) then (
      if ¬ (s.1 223 (x1).toNat) = 0 then (
        some (x2, s)) else (
        some (0, s))) else none) else none) else (
      if 0 ≤ x1 ∧ x1 < 8 then (
      (gm_160 x1 x4 s).bind fun q13 =>
      if 0 ≤ q13.1 ∧ q13.1 < 72 then (
      if (-2147483648 ≤ (q13.2.1 222 (q13.1).toNat) ∧ (q13.2.1 222 (q13.1).toNat) ≤ 2147483647) then (
      (gm_160 x1 x4 q13.2).bind fun q19 =>
      if (-2147483648 ≤ (q19.2.1 223 (x1).toNat) ∧ (q19.2.1 223 (x1).toNat) ≤ 2147483647) then (
      if ¬ (q19.2.1 223 (x1).toNat) = 0 then (
        if 0 ≤ ((s.2 221 (x1).toNat) * (q13.2.1 222 (q13.1).toNat)) ∧ ((s.2 221 (x1).toNat) * (q13.2.1 222 (q13.1).toNat)) ≤ 9223372036854775807 ∧ 0 < (q19.2.1 223 (x1).toNat) ∧ (q19.2.1 223 (x1).toNat) ≤ 9223372036854775807 then (
        gm_162_73 (gm_162_10 n) x1 x2 x4 ((s.2 221 (x1).toNat) * (q13.2.1 222 (q13.1).toNat)) q19.1 (((s.2 221 (x1).toNat) * (q13.2.1 222 (q13.1).toNat)) / (q19.2.1 223 (x1).toNat)) q19.2) else none) else (
        gm_162_73 (gm_162_10 n) x1 x2 x4 ((s.2 221 (x1).toNat) * (q13.2.1 222 (q13.1).toNat)) q19.1 0 q19.2)) else none) else none) else none) else none)) else none) else none
theorem gf_162_10 : ∀ (n : Nat) (x1 : Int) (yx1 : Int32) (e1 : yx1 = Int32.ofInt x1) (x2 : Int) (yx2 : Int64) (e2 : yx2 = Int64.ofInt x2) (x4 : Int) (yx4 : Int32) (e4 : yx4 = Int32.ofInt x4) (s : gx_S) (σ : fx_S) (es : σ = gx s) (q : Int × gx_S), gm_162_10 n x1 x2 x4 s = some q → fm_162_10 n yx1 yx2 yx4 σ = some (Int64.ofInt q.1, gx q.2) := by
  intro n
  induction n with
  | zero =>
    intro x1 yx1 e1 x2 yx2 e2 x4 yx4 e4 s σ es q  h
    rw [gm_162_10] at h
    exact fx_no h
  | succ n ih =>
    intro x1 yx1 e1 x2 yx2 e2 x4 yx4 e4 s σ es q  h
    rw [gm_162_10] at h
    rw [fm_162_10]
    obtain ⟨z1, h⟩ := fx_gd h
    obtain ⟨z2, h⟩ := fx_gd h
    by_cases c3 : (s.1 215 18) ≤ x4
    · rw [if_pos c3] at h
      refine gb_t ((gc_le (gf1 es 215 18) e4 z2 z1).mpr c3) ?_
      obtain ⟨z6, h⟩ := fx_gd h
      refine gb_bind (gl_ld es e1 ga_223 z6) ?_
      obtain ⟨z7, h⟩ := fx_gd h
      by_cases c8 : ¬ (s.1 223 (x1).toNat) = 0
      · rw [if_pos c8] at h
        refine gb_t ((gc_ne (gr (s.1 223 (x1).toNat)) kg_0 z7 (by decide)).mpr c8) ?_
        have h := Option.some.inj h
        subst h
        exact gretl e2 es
      · rw [if_neg c8] at h
        refine gb_f (fun q => c8 ((gc_ne (gr (s.1 223 (x1).toNat)) kg_0 z7 (by decide)).mp q)) ?_
        have h := Option.some.inj h
        subst h
        exact gretl kgl_0 es
    · rw [if_neg c3] at h
      refine gb_f (fun q => c3 ((gc_le (gf1 es 215 18) e4 z2 z1).mp q)) ?_
      obtain ⟨z11, h⟩ := fx_gd h
      refine gb_bind (gl_ldl es e1 ga_221 z11) ?_
      obtain ⟨q13, w12, h⟩ := fx_bd h
      refine gb_bind (gf_160 e1 e4 es w12) ?_
      obtain ⟨z16, h⟩ := fx_gd h
      refine gb_bind (gl_ld (rfl : _ = gx q13.2) (gr q13.1) ga_222 z16) ?_
      obtain ⟨z17, h⟩ := fx_gd h
      obtain ⟨q19, w18, h⟩ := fx_bd h
      refine gb_bind (gf_160 e1 e4 (rfl : _ = gx q13.2) w18) ?_
      refine gb_bind (gl_ld (rfl : _ = gx q19.2) e1 ga_223 z11) ?_
      obtain ⟨z22, h⟩ := fx_gd h
      by_cases c23 : ¬ (q19.2.1 223 (x1).toNat) = 0
      · rw [if_pos c23] at h
        refine gb_t ((gc_ne (gr (q19.2.1 223 (x1).toNat)) kg_0 z22 (by decide)).mpr c23) ?_
        refine gb_bind (gl_ld (rfl : _ = gx q19.2) e1 ga_223 z11) ?_
        obtain ⟨z26, h⟩ := fx_gd h
        refine gb_t (gcl_nz (ga_i2l (gr (q19.2.1 223 (x1).toNat)) z22) z26) ?_
        exact gf_162_73 ih _ _ e1 _ _ e2 _ _ e4 _ _ (gal_mul (gr2 (s.2 221 (x1).toNat)) (ga_i2l (gr (q13.2.1 222 (q13.1).toNat)) z17)) _ _ (gr q19.1) _ _ (gal_div (gal_mul (gr2 (s.2 221 (x1).toNat)) (ga_i2l (gr (q13.2.1 222 (q13.1).toNat)) z17)) (ga_i2l (gr (q19.2.1 223 (x1).toNat)) z22) z26) _ _ (rfl : _ = gx q19.2) _ h
      · rw [if_neg c23] at h
        refine gb_f (fun q => c23 ((gc_ne (gr (q19.2.1 223 (x1).toNat)) kg_0 z22 (by decide)).mp q)) ?_
        exact gf_162_73 ih _ _ e1 _ _ e2 _ _ e4 _ _ (gal_mul (gr2 (s.2 221 (x1).toNat)) (ga_i2l (gr (q13.2.1 222 (q13.1).toNat)) z17)) _ _ (gr q19.1) _ _ kgl_0 _ _ (rfl : _ = gx q19.2) _ h
def gm_162 (x1 : Int) (s : gx_S) : Option (Int × gx_S) :=
  if 0 ≤ x1 ∧ x1 < 8 then (
  gm_162_10 100000 x1 (s.2 221 (x1).toNat) 0 s) else none
theorem gf_162 {x1 : Int} {yx1 : Int32} (e1 : yx1 = Int32.ofInt x1) {s : gx_S} {σ : fx_S} (es : σ = gx s) {q : Int × gx_S} (h : gm_162 x1 s = some q) : fm_162 yx1 σ = some (Int64.ofInt q.1, gx q.2) := by
  unfold gm_162 at h
  unfold fm_162
  obtain ⟨z82, h⟩ := fx_gd h
  refine gb_bind (gl_ldl es e1 ga_221 z82) ?_
  exact gf_162_10 100000 _ _ e1 _ _ (gr2 (s.2 221 (x1).toNat)) _ _ kg_0 _ _ es _ h

/-! ZoneSharesModel.givesByRests(I)V -/
def gm_163_79 (k_18 : Int → Int → Int → Int → gx_S → Option (gx_S)) (x1 : Int) (x2 : Int) (x4 : Int) (x5 : Int) (s : gx_S) : Option (gx_S) :=
  k_18 x1 x2 x4 (x5 + 1) s
theorem gf_163_79 {kf_18 : Int32 → Int64 → Int32 → Int32 → fx_S → Option (fx_S)} {kg_18 : Int → Int → Int → Int → gx_S → Option (gx_S)} (hk_18 : ∀ (x1 : Int) (yx1 : Int32) (e1 : yx1 = Int32.ofInt x1) (x2 : Int) (yx2 : Int64) (e2 : yx2 = Int64.ofInt x2) (x4 : Int) (yx4 : Int32) (e4 : yx4 = Int32.ofInt x4) (x5 : Int) (yx5 : Int32) (e5 : yx5 = Int32.ofInt x5) (s : gx_S) (σ : fx_S) (es : σ = gx s) (q : gx_S), kg_18 x1 x2 x4 x5 s = some q → kf_18 yx1 yx2 yx4 yx5 σ = some (gx q)) (x1 : Int) (yx1 : Int32) (e1 : yx1 = Int32.ofInt x1) (x2 : Int) (yx2 : Int64) (e2 : yx2 = Int64.ofInt x2) (x4 : Int) (yx4 : Int32) (e4 : yx4 = Int32.ofInt x4) (x5 : Int) (yx5 : Int32) (e5 : yx5 = Int32.ofInt x5) (s : gx_S) (σ : fx_S) (es : σ = gx s) (q : gx_S) (h : gm_163_79 kg_18 x1 x2 x4 x5 s = some q) : fm_163_79 kf_18 yx1 yx2 yx4 yx5 σ = some (gx q) := by
  unfold gm_163_79 at h
  unfold fm_163_79
  exact hk_18 _ _ e1 _ _ e2 _ _ e4 _ _ (ga_add e5 kg_1) _ _ es _ h
def gm_163_75 (k_18 : Int → Int → Int → Int → gx_S → Option (gx_S)) (x1 : Int) (x2 : Int) (x5 : Int) (s : gx_S) : Option (gx_S) :=
  gm_163_79 k_18 x1 x2 x5 x5 s
theorem gf_163_75 {kf_18 : Int32 → Int64 → Int32 → Int32 → fx_S → Option (fx_S)} {kg_18 : Int → Int → Int → Int → gx_S → Option (gx_S)} (hk_18 : ∀ (x1 : Int) (yx1 : Int32) (e1 : yx1 = Int32.ofInt x1) (x2 : Int) (yx2 : Int64) (e2 : yx2 = Int64.ofInt x2) (x4 : Int) (yx4 : Int32) (e4 : yx4 = Int32.ofInt x4) (x5 : Int) (yx5 : Int32) (e5 : yx5 = Int32.ofInt x5) (s : gx_S) (σ : fx_S) (es : σ = gx s) (q : gx_S), kg_18 x1 x2 x4 x5 s = some q → kf_18 yx1 yx2 yx4 yx5 σ = some (gx q)) (x1 : Int) (yx1 : Int32) (e1 : yx1 = Int32.ofInt x1) (x2 : Int) (yx2 : Int64) (e2 : yx2 = Int64.ofInt x2) (x5 : Int) (yx5 : Int32) (e5 : yx5 = Int32.ofInt x5) (s : gx_S) (σ : fx_S) (es : σ = gx s) (q : gx_S) (h : gm_163_75 kg_18 x1 x2 x5 s = some q) : fm_163_75 kf_18 yx1 yx2 yx5 σ = some (gx q) := by
  unfold gm_163_75 at h
  unfold fm_163_75
  exact gf_163_79 hk_18 _ _ e1 _ _ e2 _ _ e5 _ _ e5 _ _ es _ h
def gm_163_18 (k_6 : Int → Int → gx_S → Option (gx_S)) : Nat → Int → Int → Int → Int → gx_S → Option (gx_S)
  | 0, _, _, _, _, _ => none
  | n + 1, x1, x2, x4, x5, s =>
    if (-2147483648 ≤ x5 ∧ x5 ≤ 2147483647) then (
    if (-2147483648 ≤ (s.1 215 18) ∧ (s.1 215 18) ≤ 2147483647) then (
    if (s.1 215 18) ≤ x5 then (
      (gm_160 x1 x4 s).bind fun q5 =>
      if 0 ≤ q5.1 ∧ q5.1 < 72 then (
      (gm_160 x1 x4 (gw2 q5.2 224 (q5.1).toNat ((q5.2.2 224 (q5.1).toNat) + 1))).bind fun q12 =>
      if 0 ≤ q12.1 ∧ q12.1 < 72 then (
      k_6 x1 (x2 - 1) (gw2 q12.2 225 (q12.1).toNat 0)) else none) else none) else (
      (gm_160 x1 x5 s).bind fun q17 =>
      if 0 ≤ q17.1 ∧ q17.1 < 72 then (
      if (-9223372036854775808 ≤ (q17.2.2 225 (q17.1).toNat) ∧ (q17.2.2 225 (q17.1).toNat) ≤ 9223372036854775807) then (
      if (q17.2.2 225 (q17.1).toNat) ≤ 0 then (
        gm_163_79 (gm_163_18 k_6 n) x1 x2 x4 x5 q17.2) else (
        if (-2147483648 ≤ x4 ∧ x4 ≤ 2147483647) then (
        if x4 = (-1) then (
          gm_163_75 (gm_163_18 k_6 n) x1 x2 x5 q17.2) else (
          (gm_160 x1 x5 q17.2).bind fun q26 =>
          if 0 ≤ q26.1 ∧ q26.1 < 72 then (
          (gm_160 x1 x4 q26.2).bind fun q31 =>
          if 0 ≤ q31.1 ∧ q31.1 < 72 then (
          if (-9223372036854775808 ≤ (q26.2.2 225 (q26.1).toNat) ∧ (q26.2.2 225 (q26.1).toNat) ≤ 9223372036854775807) then (
          if (-9223372036854775808 ≤ (q31.2.2 225 (q31.1).toNat) ∧ (q31.2.2 225 (q31.1).toNat) ≤ 9223372036854775807) then (
          if (q26.2.2 225 (q26.1).toNat) ≤ (q31.2.2 225 (q31.1).toNat) then (
            gm_163_79 (gm_163_18 k_6 n) x1 x2 x4 x5 q31.2) else (
            gm_163_75 (gm_163_18 k_6 n) x1 x2 x5 q31.2)) else none) else none) else none) else none)) else none)) else none) else none)) else none) else none
theorem gf_163_18 {kf_6 : Int32 → Int64 → fx_S → Option (fx_S)} {kg_6 : Int → Int → gx_S → Option (gx_S)} (hk_6 : ∀ (x1 : Int) (yx1 : Int32) (e1 : yx1 = Int32.ofInt x1) (x2 : Int) (yx2 : Int64) (e2 : yx2 = Int64.ofInt x2) (s : gx_S) (σ : fx_S) (es : σ = gx s) (q : gx_S), kg_6 x1 x2 s = some q → kf_6 yx1 yx2 σ = some (gx q)) : ∀ (n : Nat) (x1 : Int) (yx1 : Int32) (e1 : yx1 = Int32.ofInt x1) (x2 : Int) (yx2 : Int64) (e2 : yx2 = Int64.ofInt x2) (x4 : Int) (yx4 : Int32) (e4 : yx4 = Int32.ofInt x4) (x5 : Int) (yx5 : Int32) (e5 : yx5 = Int32.ofInt x5) (s : gx_S) (σ : fx_S) (es : σ = gx s) (q : gx_S), gm_163_18 kg_6 n x1 x2 x4 x5 s = some q → fm_163_18 kf_6 n yx1 yx2 yx4 yx5 σ = some (gx q) := by
  intro n
  induction n with
  | zero =>
    intro x1 yx1 e1 x2 yx2 e2 x4 yx4 e4 x5 yx5 e5 s σ es q  h
    rw [gm_163_18] at h
    exact fx_no h
  | succ n ih =>
    intro x1 yx1 e1 x2 yx2 e2 x4 yx4 e4 x5 yx5 e5 s σ es q  h
    rw [gm_163_18] at h
    rw [fm_163_18]
    obtain ⟨z1, h⟩ := fx_gd h
    obtain ⟨z2, h⟩ := fx_gd h
    by_cases c3 : (s.1 215 18) ≤ x5
    · rw [if_pos c3] at h
      refine gb_t ((gc_le (gf1 es 215 18) e5 z2 z1).mpr c3) ?_
      obtain ⟨q5, w4, h⟩ := fx_bd h
      refine gb_bind (gf_160 e1 e4 es w4) ?_
      obtain ⟨z8, h⟩ := fx_gd h
      refine gb_bind (gl_ldl (rfl : _ = gx q5.2) (gr q5.1) ga_224 z8) ?_
      refine gb_bind (gl_stl (rfl : _ = gx q5.2) (gr q5.1) (gal_add (gr2 (q5.2.2 224 (q5.1).toNat)) kgl_1) ga_224 z8) ?_
      obtain ⟨q12, w11, h⟩ := fx_bd h
      refine gb_bind (gf_160 e1 e4 (rfl : _ = gx (gw2 q5.2 224 (q5.1).toNat ((q5.2.2 224 (q5.1).toNat) + 1))) w11) ?_
      obtain ⟨z15, h⟩ := fx_gd h
      refine gb_bind (gl_stl (rfl : _ = gx q12.2) (gr q12.1) kgl_0 ga_225 z15) ?_
      exact hk_6 _ _ e1 _ _ (gal_sub e2 kgl_1) _ _ (rfl : _ = gx (gw2 q12.2 225 (q12.1).toNat 0)) _ h
    · rw [if_neg c3] at h
      refine gb_f (fun q => c3 ((gc_le (gf1 es 215 18) e5 z2 z1).mp q)) ?_
      obtain ⟨q17, w16, h⟩ := fx_bd h
      refine gb_bind (gf_160 e1 e5 es w16) ?_
      obtain ⟨z20, h⟩ := fx_gd h
      refine gb_bind (gl_ldl (rfl : _ = gx q17.2) (gr q17.1) ga_225 z20) ?_
      obtain ⟨z21, h⟩ := fx_gd h
      by_cases c22 : (q17.2.2 225 (q17.1).toNat) ≤ 0
      · rw [if_pos c22] at h
        refine gb_t ((gcl_le (gr2 (q17.2.2 225 (q17.1).toNat)) kgl_0 z21 (by decide)).mpr c22) ?_
        exact gf_163_79 ih _ _ e1 _ _ e2 _ _ e4 _ _ e5 _ _ (rfl : _ = gx q17.2) _ h
      · rw [if_neg c22] at h
        refine gb_f (fun q => c22 ((gcl_le (gr2 (q17.2.2 225 (q17.1).toNat)) kgl_0 z21 (by decide)).mp q)) ?_
        obtain ⟨z23, h⟩ := fx_gd h
        by_cases c24 : x4 = (-1)
        · rw [if_pos c24] at h
          refine gb_t ((gc_eq e4 kg_m1 z23 (by decide)).mpr c24) ?_
          exact gf_163_75 ih _ _ e1 _ _ e2 _ _ e5 _ _ (rfl : _ = gx q17.2) _ h
        · rw [if_neg c24] at h
          refine gb_f (fun q => c24 ((gc_eq e4 kg_m1 z23 (by decide)).mp q)) ?_
          obtain ⟨q26, w25, h⟩ := fx_bd h
          refine gb_bind (gf_160 e1 e5 (rfl : _ = gx q17.2) w25) ?_
          obtain ⟨z29, h⟩ := fx_gd h
          refine gb_bind (gl_ldl (rfl : _ = gx q26.2) (gr q26.1) ga_225 z29) ?_
          obtain ⟨q31, w30, h⟩ := fx_bd h
          refine gb_bind (gf_160 e1 e4 (rfl : _ = gx q26.2) w30) ?_
          obtain ⟨z34, h⟩ := fx_gd h
          refine gb_bind (gl_ldl (rfl : _ = gx q31.2) (gr q31.1) ga_225 z34) ?_
          obtain ⟨z35, h⟩ := fx_gd h
          obtain ⟨z36, h⟩ := fx_gd h
          by_cases c37 : (q26.2.2 225 (q26.1).toNat) ≤ (q31.2.2 225 (q31.1).toNat)
          · rw [if_pos c37] at h
            refine gb_t ((gcl_le (gr2 (q26.2.2 225 (q26.1).toNat)) (gr2 (q31.2.2 225 (q31.1).toNat)) z35 z36).mpr c37) ?_
            exact gf_163_79 ih _ _ e1 _ _ e2 _ _ e4 _ _ e5 _ _ (rfl : _ = gx q31.2) _ h
          · rw [if_neg c37] at h
            refine gb_f (fun q => c37 ((gcl_le (gr2 (q26.2.2 225 (q26.1).toNat)) (gr2 (q31.2.2 225 (q31.1).toNat)) z35 z36).mp q)) ?_
            exact gf_163_75 ih _ _ e1 _ _ e2 _ _ e5 _ _ (rfl : _ = gx q31.2) _ h
def gm_163_6 : Nat → Int → Int → gx_S → Option (gx_S)
  | 0, _, _, _ => none
  | n + 1, x1, x2, s =>
    if (-9223372036854775808 ≤ x2 ∧ x2 ≤ 9223372036854775807) then (
    if x2 ≤ 0 then (
      some s) else (
      gm_163_18 (gm_163_6 n) 100000 x1 x2 (-1) 0 s)) else none
theorem gf_163_6 : ∀ (n : Nat) (x1 : Int) (yx1 : Int32) (e1 : yx1 = Int32.ofInt x1) (x2 : Int) (yx2 : Int64) (e2 : yx2 = Int64.ofInt x2) (s : gx_S) (σ : fx_S) (es : σ = gx s) (q : gx_S), gm_163_6 n x1 x2 s = some q → fm_163_6 n yx1 yx2 σ = some (gx q) := by
  intro n
  induction n with
  | zero =>
    intro x1 yx1 e1 x2 yx2 e2 s σ es q  h
    rw [gm_163_6] at h
    exact fx_no h
  | succ n ih =>
    intro x1 yx1 e1 x2 yx2 e2 s σ es q  h
    rw [gm_163_6] at h
    rw [fm_163_6]
    obtain ⟨z1, h⟩ := fx_gd h
    by_cases c2 : x2 ≤ 0
    · rw [if_pos c2] at h
      refine gb_t ((gcl_le e2 kgl_0 z1 (by decide)).mpr c2) ?_
      have h := Option.some.inj h
      subst h
      exact gretv es
    · rw [if_neg c2] at h
      refine gb_f (fun q => c2 ((gcl_le e2 kgl_0 z1 (by decide)).mp q)) ?_
      exact gf_163_18 ih 100000 _ _ e1 _ _ e2 _ _ kg_m1 _ _ kg_0 _ _ es _ h
def gm_163 (x1 : Int) (s : gx_S) : Option (gx_S) :=
  (gm_162 x1 s).bind fun q45 =>
  gm_163_6 100000 x1 q45.1 q45.2
theorem gf_163 {x1 : Int} {yx1 : Int32} (e1 : yx1 = Int32.ofInt x1) {s : gx_S} {σ : fx_S} (es : σ = gx s) {q : gx_S} (h : gm_163 x1 s = some q) : fm_163 yx1 σ = some (gx q) := by
  unfold gm_163 at h
  unfold fm_163
  obtain ⟨q45, w44, h⟩ := fx_bd h
  refine gb_bind (gf_162 e1 es w44) ?_
  exact gf_163_6 100000 _ _ e1 _ _ (gr2 q45.1) _ _ (rfl : _ = gx q45.2) _ h

/-! ZoneSharesModel.divisor(JJ)J -/
def gm_164_6 : Nat → Int → Int → gx_S → Option (Int × gx_S)
  | 0, _, _, _ => none
  | n + 1, x4, x6, s =>
    if (-9223372036854775808 ≤ x6 ∧ x6 ≤ 9223372036854775807) then (
    if x6 = 0 then (
      some (x4, s)) else (
      if 0 ≤ x4 ∧ x4 ≤ 9223372036854775807 ∧ 0 < x6 ∧ x6 ≤ 9223372036854775807 then (
      gm_164_6 n x6 (x4 % x6) s) else none)) else none
theorem gf_164_6 : ∀ (n : Nat) (x4 : Int) (yx4 : Int64) (e4 : yx4 = Int64.ofInt x4) (x6 : Int) (yx6 : Int64) (e6 : yx6 = Int64.ofInt x6) (s : gx_S) (σ : fx_S) (es : σ = gx s) (q : Int × gx_S), gm_164_6 n x4 x6 s = some q → fm_164_6 n yx4 yx6 σ = some (Int64.ofInt q.1, gx q.2) := by
  intro n
  induction n with
  | zero =>
    intro x4 yx4 e4 x6 yx6 e6 s σ es q  h
    rw [gm_164_6] at h
    exact fx_no h
  | succ n ih =>
    intro x4 yx4 e4 x6 yx6 e6 s σ es q  h
    rw [gm_164_6] at h
    rw [fm_164_6]
    obtain ⟨z1, h⟩ := fx_gd h
    by_cases c2 : x6 = 0
    · rw [if_pos c2] at h
      refine gb_t ((gcl_eq e6 kgl_0 z1 (by decide)).mpr c2) ?_
      have h := Option.some.inj h
      subst h
      exact gretl e4 es
    · rw [if_neg c2] at h
      refine gb_f (fun q => c2 ((gcl_eq e6 kgl_0 z1 (by decide)).mp q)) ?_
      obtain ⟨z3, h⟩ := fx_gd h
      refine gb_t (gcl_nz e6 z3) ?_
      exact ih _ _ e6 _ _ (gal_rem e4 e6 z3) _ _ es _ h
def gm_164 (x0 : Int) (x2 : Int) (s : gx_S) : Option (Int × gx_S) :=
  gm_164_6 100000 x0 x2 s
theorem gf_164 {x0 : Int} {yx0 : Int64} (e0 : yx0 = Int64.ofInt x0) {x2 : Int} {yx2 : Int64} (e2 : yx2 = Int64.ofInt x2) {s : gx_S} {σ : fx_S} (es : σ = gx s) {q : Int × gx_S} (h : gm_164 x0 x2 s = some q) : fm_164 yx0 yx2 σ = some (Int64.ofInt q.1, gx q.2) := by
  unfold gm_164 at h
  unfold fm_164
  exact gf_164_6 100000 _ _ e0 _ _ e2 _ _ es _ h

/-! ZoneSharesModel.addsPart(JJ)V -/
def gm_165 (x1 : Int) (x3 : Int) (s : gx_S) : Option (gx_S) :=
  (gm_164 (s.2 215 30) x3 s).bind fun q10 =>
  if 0 ≤ (q10.2.2 215 30) ∧ (q10.2.2 215 30) ≤ 9223372036854775807 ∧ 0 < q10.1 ∧ q10.1 ≤ 9223372036854775807 then (
  if 0 ≤ (((q10.2.2 215 30) / q10.1) * x3) ∧ (((q10.2.2 215 30) / q10.1) * x3) ≤ 9223372036854775807 ∧ 0 < (q10.2.2 215 30) ∧ (q10.2.2 215 30) ≤ 9223372036854775807 then (
  if 0 ≤ (((q10.2.2 215 30) / q10.1) * x3) ∧ (((q10.2.2 215 30) / q10.1) * x3) ≤ 9223372036854775807 ∧ 0 < x3 ∧ x3 ≤ 9223372036854775807 then (
  some (gw2 (gw2 q10.2 215 29 (((q10.2.2 215 29) * ((((q10.2.2 215 30) / q10.1) * x3) / (q10.2.2 215 30))) + (x1 * ((((q10.2.2 215 30) / q10.1) * x3) / x3)))) 215 30 (((q10.2.2 215 30) / q10.1) * x3))) else none) else none) else none
theorem gf_165 {x1 : Int} {yx1 : Int64} (e1 : yx1 = Int64.ofInt x1) {x3 : Int} {yx3 : Int64} (e3 : yx3 = Int64.ofInt x3) {s : gx_S} {σ : fx_S} (es : σ = gx s) {q : gx_S} (h : gm_165 x1 x3 s = some q) : fm_165 yx1 yx3 σ = some (gx q) := by
  unfold gm_165 at h
  unfold fm_165
  obtain ⟨q10, w9, h⟩ := fx_bd h
  refine gb_bind (gf_164 (gf2 es 215 30) e3 es w9) ?_
  obtain ⟨z11, h⟩ := fx_gd h
  refine gb_t (gcl_nz (gr2 q10.1) z11) ?_
  obtain ⟨z13, h⟩ := fx_gd h
  refine gb_t (gcl_nz (gf2 (rfl : _ = gx q10.2) 215 30) z13) ?_
  obtain ⟨z15, h⟩ := fx_gd h
  refine gb_t (gcl_nz e3 z15) ?_
  have h := Option.some.inj h
  subst h
  exact gretv (gx_w2 (gx_w2 (rfl : _ = gx q10.2) (gal_add (gal_mul (gf2 (rfl : _ = gx q10.2) 215 29) (gal_div (gal_mul (gal_div (gf2 (rfl : _ = gx q10.2) 215 30) (gr2 q10.1) z11) e3) (gf2 (rfl : _ = gx q10.2) 215 30) z13)) (gal_mul e1 (gal_div (gal_mul (gal_div (gf2 (rfl : _ = gx q10.2) 215 30) (gr2 q10.1) z11) e3) e3 z15)))) (gal_mul (gal_div (gf2 (rfl : _ = gx q10.2) 215 30) (gr2 q10.1) z11) e3))

/-! ZoneSharesModel.laysColumn(I)V -/
def gm_166_107 (s1 : Int) (s2 : Int) (s3 : Int) (s : gx_S) : Option (gx_S) :=
  (gm_131 s3 s).bind fun q2 =>
  if (-2147483648 ≤ q2.1 ∧ q2.1 ≤ 2147483647) then (
  if 0 ≤ s1 ∧ s1 < 9 then (
  some (gw2 q2.2 228 (s1).toNat (s2 + q2.1))) else none) else none
theorem gf_166_107 (s1 : Int) (ys1 : Int32) (es1 : ys1 = Int32.ofInt s1) (s2 : Int) (ys2 : Int64) (es2 : ys2 = Int64.ofInt s2) (s3 : Int) (ys3 : Int32) (es3 : ys3 = Int32.ofInt s3) (s : gx_S) (σ : fx_S) (es : σ = gx s) (q : gx_S) (h : gm_166_107 s1 s2 s3 s = some q) : fm_166_107 ys1 ys2 ys3 σ = some (gx q) := by
  unfold gm_166_107 at h
  unfold fm_166_107
  obtain ⟨q2, w1, h⟩ := fx_bd h
  refine gb_bind (gf_131 es3 es w1) ?_
  obtain ⟨z3, h⟩ := fx_gd h
  obtain ⟨z6, h⟩ := fx_gd h
  refine gb_bind (gl_stl (rfl : _ = gx q2.2) es1 (gal_add es2 (ga_i2l (gr q2.1) z3)) ga_228 z6) ?_
  have h := Option.some.inj h
  subst h
  exact gretv (rfl : _ = gx (gw2 q2.2 228 (s1).toNat (s2 + q2.1)))
def gm_166_56 (k_12 : Int → Int → gx_S → Option (gx_S)) (x1 : Int) (x2 : Int) (s : gx_S) : Option (gx_S) :=
  k_12 x1 (x2 + 1) s
theorem gf_166_56 {kf_12 : Int32 → Int32 → fx_S → Option (fx_S)} {kg_12 : Int → Int → gx_S → Option (gx_S)} (hk_12 : ∀ (x1 : Int) (yx1 : Int32) (e1 : yx1 = Int32.ofInt x1) (x2 : Int) (yx2 : Int32) (e2 : yx2 = Int32.ofInt x2) (s : gx_S) (σ : fx_S) (es : σ = gx s) (q : gx_S), kg_12 x1 x2 s = some q → kf_12 yx1 yx2 σ = some (gx q)) (x1 : Int) (yx1 : Int32) (e1 : yx1 = Int32.ofInt x1) (x2 : Int) (yx2 : Int32) (e2 : yx2 = Int32.ofInt x2) (s : gx_S) (σ : fx_S) (es : σ = gx s) (q : gx_S) (h : gm_166_56 kg_12 x1 x2 s = some q) : fm_166_56 kf_12 yx1 yx2 σ = some (gx q) := by
  unfold gm_166_56 at h
  unfold fm_166_56
  exact hk_12 _ _ e1 _ _ (ga_add e2 kg_1) _ _ es _ h
def gm_166_12 : Nat → Int → Int → gx_S → Option (gx_S)
  | 0, _, _, _ => none
  | n + 1, x1, x2, s =>
    if (-2147483648 ≤ x2 ∧ x2 ≤ 2147483647) then (
    if (-2147483648 ≤ (s.1 215 17) ∧ (s.1 215 17) ≤ 2147483647) then (
    if (s.1 215 17) ≤ x2 then (
      if 0 ≤ (s.2 215 29) ∧ (s.2 215 29) ≤ 9223372036854775807 ∧ 0 < (s.2 215 30) ∧ (s.2 215 30) ≤ 9223372036854775807 then (
      if 0 ≤ x1 ∧ x1 < 9 then (
      if 0 ≤ ((gw2 s 227 (x1).toNat ((s.2 215 29) / (s.2 215 30))).2 215 29) ∧ ((gw2 s 227 (x1).toNat ((s.2 215 29) / (s.2 215 30))).2 215 29) ≤ 9223372036854775807 ∧ 0 < ((gw2 s 227 (x1).toNat ((s.2 215 29) / (s.2 215 30))).2 215 30) ∧ ((gw2 s 227 (x1).toNat ((s.2 215 29) / (s.2 215 30))).2 215 30) ≤ 9223372036854775807 then (
      if (-9223372036854775808 ≤ (((gw2 s 227 (x1).toNat ((s.2 215 29) / (s.2 215 30))).2 215 29) % ((gw2 s 227 (x1).toNat ((s.2 215 29) / (s.2 215 30))).2 215 30)) ∧ (((gw2 s 227 (x1).toNat ((s.2 215 29) / (s.2 215 30))).2 215 29) % ((gw2 s 227 (x1).toNat ((s.2 215 29) / (s.2 215 30))).2 215 30)) ≤ 9223372036854775807) then (
      if (((gw2 s 227 (x1).toNat ((s.2 215 29) / (s.2 215 30))).2 215 29) % ((gw2 s 227 (x1).toNat ((s.2 215 29) / (s.2 215 30))).2 215 30)) ≤ 0 then (
        gm_166_107 x1 ((gw2 s 227 (x1).toNat ((s.2 215 29) / (s.2 215 30))).2 227 (x1).toNat) 0 (gw2 s 227 (x1).toNat ((s.2 215 29) / (s.2 215 30)))) else (
        gm_166_107 x1 ((gw2 s 227 (x1).toNat ((s.2 215 29) / (s.2 215 30))).2 227 (x1).toNat) 1 (gw2 s 227 (x1).toNat ((s.2 215 29) / (s.2 215 30))))) else none) else none) else none) else none) else (
      (gm_160 x2 x1 s).bind fun q16 =>
      if 0 ≤ q16.1 ∧ q16.1 < 72 then (
      if (-9223372036854775808 ≤ (q16.2.2 225 (q16.1).toNat) ∧ (q16.2.2 225 (q16.1).toNat) ≤ 9223372036854775807) then (
      if (q16.2.2 225 (q16.1).toNat) ≤ 0 then (
        gm_166_56 (gm_166_12 n) x1 x2 q16.2) else (
        (gm_160 x2 x1 q16.2).bind fun q23 =>
        if 0 ≤ q23.1 ∧ q23.1 < 72 then (
        if 0 ≤ x2 ∧ x2 < 8 then (
        if (-2147483648 ≤ (q23.2.1 223 (x2).toNat) ∧ (q23.2.1 223 (x2).toNat) ≤ 2147483647) then (
        (gm_165 (q23.2.2 225 (q23.1).toNat) (q23.2.1 223 (x2).toNat) q23.2).bind fun q32 =>
        gm_166_56 (gm_166_12 n) x1 x2 q32) else none) else none) else none)) else none) else none)) else none) else none
theorem gf_166_12 : ∀ (n : Nat) (x1 : Int) (yx1 : Int32) (e1 : yx1 = Int32.ofInt x1) (x2 : Int) (yx2 : Int32) (e2 : yx2 = Int32.ofInt x2) (s : gx_S) (σ : fx_S) (es : σ = gx s) (q : gx_S), gm_166_12 n x1 x2 s = some q → fm_166_12 n yx1 yx2 σ = some (gx q) := by
  intro n
  induction n with
  | zero =>
    intro x1 yx1 e1 x2 yx2 e2 s σ es q  h
    rw [gm_166_12] at h
    exact fx_no h
  | succ n ih =>
    intro x1 yx1 e1 x2 yx2 e2 s σ es q  h
    rw [gm_166_12] at h
    rw [fm_166_12]
    obtain ⟨z1, h⟩ := fx_gd h
    obtain ⟨z2, h⟩ := fx_gd h
    by_cases c3 : (s.1 215 17) ≤ x2
    · rw [if_pos c3] at h
      refine gb_t ((gc_le (gf1 es 215 17) e2 z2 z1).mpr c3) ?_
      obtain ⟨z4, h⟩ := fx_gd h
      refine gb_t (gcl_nz (gf2 es 215 30) z4) ?_
      obtain ⟨z8, h⟩ := fx_gd h
      refine gb_bind (gl_stl es e1 (gal_div (gf2 es 215 29) (gf2 es 215 30) z4) ga_227 z8) ?_
      refine gb_bind (gl_ldl (rfl : _ = gx (gw2 s 227 (x1).toNat ((s.2 215 29) / (s.2 215 30)))) e1 ga_227 z8) ?_
      obtain ⟨z11, h⟩ := fx_gd h
      refine gb_t (gcl_nz (gf2 (rfl : _ = gx (gw2 s 227 (x1).toNat ((s.2 215 29) / (s.2 215 30)))) 215 30) z11) ?_
      obtain ⟨z13, h⟩ := fx_gd h
      by_cases c14 : (((gw2 s 227 (x1).toNat ((s.2 215 29) / (s.2 215 30))).2 215 29) % ((gw2 s 227 (x1).toNat ((s.2 215 29) / (s.2 215 30))).2 215 30)) ≤ 0
      · rw [if_pos c14] at h
        refine gb_t ((gcl_le (gal_rem (gf2 (rfl : _ = gx (gw2 s 227 (x1).toNat ((s.2 215 29) / (s.2 215 30)))) 215 29) (gf2 (rfl : _ = gx (gw2 s 227 (x1).toNat ((s.2 215 29) / (s.2 215 30)))) 215 30) z11) kgl_0 z13 (by decide)).mpr c14) ?_
        exact gf_166_107 _ _ e1 _ _ (gr2 ((gw2 s 227 (x1).toNat ((s.2 215 29) / (s.2 215 30))).2 227 (x1).toNat)) _ _ kg_0 _ _ (rfl : _ = gx (gw2 s 227 (x1).toNat ((s.2 215 29) / (s.2 215 30)))) _ h
      · rw [if_neg c14] at h
        refine gb_f (fun q => c14 ((gcl_le (gal_rem (gf2 (rfl : _ = gx (gw2 s 227 (x1).toNat ((s.2 215 29) / (s.2 215 30)))) 215 29) (gf2 (rfl : _ = gx (gw2 s 227 (x1).toNat ((s.2 215 29) / (s.2 215 30)))) 215 30) z11) kgl_0 z13 (by decide)).mp q)) ?_
        exact gf_166_107 _ _ e1 _ _ (gr2 ((gw2 s 227 (x1).toNat ((s.2 215 29) / (s.2 215 30))).2 227 (x1).toNat)) _ _ kg_1 _ _ (rfl : _ = gx (gw2 s 227 (x1).toNat ((s.2 215 29) / (s.2 215 30)))) _ h
    · rw [if_neg c3] at h
      refine gb_f (fun q => c3 ((gc_le (gf1 es 215 17) e2 z2 z1).mp q)) ?_
      obtain ⟨q16, w15, h⟩ := fx_bd h
      refine gb_bind (gf_160 e2 e1 es w15) ?_
      obtain ⟨z19, h⟩ := fx_gd h
      refine gb_bind (gl_ldl (rfl : _ = gx q16.2) (gr q16.1) ga_225 z19) ?_
      obtain ⟨z20, h⟩ := fx_gd h
      by_cases c21 : (q16.2.2 225 (q16.1).toNat) ≤ 0
      · rw [if_pos c21] at h
        refine gb_t ((gcl_le (gr2 (q16.2.2 225 (q16.1).toNat)) kgl_0 z20 (by decide)).mpr c21) ?_
        exact gf_166_56 ih _ _ e1 _ _ e2 _ _ (rfl : _ = gx q16.2) _ h
      · rw [if_neg c21] at h
        refine gb_f (fun q => c21 ((gcl_le (gr2 (q16.2.2 225 (q16.1).toNat)) kgl_0 z20 (by decide)).mp q)) ?_
        obtain ⟨q23, w22, h⟩ := fx_bd h
        refine gb_bind (gf_160 e2 e1 (rfl : _ = gx q16.2) w22) ?_
        obtain ⟨z26, h⟩ := fx_gd h
        refine gb_bind (gl_ldl (rfl : _ = gx q23.2) (gr q23.1) ga_225 z26) ?_
        obtain ⟨z29, h⟩ := fx_gd h
        refine gb_bind (gl_ld (rfl : _ = gx q23.2) e2 ga_223 z29) ?_
        obtain ⟨z30, h⟩ := fx_gd h
        obtain ⟨q32, w31, h⟩ := fx_bd h
        refine gb_bind (gf_165 (gr2 (q23.2.2 225 (q23.1).toNat)) (ga_i2l (gr (q23.2.1 223 (x2).toNat)) z30) (rfl : _ = gx q23.2) w31) ?_
        exact gf_166_56 ih _ _ e1 _ _ e2 _ _ (rfl : _ = gx q32) _ h
def gm_166 (x1 : Int) (s : gx_S) : Option (gx_S) :=
  gm_166_12 100000 x1 0 (gw2 (gw2 s 215 29 0) 215 30 1)
theorem gf_166 {x1 : Int} {yx1 : Int32} (e1 : yx1 = Int32.ofInt x1) {s : gx_S} {σ : fx_S} (es : σ = gx s) {q : gx_S} (h : gm_166 x1 s = some q) : fm_166 yx1 σ = some (gx q) := by
  unfold gm_166 at h
  unfold fm_166
  exact gf_166_12 100000 _ _ e1 _ _ kg_0 _ _ (gx_w2 (gx_w2 es kgl_0) kgl_1) _ h

/-! ZoneSharesModel.mayBe(II)Z -/
def gm_167 (x1 : Int) (x2 : Int) (s : gx_S) : Option (Bool × gx_S) :=
  (gm_160 x1 x2 s).bind fun q9 =>
  if 0 ≤ q9.1 ∧ q9.1 < 72 then (
  if (-9223372036854775808 ≤ (q9.2.2 225 (q9.1).toNat) ∧ (q9.2.2 225 (q9.1).toNat) ≤ 9223372036854775807) then (
  if (q9.2.2 225 (q9.1).toNat) ≤ 0 then (
    some (false, q9.2)) else (
    some (true, q9.2))) else none) else none
theorem gf_167 {x1 : Int} {yx1 : Int32} (e1 : yx1 = Int32.ofInt x1) {x2 : Int} {yx2 : Int32} (e2 : yx2 = Int32.ofInt x2) {s : gx_S} {σ : fx_S} (es : σ = gx s) {q : Bool × gx_S} (h : gm_167 x1 x2 s = some q) : fm_167 yx1 yx2 σ = some (q.1, gx q.2) := by
  unfold gm_167 at h
  unfold fm_167
  obtain ⟨q9, w8, h⟩ := fx_bd h
  refine gb_bind (gf_160 e1 e2 es w8) ?_
  obtain ⟨z12, h⟩ := fx_gd h
  refine gb_bind (gl_ldl (rfl : _ = gx q9.2) (gr q9.1) ga_225 z12) ?_
  obtain ⟨z13, h⟩ := fx_gd h
  by_cases c14 : (q9.2.2 225 (q9.1).toNat) ≤ 0
  · rw [if_pos c14] at h
    refine gb_t ((gcl_le (gr2 (q9.2.2 225 (q9.1).toNat)) kgl_0 z13 (by decide)).mpr c14) ?_
    have h := Option.some.inj h
    subst h
    exact gretb (rfl : _ = gx q9.2)
  · rw [if_neg c14] at h
    refine gb_f (fun q => c14 ((gcl_le (gr2 (q9.2.2 225 (q9.1).toNat)) kgl_0 z13 (by decide)).mp q)) ?_
    have h := Option.some.inj h
    subst h
    exact gretb (rfl : _ = gx q9.2)

/-! ZoneSharesModel.unknownOf(I)I -/
def gm_174_36 (k_10 : Int → Int → Int → gx_S → Option (Int × gx_S)) (x1 : Int) (x3 : Int) (s0 : Int) (s1 : Int) (s : gx_S) : Option (Int × gx_S) :=
  k_10 x1 (s0 + s1) (x3 + 1) s
theorem gf_174_36 {kf_10 : Int32 → Int32 → Int32 → fx_S → Option (Int32 × fx_S)} {kg_10 : Int → Int → Int → gx_S → Option (Int × gx_S)} (hk_10 : ∀ (x1 : Int) (yx1 : Int32) (e1 : yx1 = Int32.ofInt x1) (x2 : Int) (yx2 : Int32) (e2 : yx2 = Int32.ofInt x2) (x3 : Int) (yx3 : Int32) (e3 : yx3 = Int32.ofInt x3) (s : gx_S) (σ : fx_S) (es : σ = gx s) (q : Int × gx_S), kg_10 x1 x2 x3 s = some q → kf_10 yx1 yx2 yx3 σ = some (Int32.ofInt q.1, gx q.2)) (x1 : Int) (yx1 : Int32) (e1 : yx1 = Int32.ofInt x1) (x3 : Int) (yx3 : Int32) (e3 : yx3 = Int32.ofInt x3) (s0 : Int) (ys0 : Int32) (es0 : ys0 = Int32.ofInt s0) (s1 : Int) (ys1 : Int32) (es1 : ys1 = Int32.ofInt s1) (s : gx_S) (σ : fx_S) (es : σ = gx s) (q : Int × gx_S) (h : gm_174_36 kg_10 x1 x3 s0 s1 s = some q) : fm_174_36 kf_10 yx1 yx3 ys0 ys1 σ = some (Int32.ofInt q.1, gx q.2) := by
  unfold gm_174_36 at h
  unfold fm_174_36
  exact hk_10 _ _ e1 _ _ (ga_add es0 es1) _ _ (ga_add e3 kg_1) _ _ es _ h
def gm_174_10 : Nat → Int → Int → Int → gx_S → Option (Int × gx_S)
  | 0, _, _, _, _ => none
  | n + 1, x1, x2, x3, s =>
    if (-2147483648 ≤ x3 ∧ x3 ≤ 2147483647) then (
    if 8 ≤ x3 then (
      some (x2, s)) else (
      (gm_153 0 x3 s).bind fun q4 =>
      if (gb q4.1) = 0 then (
        (gm_155 x1 x3 q4.2).bind fun q7 =>
        gm_174_36 (gm_174_10 n) x1 x3 x2 q7.1 q7.2) else (
        gm_174_36 (gm_174_10 n) x1 x3 x2 0 q4.2))) else none
theorem gf_174_10 : ∀ (n : Nat) (x1 : Int) (yx1 : Int32) (e1 : yx1 = Int32.ofInt x1) (x2 : Int) (yx2 : Int32) (e2 : yx2 = Int32.ofInt x2) (x3 : Int) (yx3 : Int32) (e3 : yx3 = Int32.ofInt x3) (s : gx_S) (σ : fx_S) (es : σ = gx s) (q : Int × gx_S), gm_174_10 n x1 x2 x3 s = some q → fm_174_10 n yx1 yx2 yx3 σ = some (Int32.ofInt q.1, gx q.2) := by
  intro n
  induction n with
  | zero =>
    intro x1 yx1 e1 x2 yx2 e2 x3 yx3 e3 s σ es q  h
    rw [gm_174_10] at h
    exact fx_no h
  | succ n ih =>
    intro x1 yx1 e1 x2 yx2 e2 x3 yx3 e3 s σ es q  h
    rw [gm_174_10] at h
    rw [fm_174_10]
    obtain ⟨z1, h⟩ := fx_gd h
    by_cases c2 : 8 ≤ x3
    · rw [if_pos c2] at h
      refine gb_t ((gc_le kg_8 e3 (by decide) z1).mpr c2) ?_
      have h := Option.some.inj h
      subst h
      exact gret e2 es
    · rw [if_neg c2] at h
      refine gb_f (fun q => c2 ((gc_le kg_8 e3 (by decide) z1).mp q)) ?_
      obtain ⟨q4, w3, h⟩ := fx_bd h
      refine gb_bind (gf_153 kg_0 e3 es w3) ?_
      by_cases c5 : (gb q4.1) = 0
      · rw [if_pos c5] at h
        refine gb_t ((gc_eq (gb_b q4.1) kg_0 (gb_r _) (by decide)).mpr c5) ?_
        obtain ⟨q7, w6, h⟩ := fx_bd h
        refine gb_bind (gf_155 e1 e3 (rfl : _ = gx q4.2) w6) ?_
        exact gf_174_36 ih _ _ e1 _ _ e3 _ _ e2 _ _ (gr q7.1) _ _ (rfl : _ = gx q7.2) _ h
      · rw [if_neg c5] at h
        refine gb_f (fun q => c5 ((gc_eq (gb_b q4.1) kg_0 (gb_r _) (by decide)).mp q)) ?_
        exact gf_174_36 ih _ _ e1 _ _ e3 _ _ e2 _ _ kg_0 _ _ (rfl : _ = gx q4.2) _ h
def gm_174 (x1 : Int) (s : gx_S) : Option (Int × gx_S) :=
  (gm_155 x1 8 s).bind fun q11 =>
  gm_174_10 100000 x1 q11.1 0 q11.2
theorem gf_174 {x1 : Int} {yx1 : Int32} (e1 : yx1 = Int32.ofInt x1) {s : gx_S} {σ : fx_S} (es : σ = gx s) {q : Int × gx_S} (h : gm_174 x1 s = some q) : fm_174 yx1 σ = some (Int32.ofInt q.1, gx q.2) := by
  unfold gm_174 at h
  unfold fm_174
  obtain ⟨q11, w10, h⟩ := fx_bd h
  refine gb_bind (gf_155 e1 kg_8 es w10) ?_
  exact gf_174_10 100000 _ _ e1 _ _ (gr q11.1) _ _ kg_0 _ _ (rfl : _ = gx q11.2) _ h

/-! ZoneSharesModel.isShared()Z -/
def gm_175 (s : gx_S) : Option (Bool × gx_S) :=
  if (-2147483648 ≤ (s.1 216 4) ∧ (s.1 216 4) ≤ 2147483647) then (
  if ¬ (s.1 216 4) = 1 then (
    some (false, s)) else (
    (gm_154 0 8 s).bind fun q14 =>
    if (-2147483648 ≤ q14.1 ∧ q14.1 ≤ 2147483647) then (
    if q14.1 ≤ 0 then (
      some (false, q14.2)) else (
      some (true, q14.2))) else none)) else none
theorem gf_175 {s : gx_S} {σ : fx_S} (es : σ = gx s) {q : Bool × gx_S} (h : gm_175 s = some q) : fm_175 σ = some (q.1, gx q.2) := by
  unfold gm_175 at h
  unfold fm_175
  refine gb_bind (gl_ld es kg_4 ga_216 (by decide)) ?_
  obtain ⟨z11, h⟩ := fx_gd h
  by_cases c12 : ¬ (s.1 216 4) = 1
  · rw [if_pos c12] at h
    refine gb_t ((gc_ne (gr (s.1 216 4)) kg_1 z11 (by decide)).mpr c12) ?_
    have h := Option.some.inj h
    subst h
    exact gretb es
  · rw [if_neg c12] at h
    refine gb_f (fun q => c12 ((gc_ne (gr (s.1 216 4)) kg_1 z11 (by decide)).mp q)) ?_
    obtain ⟨q14, w13, h⟩ := fx_bd h
    refine gb_bind (gf_154 kg_0 kg_8 es w13) ?_
    obtain ⟨z15, h⟩ := fx_gd h
    by_cases c16 : q14.1 ≤ 0
    · rw [if_pos c16] at h
      refine gb_t ((gc_le (gr q14.1) kg_0 z15 (by decide)).mpr c16) ?_
      have h := Option.some.inj h
      subst h
      exact gretb (rfl : _ = gx q14.2)
    · rw [if_neg c16] at h
      refine gb_f (fun q => c16 ((gc_le (gr q14.1) kg_0 z15 (by decide)).mp q)) ?_
      have h := Option.some.inj h
      subst h
      exact gretb (rfl : _ = gx q14.2)

/-! ZoneSharesModel.asideOf(I)I -/
def gm_176 (x1 : Int) (s : gx_S) : Option (Int × gx_S) :=
  (gm_175 s).bind fun q7 =>
  if (gb q7.1) = 0 then (
    (gm_174 x1 q7.2).bind fun q10 =>
    some (q10.1, q10.2)) else (
    some (0, q7.2))
theorem gf_176 {x1 : Int} {yx1 : Int32} (e1 : yx1 = Int32.ofInt x1) {s : gx_S} {σ : fx_S} (es : σ = gx s) {q : Int × gx_S} (h : gm_176 x1 s = some q) : fm_176 yx1 σ = some (Int32.ofInt q.1, gx q.2) := by
  unfold gm_176 at h
  unfold fm_176
  obtain ⟨q7, w6, h⟩ := fx_bd h
  refine gb_bind (gf_175 es w6) ?_
  by_cases c8 : (gb q7.1) = 0
  · rw [if_pos c8] at h
    refine gb_t ((gc_eq (gb_b q7.1) kg_0 (gb_r _) (by decide)).mpr c8) ?_
    obtain ⟨q10, w9, h⟩ := fx_bd h
    refine gb_bind (gf_174 e1 (rfl : _ = gx q7.2) w9) ?_
    have h := Option.some.inj h
    subst h
    exact gret (gr q10.1) (rfl : _ = gx q10.2)
  · rw [if_neg c8] at h
    refine gb_f (fun q => c8 ((gc_eq (gb_b q7.1) kg_0 (gb_r _) (by decide)).mp q)) ?_
    have h := Option.some.inj h
    subst h
    exact gret kg_0 (rfl : _ = gx q7.2)

/-! ZoneSharesModel.laysLiving(I)V -/
def gm_177_124 : Nat → Int → gx_S → Option (gx_S)
  | 0, _, _ => none
  | n + 1, x2, s =>
    if (-2147483648 ≤ x2 ∧ x2 ≤ 2147483647) then (
    if 8 ≤ x2 then (
      some s) else (
      if 0 ≤ x2 ∧ x2 < 8 then (
      if 0 ≤ x2 ∧ x2 < 72 then (
      gm_177_124 n (x2 + 1) (gw1 s 236 (x2).toNat ((s.1 236 (x2).toNat) + (s.2 224 (x2).toNat)))) else none) else none)) else none
theorem gf_177_124 : ∀ (n : Nat) (x2 : Int) (yx2 : Int32) (e2 : yx2 = Int32.ofInt x2) (s : gx_S) (σ : fx_S) (es : σ = gx s) (q : gx_S), gm_177_124 n x2 s = some q → fm_177_124 n yx2 σ = some (gx q) := by
  intro n
  induction n with
  | zero =>
    intro x2 yx2 e2 s σ es q  h
    rw [gm_177_124] at h
    exact fx_no h
  | succ n ih =>
    intro x2 yx2 e2 s σ es q  h
    rw [gm_177_124] at h
    rw [fm_177_124]
    obtain ⟨z1, h⟩ := fx_gd h
    by_cases c2 : 8 ≤ x2
    · rw [if_pos c2] at h
      refine gb_t ((gc_le kg_8 e2 (by decide) z1).mpr c2) ?_
      have h := Option.some.inj h
      subst h
      exact gretv es
    · rw [if_neg c2] at h
      refine gb_f (fun q => c2 ((gc_le kg_8 e2 (by decide) z1).mp q)) ?_
      obtain ⟨z5, h⟩ := fx_gd h
      refine gb_bind (gl_ld es e2 ga_236 z5) ?_
      obtain ⟨z8, h⟩ := fx_gd h
      refine gb_bind (gl_ldl es e2 ga_224 z8) ?_
      refine gb_bind (gl_st es e2 (ga_add (gr (s.1 236 (x2).toNat)) (ga_l2i (gr2 (s.2 224 (x2).toNat)))) ga_236 z5) ?_
      exact ih _ _ (ga_add e2 kg_1) _ _ (rfl : _ = gx (gw1 s 236 (x2).toNat ((s.1 236 (x2).toNat) + (s.2 224 (x2).toNat)))) _ h
def gm_177_117 (s : gx_S) : Option (gx_S) :=
  (gm_163 0 s).bind fun q2 =>
  gm_177_124 100000 0 q2
theorem gf_177_117 (s : gx_S) (σ : fx_S) (es : σ = gx s) (q : gx_S) (h : gm_177_117 s = some q) : fm_177_117 σ = some (gx q) := by
  unfold gm_177_117 at h
  unfold fm_177_117
  obtain ⟨q2, w1, h⟩ := fx_bd h
  refine gb_bind (gf_163 kg_0 es w1) ?_
  exact gf_177_124 100000 _ _ kg_0 _ _ (rfl : _ = gx q2) _ h
def gm_177_88 : Nat → Int → gx_S → Option (gx_S)
  | 0, _, _ => none
  | n + 1, x2, s =>
    if (-2147483648 ≤ x2 ∧ x2 ≤ 2147483647) then (
    if 8 ≤ x2 then (
      (gm_161 0 s).bind fun q4 =>
      gm_177_117 q4.2) else (
      (gm_158 x2 s).bind fun q6 =>
      if 0 ≤ x2 ∧ x2 < 72 then (
      gm_177_88 n (x2 + 1) (gw1 q6.2 222 (x2).toNat q6.1)) else none)) else none
theorem gf_177_88 : ∀ (n : Nat) (x2 : Int) (yx2 : Int32) (e2 : yx2 = Int32.ofInt x2) (s : gx_S) (σ : fx_S) (es : σ = gx s) (q : gx_S), gm_177_88 n x2 s = some q → fm_177_88 n yx2 σ = some (gx q) := by
  intro n
  induction n with
  | zero =>
    intro x2 yx2 e2 s σ es q  h
    rw [gm_177_88] at h
    exact fx_no h
  | succ n ih =>
    intro x2 yx2 e2 s σ es q  h
    rw [gm_177_88] at h
    rw [fm_177_88]
    obtain ⟨z1, h⟩ := fx_gd h
    by_cases c2 : 8 ≤ x2
    · rw [if_pos c2] at h
      refine gb_t ((gc_le kg_8 e2 (by decide) z1).mpr c2) ?_
      obtain ⟨q4, w3, h⟩ := fx_bd h
      refine gb_bind (gf_161 kg_0 es w3) ?_
      exact gf_177_117 _ _ (rfl : _ = gx q4.2) _ h
    · rw [if_neg c2] at h
      refine gb_f (fun q => c2 ((gc_le kg_8 e2 (by decide) z1).mp q)) ?_
      obtain ⟨q6, w5, h⟩ := fx_bd h
      refine gb_bind (gf_158 e2 es w5) ?_
      obtain ⟨z9, h⟩ := fx_gd h
      refine gb_bind (gl_st (rfl : _ = gx q6.2) e2 (gr q6.1) ga_222 z9) ?_
      exact ih _ _ (ga_add e2 kg_1) _ _ (rfl : _ = gx (gw1 q6.2 222 (x2).toNat q6.1)) _ h
def gm_177_51 (k_21 : Int → Int → gx_S → Option (gx_S)) (x1 : Int) (x2 : Int) (s1 : Int) (s2 : Int) (s : gx_S) : Option (gx_S) :=
  if 0 ≤ s1 ∧ s1 < 8 then (
  if 0 ≤ x2 ∧ x2 < 8 then (
  if 0 ≤ x2 ∧ x2 < 72 then (
  k_21 x1 (x2 + 1) (gw1 (gw1 s 236 (s1).toNat s2) 222 (x2).toNat ((gw1 s 236 (s1).toNat s2).1 236 (x2).toNat))) else none) else none) else none
theorem gf_177_51 {kf_21 : Int32 → Int32 → fx_S → Option (fx_S)} {kg_21 : Int → Int → gx_S → Option (gx_S)} (hk_21 : ∀ (x1 : Int) (yx1 : Int32) (e1 : yx1 = Int32.ofInt x1) (x2 : Int) (yx2 : Int32) (e2 : yx2 = Int32.ofInt x2) (s : gx_S) (σ : fx_S) (es : σ = gx s) (q : gx_S), kg_21 x1 x2 s = some q → kf_21 yx1 yx2 σ = some (gx q)) (x1 : Int) (yx1 : Int32) (e1 : yx1 = Int32.ofInt x1) (x2 : Int) (yx2 : Int32) (e2 : yx2 = Int32.ofInt x2) (s1 : Int) (ys1 : Int32) (es1 : ys1 = Int32.ofInt s1) (s2 : Int) (ys2 : Int32) (es2 : ys2 = Int32.ofInt s2) (s : gx_S) (σ : fx_S) (es : σ = gx s) (q : gx_S) (h : gm_177_51 kg_21 x1 x2 s1 s2 s = some q) : fm_177_51 kf_21 yx1 yx2 ys1 ys2 σ = some (gx q) := by
  unfold gm_177_51 at h
  unfold fm_177_51
  obtain ⟨z3, h⟩ := fx_gd h
  refine gb_bind (gl_st es es1 es2 ga_236 z3) ?_
  obtain ⟨z6, h⟩ := fx_gd h
  refine gb_bind (gl_ld (rfl : _ = gx (gw1 s 236 (s1).toNat s2)) e2 ga_236 z6) ?_
  obtain ⟨z9, h⟩ := fx_gd h
  refine gb_bind (gl_st (rfl : _ = gx (gw1 s 236 (s1).toNat s2)) e2 (gr ((gw1 s 236 (s1).toNat s2).1 236 (x2).toNat)) ga_222 z9) ?_
  exact hk_21 _ _ e1 _ _ (ga_add e2 kg_1) _ _ (rfl : _ = gx (gw1 (gw1 s 236 (s1).toNat s2) 222 (x2).toNat ((gw1 s 236 (s1).toNat s2).1 236 (x2).toNat))) _ h
def gm_177_21 : Nat → Int → Int → gx_S → Option (gx_S)
  | 0, _, _, _ => none
  | n + 1, x1, x2, s =>
    if (-2147483648 ≤ x2 ∧ x2 ≤ 2147483647) then (
    if 8 ≤ x2 then (
      (gm_175 s).bind fun q4 =>
      if ¬ (gb q4.1) = 0 then (
        (gm_161 0 q4.2).bind fun q7 =>
        if (-2147483648 ≤ q7.1 ∧ q7.1 ≤ 2147483647) then (
        if ¬ q7.1 = 0 then (
          gm_177_117 q7.2) else (
          gm_177_88 100000 0 q7.2)) else none) else (
        some q4.2)) else (
      (gm_153 0 x2 s).bind fun q11 =>
      if (gb q11.1) = 0 then (
        gm_177_51 (gm_177_21 n) x1 x2 x2 0 q11.2) else (
        (gm_155 x1 x2 q11.2).bind fun q14 =>
        gm_177_51 (gm_177_21 n) x1 x2 x2 q14.1 q14.2))) else none
theorem gf_177_21 : ∀ (n : Nat) (x1 : Int) (yx1 : Int32) (e1 : yx1 = Int32.ofInt x1) (x2 : Int) (yx2 : Int32) (e2 : yx2 = Int32.ofInt x2) (s : gx_S) (σ : fx_S) (es : σ = gx s) (q : gx_S), gm_177_21 n x1 x2 s = some q → fm_177_21 n yx1 yx2 σ = some (gx q) := by
  intro n
  induction n with
  | zero =>
    intro x1 yx1 e1 x2 yx2 e2 s σ es q  h
    rw [gm_177_21] at h
    exact fx_no h
  | succ n ih =>
    intro x1 yx1 e1 x2 yx2 e2 s σ es q  h
    rw [gm_177_21] at h
    rw [fm_177_21]
    obtain ⟨z1, h⟩ := fx_gd h
    by_cases c2 : 8 ≤ x2
    · rw [if_pos c2] at h
      refine gb_t ((gc_le kg_8 e2 (by decide) z1).mpr c2) ?_
      obtain ⟨q4, w3, h⟩ := fx_bd h
      refine gb_bind (gf_175 es w3) ?_
      by_cases c5 : ¬ (gb q4.1) = 0
      · rw [if_pos c5] at h
        refine gb_t ((gc_ne (gb_b q4.1) kg_0 (gb_r _) (by decide)).mpr c5) ?_
        obtain ⟨q7, w6, h⟩ := fx_bd h
        refine gb_bind (gf_161 kg_0 (rfl : _ = gx q4.2) w6) ?_
        obtain ⟨z8, h⟩ := fx_gd h
        by_cases c9 : ¬ q7.1 = 0
        · rw [if_pos c9] at h
          refine gb_t ((gc_ne (gr q7.1) kg_0 z8 (by decide)).mpr c9) ?_
          exact gf_177_117 _ _ (rfl : _ = gx q7.2) _ h
        · rw [if_neg c9] at h
          refine gb_f (fun q => c9 ((gc_ne (gr q7.1) kg_0 z8 (by decide)).mp q)) ?_
          exact gf_177_88 100000 _ _ kg_0 _ _ (rfl : _ = gx q7.2) _ h
      · rw [if_neg c5] at h
        refine gb_f (fun q => c5 ((gc_ne (gb_b q4.1) kg_0 (gb_r _) (by decide)).mp q)) ?_
        have h := Option.some.inj h
        subst h
        exact gretv (rfl : _ = gx q4.2)
    · rw [if_neg c2] at h
      refine gb_f (fun q => c2 ((gc_le kg_8 e2 (by decide) z1).mp q)) ?_
      obtain ⟨q11, w10, h⟩ := fx_bd h
      refine gb_bind (gf_153 kg_0 e2 es w10) ?_
      by_cases c12 : (gb q11.1) = 0
      · rw [if_pos c12] at h
        refine gb_t ((gc_eq (gb_b q11.1) kg_0 (gb_r _) (by decide)).mpr c12) ?_
        exact gf_177_51 ih _ _ e1 _ _ e2 _ _ e2 _ _ kg_0 _ _ (rfl : _ = gx q11.2) _ h
      · rw [if_neg c12] at h
        refine gb_f (fun q => c12 ((gc_eq (gb_b q11.1) kg_0 (gb_r _) (by decide)).mp q)) ?_
        obtain ⟨q14, w13, h⟩ := fx_bd h
        refine gb_bind (gf_155 e1 e2 (rfl : _ = gx q11.2) w13) ?_
        exact gf_177_51 ih _ _ e1 _ _ e2 _ _ e2 _ _ (gr q14.1) _ _ (rfl : _ = gx q14.2) _ h
def gm_177 (x1 : Int) (s : gx_S) : Option (gx_S) :=
  (gm_159 1 8 s).bind fun q53 =>
  (gm_174 x1 q53).bind fun q55 =>
  if (-2147483648 ≤ q55.1 ∧ q55.1 ≤ 2147483647) then (
  gm_177_21 100000 x1 0 (gw2 q55.2 221 0 q55.1)) else none
theorem gf_177 {x1 : Int} {yx1 : Int32} (e1 : yx1 = Int32.ofInt x1) {s : gx_S} {σ : fx_S} (es : σ = gx s) {q : gx_S} (h : gm_177 x1 s = some q) : fm_177 yx1 σ = some (gx q) := by
  unfold gm_177 at h
  unfold fm_177
  obtain ⟨q53, w52, h⟩ := fx_bd h
  refine gb_bind (gf_159 kg_1 kg_8 es w52) ?_
  obtain ⟨q55, w54, h⟩ := fx_bd h
  refine gb_bind (gf_174 e1 (rfl : _ = gx q53) w54) ?_
  obtain ⟨z56, h⟩ := fx_gd h
  refine gb_bind (gl_stl (rfl : _ = gx q55.2) kg_0 (ga_i2l (gr q55.1) z56) ga_221 (by decide)) ?_
  exact gf_177_21 100000 _ _ e1 _ _ kg_0 _ _ (rfl : _ = gx (gw2 q55.2 221 0 q55.1)) _ h

/-! ZoneSharesModel.allTold(I)I -/
def gm_178_4 : Nat → Int → Int → Int → gx_S → Option (Int × gx_S)
  | 0, _, _, _, _ => none
  | n + 1, x1, x2, x3, s =>
    if (-2147483648 ≤ x3 ∧ x3 ≤ 2147483647) then (
    if 9 ≤ x3 then (
      some (x2, s)) else (
      (gm_155 x1 x3 s).bind fun q4 =>
      gm_178_4 n x1 (x2 + q4.1) (x3 + 1) q4.2)) else none
theorem gf_178_4 : ∀ (n : Nat) (x1 : Int) (yx1 : Int32) (e1 : yx1 = Int32.ofInt x1) (x2 : Int) (yx2 : Int32) (e2 : yx2 = Int32.ofInt x2) (x3 : Int) (yx3 : Int32) (e3 : yx3 = Int32.ofInt x3) (s : gx_S) (σ : fx_S) (es : σ = gx s) (q : Int × gx_S), gm_178_4 n x1 x2 x3 s = some q → fm_178_4 n yx1 yx2 yx3 σ = some (Int32.ofInt q.1, gx q.2) := by
  intro n
  induction n with
  | zero =>
    intro x1 yx1 e1 x2 yx2 e2 x3 yx3 e3 s σ es q  h
    rw [gm_178_4] at h
    exact fx_no h
  | succ n ih =>
    intro x1 yx1 e1 x2 yx2 e2 x3 yx3 e3 s σ es q  h
    rw [gm_178_4] at h
    rw [fm_178_4]
    obtain ⟨z1, h⟩ := fx_gd h
    by_cases c2 : 9 ≤ x3
    · rw [if_pos c2] at h
      refine gb_t ((gc_le kg_9 e3 (by decide) z1).mpr c2) ?_
      have h := Option.some.inj h
      subst h
      exact gret e2 es
    · rw [if_neg c2] at h
      refine gb_f (fun q => c2 ((gc_le kg_9 e3 (by decide) z1).mp q)) ?_
      obtain ⟨q4, w3, h⟩ := fx_bd h
      refine gb_bind (gf_155 e1 e3 es w3) ?_
      exact ih _ _ e1 _ _ (ga_add e2 (gr q4.1)) _ _ (ga_add e3 kg_1) _ _ (rfl : _ = gx q4.2) _ h
def gm_178 (x1 : Int) (s : gx_S) : Option (Int × gx_S) :=
  gm_178_4 100000 x1 0 0 s
theorem gf_178 {x1 : Int} {yx1 : Int32} (e1 : yx1 = Int32.ofInt x1) {s : gx_S} {σ : fx_S} (es : σ = gx s) {q : Int × gx_S} (h : gm_178 x1 s = some q) : fm_178 yx1 σ = some (Int32.ofInt q.1, gx q.2) := by
  unfold gm_178 at h
  unfold fm_178
  exact gf_178_4 100000 _ _ e1 _ _ kg_0 _ _ kg_0 _ _ es _ h
