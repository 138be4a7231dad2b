/-! ZoneShares$Bits.of(DII)J -/
def gm_2_64 (x2 : Int) (x3 : Int) (x4 : UInt64) (x6 : Int) (s : gx_S) : Option (Int × gx_S) :=
  if 0 ≤ (Op.cmpValue (FP.dcmp x4 FP.dconst1) .g).toInt then (
    if (-2147483648 ≤ (x6 + x2) ∧ (x6 + x2) ≤ 2147483647) then (
    if id_n6 (FP.dsub x4 FP.dconst1) = true then (
    if id_n6 (FP.dmul (FP.dsub x4 FP.dconst1) (FP.l2d (Int64.ofInt (((Int64.ofInt 1 <<< ((Int32.ofInt x3).toInt64 &&& 63))).toInt)))) = true then (
    some ((((Int64.ofInt (x6 + x2) <<< ((Int32.ofInt x3).toInt64 &&& 63))).toInt + (FP.d2l (FP.dmul (FP.dsub x4 FP.dconst1) (FP.l2d (Int64.ofInt (((Int64.ofInt 1 <<< ((Int32.ofInt x3).toInt64 &&& 63))).toInt))))).toInt), s)) else none) else none) else none) else (
    if id_n6 (FP.dmul x4 (FP.l2d (Int64.ofInt (((Int64.ofInt 1 <<< ((Int32.ofInt x3).toInt64 &&& 63))).toInt)))) = true then (
    some ((FP.d2l (FP.dmul x4 (FP.l2d (Int64.ofInt (((Int64.ofInt 1 <<< ((Int32.ofInt x3).toInt64 &&& 63))).toInt))))).toInt, s)) else none)
theorem gf_2_64 (x2 : Int) (yx2 : Int32) (e2 : yx2 = Int32.ofInt x2) (x3 : Int) (yx3 : Int32) (e3 : yx3 = Int32.ofInt x3) (x4 : UInt64) (yx4 : UInt64) (e4 : yx4 = x4) (x6 : Int) (yx6 : Int32) (e6 : yx6 = Int32.ofInt x6) (s : gx_S) (σ : fx_S) (es : σ = gx s) (q : Int × gx_S) (h : gm_2_64 x2 x3 x4 x6 s = some q) : fm_2_64 yx2 yx3 yx4 yx6 σ = some (Int64.ofInt q.1, gx q.2) := by
  unfold gm_2_64 at h
  unfold fm_2_64
  by_cases c1 : 0 ≤ (Op.cmpValue (FP.dcmp x4 FP.dconst1) .g).toInt
  · rw [if_pos c1] at h
    refine gb_t ((gc_le kg_0 (gdc e4 (rfl : FP.dconst1 = FP.dconst1)) (by decide) (gs_r _)).mpr c1) ?_
    obtain ⟨z2, h⟩ := fx_gd h
    obtain ⟨z3, h⟩ := fx_gd h
    refine gb_t (gdn (gd2 (f := FP.dsub) e4 (rfl : FP.dconst1 = FP.dconst1)) z3) ?_
    obtain ⟨z5, h⟩ := fx_gd h
    refine gb_t (gdn (gd2 (f := FP.dmul) (gd2 (f := FP.dsub) e4 (rfl : FP.dconst1 = FP.dconst1)) (congrArg FP.l2d (gal_o3 (f := (fun a b => (a <<< ((b).toInt64 &&& 63)))) kgl_1 e3))) z5) ?_
    have h := Option.some.inj h
    subst h
    exact gretl (gal_add (gal_o3 (f := (fun a b => (a <<< ((b).toInt64 &&& 63)))) (ga_i2l (ga_add e6 e2) z2) e3) (gdl (f := FP.d2l) (gd2 (f := FP.dmul) (gd2 (f := FP.dsub) e4 (rfl : FP.dconst1 = FP.dconst1)) (congrArg FP.l2d (gal_o3 (f := (fun a b => (a <<< ((b).toInt64 &&& 63)))) kgl_1 e3))))) es
  · rw [if_neg c1] at h
    refine gb_f (fun q => c1 ((gc_le kg_0 (gdc e4 (rfl : FP.dconst1 = FP.dconst1)) (by decide) (gs_r _)).mp q)) ?_
    obtain ⟨z7, h⟩ := fx_gd h
    refine gb_t (gdn (gd2 (f := FP.dmul) e4 (congrArg FP.l2d (gal_o3 (f := (fun a b => (a <<< ((b).toInt64 &&& 63)))) kgl_1 e3))) z7) ?_
    have h := Option.some.inj h
    subst h
    exact gretl (gdl (f := FP.d2l) (gd2 (f := FP.dmul) e4 (congrArg FP.l2d (gal_o3 (f := (fun a b => (a <<< ((b).toInt64 &&& 63)))) kgl_1 e3)))) es
def gm_2_35 : Nat → Int → Int → UInt64 → Int → gx_S → Option (Int × gx_S)
  | 0, _, _, _, _, _ => none
  | n + 1, x2, x3, x4, x6, s =>
    if 0 ≤ (Op.cmpValue (FP.dcmp x4 FP.dconst1) .g).toInt then (
      gm_2_64 x2 x3 x4 x6 s) else (
      if (-2147483648 ≤ x6 ∧ x6 ≤ 2147483647) then (
      if (-2147483648 ≤ (1 - x2) ∧ (1 - x2) ≤ 2147483647) then (
      if x6 ≤ (1 - x2) then (
        gm_2_64 x2 x3 x4 x6 s) else (
        if id_n6 (FP.dmul x4 (4611686018427387904 : UInt64)) = true then (
        gm_2_35 n x2 x3 (FP.dmul x4 (4611686018427387904 : UInt64)) (x6 + (-1)) s) else none)) else none) else none)
theorem gf_2_35 : ∀ (n : Nat) (x2 : Int) (yx2 : Int32) (e2 : yx2 = Int32.ofInt x2) (x3 : Int) (yx3 : Int32) (e3 : yx3 = Int32.ofInt x3) (x4 : UInt64) (yx4 : UInt64) (e4 : yx4 = x4) (x6 : Int) (yx6 : Int32) (e6 : yx6 = Int32.ofInt x6) (s : gx_S) (σ : fx_S) (es : σ = gx s) (q : Int × gx_S), gm_2_35 n x2 x3 x4 x6 s = some q → fm_2_35 n yx2 yx3 yx4 yx6 σ = some (Int64.ofInt q.1, gx q.2) := by
  intro n
  induction n with
  | zero =>
    intro x2 yx2 e2 x3 yx3 e3 x4 yx4 e4 x6 yx6 e6 s σ es q  h
    rw [gm_2_35] at h
    exact fx_no h
  | succ n ih =>
    intro x2 yx2 e2 x3 yx3 e3 x4 yx4 e4 x6 yx6 e6 s σ es q  h
    rw [gm_2_35] at h
    rw [fm_2_35]
    by_cases c1 : 0 ≤ (Op.cmpValue (FP.dcmp x4 FP.dconst1) .g).toInt
    · rw [if_pos c1] at h
      refine gb_t ((gc_le kg_0 (gdc e4 (rfl : FP.dconst1 = FP.dconst1)) (by decide) (gs_r _)).mpr c1) ?_
      exact gf_2_64 _ _ e2 _ _ e3 _ _ e4 _ _ e6 _ _ es _ h
    · rw [if_neg c1] at h
      refine gb_f (fun q => c1 ((gc_le kg_0 (gdc e4 (rfl : FP.dconst1 = FP.dconst1)) (by decide) (gs_r _)).mp q)) ?_
      obtain ⟨z2, h⟩ := fx_gd h
      obtain ⟨z3, h⟩ := fx_gd h
      by_cases c4 : x6 ≤ (1 - x2)
      · rw [if_pos c4] at h
        refine gb_t ((gc_le e6 (ga_sub kg_1 e2) z2 z3).mpr c4) ?_
        exact gf_2_64 _ _ e2 _ _ e3 _ _ e4 _ _ e6 _ _ es _ h
      · rw [if_neg c4] at h
        refine gb_f (fun q => c4 ((gc_le e6 (ga_sub kg_1 e2) z2 z3).mp q)) ?_
        obtain ⟨z5, h⟩ := fx_gd h
        refine gb_t (gdn (gd2 (f := FP.dmul) e4 (rfl : (4611686018427387904 : UInt64) = (4611686018427387904 : UInt64))) z5) ?_
        exact ih _ _ e2 _ _ e3 _ _ (gd2 (f := FP.dmul) e4 (rfl : (4611686018427387904 : UInt64) = (4611686018427387904 : UInt64))) _ _ (ga_add e6 kg_m1) _ _ es _ h
def gm_2_6 : Nat → Int → Int → UInt64 → Int → gx_S → Option (Int × gx_S)
  | 0, _, _, _, _, _ => none
  | n + 1, x2, x3, x4, x6, s =>
    if (Op.cmpValue (FP.dcmp x4 (4611686018427387904 : UInt64)) .l).toInt < 0 then (
      gm_2_35 100000 x2 x3 x4 x6 s) else (
      if (-2147483648 ≤ x6 ∧ x6 ≤ 2147483647) then (
      if (-2147483648 ≤ x2 ∧ x2 ≤ 2147483647) then (
      if x2 ≤ x6 then (
        gm_2_35 100000 x2 x3 x4 x6 s) else (
        if id_n6 (FP.ddiv x4 (4611686018427387904 : UInt64)) = true then (
        gm_2_6 n x2 x3 (FP.ddiv x4 (4611686018427387904 : UInt64)) (x6 + 1) s) else none)) else none) else none)
theorem gf_2_6 : ∀ (n : Nat) (x2 : Int) (yx2 : Int32) (e2 : yx2 = Int32.ofInt x2) (x3 : Int) (yx3 : Int32) (e3 : yx3 = Int32.ofInt x3) (x4 : UInt64) (yx4 : UInt64) (e4 : yx4 = x4) (x6 : Int) (yx6 : Int32) (e6 : yx6 = Int32.ofInt x6) (s : gx_S) (σ : fx_S) (es : σ = gx s) (q : Int × gx_S), gm_2_6 n x2 x3 x4 x6 s = some q → fm_2_6 n yx2 yx3 yx4 yx6 σ = some (Int64.ofInt q.1, gx q.2) := by
  intro n
  induction n with
  | zero =>
    intro x2 yx2 e2 x3 yx3 e3 x4 yx4 e4 x6 yx6 e6 s σ es q  h
    rw [gm_2_6] at h
    exact fx_no h
  | succ n ih =>
    intro x2 yx2 e2 x3 yx3 e3 x4 yx4 e4 x6 yx6 e6 s σ es q  h
    rw [gm_2_6] at h
    rw [fm_2_6]
    by_cases c1 : (Op.cmpValue (FP.dcmp x4 (4611686018427387904 : UInt64)) .l).toInt < 0
    · rw [if_pos c1] at h
      refine gb_t ((gc_lt (gdc e4 (rfl : (4611686018427387904 : UInt64) = (4611686018427387904 : UInt64))) kg_0 (gs_r _) (by decide)).mpr c1) ?_
      exact gf_2_35 100000 _ _ e2 _ _ e3 _ _ e4 _ _ e6 _ _ es _ h
    · rw [if_neg c1] at h
      refine gb_f (fun q => c1 ((gc_lt (gdc e4 (rfl : (4611686018427387904 : UInt64) = (4611686018427387904 : UInt64))) kg_0 (gs_r _) (by decide)).mp q)) ?_
      obtain ⟨z2, h⟩ := fx_gd h
      obtain ⟨z3, h⟩ := fx_gd h
      by_cases c4 : x2 ≤ x6
      · rw [if_pos c4] at h
        refine gb_t ((gc_le e2 e6 z3 z2).mpr c4) ?_
        exact gf_2_35 100000 _ _ e2 _ _ e3 _ _ e4 _ _ e6 _ _ es _ h
      · rw [if_neg c4] at h
        refine gb_f (fun q => c4 ((gc_le e2 e6 z3 z2).mp q)) ?_
        obtain ⟨z5, h⟩ := fx_gd h
        refine gb_t (gdn (gd2 (f := FP.ddiv) e4 (rfl : (4611686018427387904 : UInt64) = (4611686018427387904 : UInt64))) z5) ?_
        exact ih _ _ e2 _ _ e3 _ _ (gd2 (f := FP.ddiv) e4 (rfl : (4611686018427387904 : UInt64) = (4611686018427387904 : UInt64))) _ _ (ga_add e6 kg_1) _ _ es _ h
def gm_2 (x0 : UInt64) (x2 : Int) (x3 : Int) (s : gx_S) : Option (Int × gx_S) :=
  gm_2_6 100000 x2 x3 x0 0 s
theorem gf_2 {x0 : UInt64} {yx0 : UInt64} (e0 : yx0 = x0) {x2 : Int} {yx2 : Int32} (e2 : yx2 = Int32.ofInt x2) {x3 : Int} {yx3 : Int32} (e3 : yx3 = Int32.ofInt x3) {s : gx_S} {σ : fx_S} (es : σ = gx s) {q : Int × gx_S} (h : gm_2 x0 x2 x3 s = some q) : fm_2 yx0 yx2 yx3 σ = some (Int64.ofInt q.1, gx q.2) := by
  unfold gm_2 at h
  unfold fm_2
  exact gf_2_6 100000 _ _ e2 _ _ e3 _ _ e0 _ _ kg_0 _ _ es _ h

/-! ZoneShares$Bits.ofDouble(D)J -/
def gm_0 (x0 : UInt64) (s : gx_S) : Option (Int × gx_S) :=
  (gm_2 x0 1023 52 s).bind fun q4 =>
  some (q4.1, q4.2)
theorem gf_0 {x0 : UInt64} {yx0 : UInt64} (e0 : yx0 = x0) {s : gx_S} {σ : fx_S} (es : σ = gx s) {q : Int × gx_S} (h : gm_0 x0 s = some q) : fm_0 yx0 σ = some (Int64.ofInt q.1, gx q.2) := by
  unfold gm_0 at h
  unfold fm_0
  obtain ⟨q4, w3, h⟩ := fx_bd h
  refine gb_bind (gf_2 e0 kg_1023 kg_52 es w3) ?_
  have h := Option.some.inj h
  subst h
  exact gretl (gr2 q4.1) (rfl : _ = gx q4.2)

/-! ZoneShares$Bits.ofFloat(F)J -/
def gm_1 (x0 : UInt32) (s : gx_S) : Option (Int × gx_S) :=
  if id_n6 (FP.f2d x0) = true then (
  (gm_2 (FP.f2d x0) 127 23 s).bind fun q8 =>
  some (q8.1, q8.2)) else none
theorem gf_1 {x0 : UInt32} {yx0 : UInt32} (e0 : yx0 = x0) {s : gx_S} {σ : fx_S} (es : σ = gx s) {q : Int × gx_S} (h : gm_1 x0 s = some q) : fm_1 yx0 σ = some (Int64.ofInt q.1, gx q.2) := by
  unfold gm_1 at h
  unfold fm_1
  obtain ⟨z5, h⟩ := fx_gd h
  refine gb_t (gdn (congrArg FP.f2d e0) z5) ?_
  obtain ⟨q8, w7, h⟩ := fx_bd h
  refine gb_bind (gf_2 (congrArg FP.f2d e0) kg_127 kg_23 es w7) ?_
  have h := Option.some.inj h
  subst h
  exact gretl (gr2 q8.1) (rfl : _ = gx q8.2)

/-! ZoneShares.dense(III)J -/
def gm_108_33 (s : gx_S) : Option (Int × gx_S) :=
  some ((-9223372036854775808), s)
theorem gf_108_33 (s : gx_S) (σ : fx_S) (es : σ = gx s) (q : Int × gx_S) (h : gm_108_33 s = some q) : fm_108_33 σ = some (Int64.ofInt q.1, gx q.2) := by
  unfold gm_108_33 at h
  unfold fm_108_33
  have h := Option.some.inj h
  subst h
  exact gretl kgl_m9223372036854775808 es
def gm_108 (x1 : Int) (x2 : Int) (x3 : Int) (s : gx_S) : Option (Int × gx_S) :=
  (gm_114 x1 s).bind fun q43 =>
  if (gb q43.1) = 0 then (
    gm_108_33 q43.2) else (
    (gm_115 x2 q43.2).bind fun q46 =>
    if (gb q46.1) = 0 then (
      gm_108_33 q46.2) else (
      (gm_57 1 q46.2).bind fun q49 =>
      if (gb q49.1) = 0 then (
        gm_108_33 q49.2) else (
        if (-2147483648 ≤ x3 ∧ x3 ≤ 2147483647) then (
        if x3 < 0 then (
          gm_108_33 q49.2) else (
          if x3 ≤ 3 then (
            (gm_62 1 1 x2 q49.2).bind fun q55 =>
            if (-2147483648 ≤ q55.1 ∧ q55.1 ≤ 2147483647) then (
            if ¬ q55.1 = 0 then (
              if 0 ≤ x1 ∧ x1 < 3 then (
              (some (fx_rf 70 (x1).toNat)).bind fun v58 =>
              (gm_19 v58 2 q55.2).bind fun q63 =>
              (gm_76 (v58 + 3) x2 q63).bind fun q65 =>
              if id_n6 (FP.ddiv (FP.i2d (Int32.ofInt q65.1)) (FP.i2d (Int32.ofInt q55.1))) = true then (
              if x3 = 0 then (
                (gm_0 (FP.ddiv (FP.i2d (Int32.ofInt q65.1)) (FP.i2d (Int32.ofInt q55.1))) q65.2).bind fun q82 =>
                some (q82.1, q82.2)) else (
                if x3 = 1 then (
                  if id_n3 (FP.d2f (FP.ddiv (FP.i2d (Int32.ofInt q65.1)) (FP.i2d (Int32.ofInt q55.1)))) = true then (
                  (gm_1 (FP.d2f (FP.ddiv (FP.i2d (Int32.ofInt q65.1)) (FP.i2d (Int32.ofInt q55.1)))) q65.2).bind fun q80 =>
                  some (q80.1, q80.2)) else none) else (
                  if x3 = 2 then (
                    if id_n6 (FP.dsub (FP.ddiv (FP.i2d (Int32.ofInt q65.1)) (FP.i2d (Int32.ofInt q55.1))) (FP.l2d (Int64.ofInt ((FP.d2l (FP.ddiv (FP.i2d (Int32.ofInt q65.1)) (FP.i2d (Int32.ofInt q55.1)))).toInt)))) = true then (
                    (gm_0 (FP.dsub (FP.ddiv (FP.i2d (Int32.ofInt q65.1)) (FP.i2d (Int32.ofInt q55.1))) (FP.l2d (Int64.ofInt ((FP.d2l (FP.ddiv (FP.i2d (Int32.ofInt q65.1)) (FP.i2d (Int32.ofInt q55.1)))).toInt)))) q65.2).bind fun q76 =>
                    some (q76.1, q76.2)) else none) else (
                    if id_n6 (FP.ddiv (FP.ddiv (FP.i2d (Int32.ofInt q65.1)) (FP.i2d (Int32.ofInt q55.1))) (4602678819172646912 : UInt64)) = true then (
                    some ((FP.d2l (FP.ddiv (FP.ddiv (FP.i2d (Int32.ofInt q65.1)) (FP.i2d (Int32.ofInt q55.1))) (4602678819172646912 : UInt64))).toInt, q65.2)) else none)))) else none) else none) else (
              some ((-9223372036854775808), q55.2))) else none) else (
            gm_108_33 q49.2))) else none)))
theorem gf_108 {x1 : Int} {yx1 : Int32} (e1 : yx1 = Int32.ofInt x1) {x2 : Int} {yx2 : Int32} (e2 : yx2 = Int32.ofInt x2) {x3 : Int} {yx3 : Int32} (e3 : yx3 = Int32.ofInt x3) {s : gx_S} {σ : fx_S} (es : σ = gx s) {q : Int × gx_S} (h : gm_108 x1 x2 x3 s = some q) : fm_108 yx1 yx2 yx3 σ = some (Int64.ofInt q.1, gx q.2) := by
  unfold gm_108 at h
  unfold fm_108
  obtain ⟨q43, w42, h⟩ := fx_bd h
  refine gb_bind (gf_114 e1 es w42) ?_
  by_cases c44 : (gb q43.1) = 0
  · rw [if_pos c44] at h
    refine gb_t ((gc_eq (gb_b q43.1) kg_0 (gb_r _) (by decide)).mpr c44) ?_
    exact gf_108_33 _ _ (rfl : _ = gx q43.2) _ h
  · rw [if_neg c44] at h
    refine gb_f (fun q => c44 ((gc_eq (gb_b q43.1) kg_0 (gb_r _) (by decide)).mp q)) ?_
    obtain ⟨q46, w45, h⟩ := fx_bd h
    refine gb_bind (gf_115 e2 (rfl : _ = gx q43.2) w45) ?_
    by_cases c47 : (gb q46.1) = 0
    · rw [if_pos c47] at h
      refine gb_t ((gc_eq (gb_b q46.1) kg_0 (gb_r _) (by decide)).mpr c47) ?_
      exact gf_108_33 _ _ (rfl : _ = gx q46.2) _ h
    · rw [if_neg c47] at h
      refine gb_f (fun q => c47 ((gc_eq (gb_b q46.1) kg_0 (gb_r _) (by decide)).mp q)) ?_
      obtain ⟨q49, w48, h⟩ := fx_bd h
      refine gb_bind (gf_57 (rfl : _ = gx q46.2) w48) ?_
      by_cases c50 : (gb q49.1) = 0
      · rw [if_pos c50] at h
        refine gb_t ((gc_eq (gb_b q49.1) kg_0 (gb_r _) (by decide)).mpr c50) ?_
        exact gf_108_33 _ _ (rfl : _ = gx q49.2) _ h
      · rw [if_neg c50] at h
        refine gb_f (fun q => c50 ((gc_eq (gb_b q49.1) kg_0 (gb_r _) (by decide)).mp q)) ?_
        obtain ⟨z51, h⟩ := fx_gd h
        by_cases c52 : x3 < 0
        · rw [if_pos c52] at h
          refine gb_t ((gc_lt e3 kg_0 z51 (by decide)).mpr c52) ?_
          exact gf_108_33 _ _ (rfl : _ = gx q49.2) _ h
        · rw [if_neg c52] at h
          refine gb_f (fun q => c52 ((gc_lt e3 kg_0 z51 (by decide)).mp q)) ?_
          by_cases c53 : x3 ≤ 3
          · rw [if_pos c53] at h
            refine gb_t ((gc_le e3 kg_3 z51 (by decide)).mpr c53) ?_
            obtain ⟨q55, w54, h⟩ := fx_bd h
            refine gb_bind (gf_62 kg_1 e2 (rfl : _ = gx q49.2) w54) ?_
            obtain ⟨z56, h⟩ := fx_gd h
            by_cases c57 : ¬ q55.1 = 0
            · rw [if_pos c57] at h
              refine gb_t ((gc_ne (gr q55.1) kg_0 z56 (by decide)).mpr c57) ?_
              obtain ⟨z61, h⟩ := fx_gd h
              obtain ⟨v58, w59, h⟩ := fx_bd h
              have g60 := fa_70 ((gl_ldr (t := 4) e1 ga_70 z61).trans w59)
              refine gb_bind ((gl_ldr e1 ga_70 z61).trans w59) ?_
              obtain ⟨q63, w62, h⟩ := fx_bd h
              refine gb_bind (gf_19 kg_2 (rfl : _ = gx q55.2) w62) ?_
              obtain ⟨q65, w64, h⟩ := fx_bd h
              refine gb_bind (gf_76 e2 (rfl : _ = gx q63) w64) ?_
              obtain ⟨z66, h⟩ := fx_gd h
              refine gb_t (gdn (gd2 (f := FP.ddiv) (congrArg FP.i2d (gr q65.1)) (congrArg FP.i2d (gr q55.1))) z66) ?_
              by_cases c68 : x3 = 0
              · rw [if_pos c68] at h
                refine gb_t ((gc_eq e3 kg_0 z51 (by decide)).mpr c68) ?_
                obtain ⟨q82, w81, h⟩ := fx_bd h
                refine gb_bind (gf_0 (gd2 (f := FP.ddiv) (congrArg FP.i2d (gr q65.1)) (congrArg FP.i2d (gr q55.1))) (rfl : _ = gx q65.2) w81) ?_
                have h := Option.some.inj h
                subst h
                exact gretl (gr2 q82.1) (rfl : _ = gx q82.2)
              · rw [if_neg c68] at h
                refine gb_f (fun q => c68 ((gc_eq e3 kg_0 z51 (by decide)).mp q)) ?_
                by_cases c69 : x3 = 1
                · rw [if_pos c69] at h
                  refine gb_t ((gc_eq e3 kg_1 z51 (by decide)).mpr c69) ?_
                  obtain ⟨z77, h⟩ := fx_gd h
                  refine gb_t (gdn3 (congrArg FP.d2f (gd2 (f := FP.ddiv) (congrArg FP.i2d (gr q65.1)) (congrArg FP.i2d (gr q55.1)))) z77) ?_
                  obtain ⟨q80, w79, h⟩ := fx_bd h
                  refine gb_bind (gf_1 (congrArg FP.d2f (gd2 (f := FP.ddiv) (congrArg FP.i2d (gr q65.1)) (congrArg FP.i2d (gr q55.1)))) (rfl : _ = gx q65.2) w79) ?_
                  have h := Option.some.inj h
                  subst h
                  exact gretl (gr2 q80.1) (rfl : _ = gx q80.2)
                · rw [if_neg c69] at h
                  refine gb_f (fun q => c69 ((gc_eq e3 kg_1 z51 (by decide)).mp q)) ?_
                  by_cases c70 : x3 = 2
                  · rw [if_pos c70] at h
                    refine gb_t ((gc_eq e3 kg_2 z51 (by decide)).mpr c70) ?_
                    obtain ⟨z73, h⟩ := fx_gd h
                    refine gb_t (gdn (gd2 (f := FP.dsub) (gd2 (f := FP.ddiv) (congrArg FP.i2d (gr q65.1)) (congrArg FP.i2d (gr q55.1))) (congrArg FP.l2d (gdl (f := FP.d2l) (gd2 (f := FP.ddiv) (congrArg FP.i2d (gr q65.1)) (congrArg FP.i2d (gr q55.1)))))) z73) ?_
                    obtain ⟨q76, w75, h⟩ := fx_bd h
                    refine gb_bind (gf_0 (gd2 (f := FP.dsub) (gd2 (f := FP.ddiv) (congrArg FP.i2d (gr q65.1)) (congrArg FP.i2d (gr q55.1))) (congrArg FP.l2d (gdl (f := FP.d2l) (gd2 (f := FP.ddiv) (congrArg FP.i2d (gr q65.1)) (congrArg FP.i2d (gr q55.1)))))) (rfl : _ = gx q65.2) w75) ?_
                    have h := Option.some.inj h
                    subst h
                    exact gretl (gr2 q76.1) (rfl : _ = gx q76.2)
                  · rw [if_neg c70] at h
                    refine gb_f (fun q => c70 ((gc_eq e3 kg_2 z51 (by decide)).mp q)) ?_
                    obtain ⟨z71, h⟩ := fx_gd h
                    refine gb_t (gdn (gd2 (f := FP.ddiv) (gd2 (f := FP.ddiv) (congrArg FP.i2d (gr q65.1)) (congrArg FP.i2d (gr q55.1))) (rfl : (4602678819172646912 : UInt64) = (4602678819172646912 : UInt64))) z71) ?_
                    have h := Option.some.inj h
                    subst h
                    exact gretl (gdl (f := FP.d2l) (gd2 (f := FP.ddiv) (gd2 (f := FP.ddiv) (congrArg FP.i2d (gr q65.1)) (congrArg FP.i2d (gr q55.1))) (rfl : (4602678819172646912 : UInt64) = (4602678819172646912 : UInt64)))) (rfl : _ = gx q65.2)
            · rw [if_neg c57] at h
              refine gb_f (fun q => c57 ((gc_ne (gr q55.1) kg_0 z56 (by decide)).mp q)) ?_
              have h := Option.some.inj h
              subst h
              exact gretl kgl_m9223372036854775808 (rfl : _ = gx q55.2)
          · rw [if_neg c53] at h
            refine gb_f (fun q => c53 ((gc_le e3 kg_3 z51 (by decide)).mp q)) ?_
            exact gf_108_33 _ _ (rfl : _ = gx q49.2) _ h

/-! ZoneShares.off(I)J -/
def gm_109_17 (s : gx_S) : Option (Int × gx_S) :=
  some ((-9223372036854775808), s)
theorem gf_109_17 (s : gx_S) (σ : fx_S) (es : σ = gx s) (q : Int × gx_S) (h : gm_109_17 s = some q) : fm_109_17 σ = some (Int64.ofInt q.1, gx q.2) := by
  unfold gm_109_17 at h
  unfold fm_109_17
  have h := Option.some.inj h
  subst h
  exact gretl kgl_m9223372036854775808 es
def gm_109_83 (k_39 : Nat → UInt64 → Int → gx_S → Option (Int × gx_S)) (x2 : Nat) (x3 : UInt64) (x5 : Int) (s : gx_S) : Option (Int × gx_S) :=
  k_39 x2 x3 (x5 + 1) s
theorem gf_109_83 {kf_39 : Nat → UInt64 → Int32 → fx_S → Option (Int64 × fx_S)} {kg_39 : Nat → UInt64 → Int → gx_S → Option (Int × gx_S)} (hk_39 : ∀ (x2 : Nat) (x3 : UInt64) (yx3 : UInt64) (e3 : yx3 = x3) (x5 : Int) (yx5 : Int32) (e5 : yx5 = Int32.ofInt x5) (s : gx_S) (σ : fx_S) (es : σ = gx s) (q : Int × gx_S) (g2 : fx_oc x2 2 = true), kg_39 x2 x3 x5 s = some q → kf_39 x2 yx3 yx5 σ = some (Int64.ofInt q.1, gx q.2)) (x2 : Nat) (x3 : UInt64) (yx3 : UInt64) (e3 : yx3 = x3) (x5 : Int) (yx5 : Int32) (e5 : yx5 = Int32.ofInt x5) (s : gx_S) (σ : fx_S) (es : σ = gx s) (q : Int × gx_S) (g2 : fx_oc x2 2 = true) (h : gm_109_83 kg_39 x2 x3 x5 s = some q) : fm_109_83 kf_39 x2 yx3 yx5 σ = some (Int64.ofInt q.1, gx q.2) := by
  unfold gm_109_83 at h
  unfold fm_109_83
  exact hk_39 _ _ _ e3 _ _ (ga_add e5 kg_1) _ _ es _ g2 h
def gm_109_39 : Nat → Nat → UInt64 → Int → gx_S → Option (Int × gx_S)
  | 0, _, _, _, _ => none
  | n + 1, x2, x3, x5, s =>
    if (-2147483648 ≤ x5 ∧ x5 ≤ 2147483647) then (
    if 72 ≤ x5 then (
      (gm_0 x3 s).bind fun q4 =>
      some (q4.1, q4.2)) else (
      if 0 ≤ x5 ∧ x5 ≤ 2147483647 then (
      if 0 ≤ (x5 / 9) ∧ (x5 / 9) < 8 then (
      if (-2147483648 ≤ (s.1 ((x2 + 3) + 2) ((x5 / 9)).toNat) ∧ (s.1 ((x2 + 3) + 2) ((x5 / 9)).toNat) ≤ 2147483647) then (
      if (s.1 ((x2 + 3) + 2) ((x5 / 9)).toNat) ≤ 0 then (
        gm_109_83 (gm_109_39 n) x2 x3 x5 s) else (
        (gm_80 (x2 + 3) x5 s).bind fun q12 =>
        if id_n6 (FP.ddiv (FP.l2d (Int64.ofInt q12.1)) (FP.i2d (Int32.ofInt (s.1 ((x2 + 3) + 2) ((x5 / 9)).toNat)))) = true then (
        if id_n6 (FP.dadd x3 (FP.ddiv (FP.l2d (Int64.ofInt q12.1)) (FP.i2d (Int32.ofInt (s.1 ((x2 + 3) + 2) ((x5 / 9)).toNat))))) = true then (
        gm_109_83 (gm_109_39 n) x2 (FP.dadd x3 (FP.ddiv (FP.l2d (Int64.ofInt q12.1)) (FP.i2d (Int32.ofInt (s.1 ((x2 + 3) + 2) ((x5 / 9)).toNat))))) x5 q12.2) else none) else none)) else none) else none) else none)) else none
theorem gf_109_39 : ∀ (n : Nat) (x2 : Nat) (x3 : UInt64) (yx3 : UInt64) (e3 : yx3 = x3) (x5 : Int) (yx5 : Int32) (e5 : yx5 = Int32.ofInt x5) (s : gx_S) (σ : fx_S) (es : σ = gx s) (q : Int × gx_S) (g2 : fx_oc x2 2 = true), gm_109_39 n x2 x3 x5 s = some q → fm_109_39 n x2 yx3 yx5 σ = some (Int64.ofInt q.1, gx q.2) := by
  intro n
  induction n with
  | zero =>
    intro x2 x3 yx3 e3 x5 yx5 e5 s σ es q g2 h
    rw [gm_109_39] at h
    exact fx_no h
  | succ n ih =>
    intro x2 x3 yx3 e3 x5 yx5 e5 s σ es q g2 h
    rw [gm_109_39] at h
    rw [fm_109_39]
    obtain ⟨z1, h⟩ := fx_gd h
    by_cases c2 : 72 ≤ x5
    · rw [if_pos c2] at h
      refine gb_t ((gc_le kg_72 e5 (by decide) z1).mpr c2) ?_
      obtain ⟨q4, w3, h⟩ := fx_bd h
      refine gb_bind (gf_0 e3 es w3) ?_
      have h := Option.some.inj h
      subst h
      exact gretl (gr2 q4.1) (rfl : _ = gx q4.2)
    · rw [if_neg c2] at h
      refine gb_f (fun q => c2 ((gc_le kg_72 e5 (by decide) z1).mp q)) ?_
      obtain ⟨z5, h⟩ := fx_gd h
      obtain ⟨z8, h⟩ := fx_gd h
      refine gb_bind (gl_ld es (ga_div e5 kg_9 ⟨z5.1, z5.2, by decide, by decide⟩) (ga_7_1 (fg_2_2 g2)) z8) ?_
      obtain ⟨z9, h⟩ := fx_gd h
      by_cases c10 : (s.1 ((x2 + 3) + 2) ((x5 / 9)).toNat) ≤ 0
      · rw [if_pos c10] at h
        refine gb_t ((gc_le (gr (s.1 ((x2 + 3) + 2) ((x5 / 9)).toNat)) kg_0 z9 (by decide)).mpr c10) ?_
        exact gf_109_83 ih _ _ _ e3 _ _ e5 _ _ es _ g2 h
      · rw [if_neg c10] at h
        refine gb_f (fun q => c10 ((gc_le (gr (s.1 ((x2 + 3) + 2) ((x5 / 9)).toNat)) kg_0 z9 (by decide)).mp q)) ?_
        obtain ⟨q12, w11, h⟩ := fx_bd h
        refine gb_bind (gf_80 e5 es w11) ?_
        obtain ⟨z13, h⟩ := fx_gd h
        refine gb_t (gdn (gd2 (f := FP.ddiv) (congrArg FP.l2d (gr2 q12.1)) (congrArg FP.i2d (gr (s.1 ((x2 + 3) + 2) ((x5 / 9)).toNat)))) z13) ?_
        obtain ⟨z15, h⟩ := fx_gd h
        refine gb_t (gdn (gd2 (f := FP.dadd) e3 (gd2 (f := FP.ddiv) (congrArg FP.l2d (gr2 q12.1)) (congrArg FP.i2d (gr (s.1 ((x2 + 3) + 2) ((x5 / 9)).toNat))))) z15) ?_
        exact gf_109_83 ih _ _ _ (gd2 (f := FP.dadd) e3 (gd2 (f := FP.ddiv) (congrArg FP.l2d (gr2 q12.1)) (congrArg FP.i2d (gr (s.1 ((x2 + 3) + 2) ((x5 / 9)).toNat))))) _ _ e5 _ _ (rfl : _ = gx q12.2) _ g2 h
def gm_109 (x1 : Int) (s : gx_S) : Option (Int × gx_S) :=
  (gm_114 x1 s).bind fun q46 =>
  if (gb q46.1) = 0 then (
    gm_109_17 q46.2) else (
    (gm_57 1 q46.2).bind fun q49 =>
    if ¬ (gb q49.1) = 0 then (
      if 0 ≤ x1 ∧ x1 < 3 then (
      (some (fx_rf 70 (x1).toNat)).bind fun v51 =>
      (gm_19 v51 2 q49.2).bind fun q56 =>
      gm_109_39 100000 v51 FP.dconst0 0 q56) else none) else (
      gm_109_17 q49.2))
theorem gf_109 {x1 : Int} {yx1 : Int32} (e1 : yx1 = Int32.ofInt x1) {s : gx_S} {σ : fx_S} (es : σ = gx s) {q : Int × gx_S} (h : gm_109 x1 s = some q) : fm_109 yx1 σ = some (Int64.ofInt q.1, gx q.2) := by
  unfold gm_109 at h
  unfold fm_109
  obtain ⟨q46, w45, h⟩ := fx_bd h
  refine gb_bind (gf_114 e1 es w45) ?_
  by_cases c47 : (gb q46.1) = 0
  · rw [if_pos c47] at h
    refine gb_t ((gc_eq (gb_b q46.1) kg_0 (gb_r _) (by decide)).mpr c47) ?_
    exact gf_109_17 _ _ (rfl : _ = gx q46.2) _ h
  · rw [if_neg c47] at h
    refine gb_f (fun q => c47 ((gc_eq (gb_b q46.1) kg_0 (gb_r _) (by decide)).mp q)) ?_
    obtain ⟨q49, w48, h⟩ := fx_bd h
    refine gb_bind (gf_57 (rfl : _ = gx q46.2) w48) ?_
    by_cases c50 : ¬ (gb q49.1) = 0
    · rw [if_pos c50] at h
      refine gb_t ((gc_ne (gb_b q49.1) kg_0 (gb_r _) (by decide)).mpr c50) ?_
      obtain ⟨z54, h⟩ := fx_gd h
      obtain ⟨v51, w52, h⟩ := fx_bd h
      have g53 := fa_70 ((gl_ldr (t := 4) e1 ga_70 z54).trans w52)
      refine gb_bind ((gl_ldr e1 ga_70 z54).trans w52) ?_
      obtain ⟨q56, w55, h⟩ := fx_bd h
      refine gb_bind (gf_19 kg_2 (rfl : _ = gx q49.2) w55) ?_
      exact gf_109_39 100000 _ _ _ (rfl : FP.dconst0 = FP.dconst0) _ _ kg_0 _ _ (rfl : _ = gx q56) _ g53 h
    · rw [if_neg c50] at h
      refine gb_f (fun q => c50 ((gc_ne (gb_b q49.1) kg_0 (gb_r _) (by decide)).mp q)) ?_
      exact gf_109_17 _ _ (rfl : _ = gx q49.2) _ h

/-! ZoneSharesModel.dense(III)J -/
def gm_203_47 (s : gx_S) : Option (Int × gx_S) :=
  some ((-9223372036854775808), s)
theorem gf_203_47 (s : gx_S) (σ : fx_S) (es : σ = gx s) (q : Int × gx_S) (h : gm_203_47 s = some q) : fm_203_47 σ = some (Int64.ofInt q.1, gx q.2) := by
  unfold gm_203_47 at h
  unfold fm_203_47
  have h := Option.some.inj h
  subst h
  exact gretl kgl_m9223372036854775808 es
def gm_203 (x1 : Int) (x2 : Int) (x3 : Int) (s : gx_S) : Option (Int × gx_S) :=
  (gm_150 s).bind fun q42 =>
  if (gb q42.1) = 0 then (
    gm_203_47 q42.2) else (
    (gm_148 x1 q42.2).bind fun q45 =>
    if (gb q45.1) = 0 then (
      gm_203_47 q45.2) else (
      if (-2147483648 ≤ x2 ∧ x2 ≤ 2147483647) then (
      (gm_130 x2 0 7 q45.2).bind fun q49 =>
      if (gb q49.1) = 0 then (
        gm_203_47 q49.2) else (
        (gm_153 1 x2 q49.2).bind fun q52 =>
        if (gb q52.1) = 0 then (
          gm_203_47 q52.2) else (
          if (-2147483648 ≤ x3 ∧ x3 ≤ 2147483647) then (
          (gm_130 x3 0 3 q52.2).bind fun q56 =>
          if ¬ (gb q56.1) = 0 then (
            (gm_181 x1 q56.2).bind fun q59 =>
            (gm_173 q59).bind fun q61 =>
            (gm_183 x2 q61).bind fun q63 =>
            (gm_202 x2 q63.2).bind fun q65 =>
            if id_n6 (FP.ddiv (FP.i2d (Int32.ofInt q63.1)) (FP.i2d (Int32.ofInt q65.1))) = true then (
            if x3 = 0 then (
              some ((((FP.ddiv (FP.i2d (Int32.ofInt q63.1)) (FP.i2d (Int32.ofInt q65.1)))).toInt64).toInt, q65.2)) else (
              if x3 = 1 then (
                if id_n3 (FP.d2f (FP.ddiv (FP.i2d (Int32.ofInt q63.1)) (FP.i2d (Int32.ofInt q65.1)))) = true then (
                some ((((FP.d2f (FP.ddiv (FP.i2d (Int32.ofInt q63.1)) (FP.i2d (Int32.ofInt q65.1))))).toInt32).toInt, q65.2)) else none) else (
                if x3 = 2 then (
                  if id_n6 (FP.drem (FP.ddiv (FP.i2d (Int32.ofInt q63.1)) (FP.i2d (Int32.ofInt q65.1))) FP.dconst1) = true then (
                  some ((((FP.drem (FP.ddiv (FP.i2d (Int32.ofInt q63.1)) (FP.i2d (Int32.ofInt q65.1))) FP.dconst1)).toInt64).toInt, q65.2)) else none) else (
                  if id_n6 (FP.ddiv (FP.ddiv (FP.i2d (Int32.ofInt q63.1)) (FP.i2d (Int32.ofInt q65.1))) (4602678819172646912 : UInt64)) = true then (
                  some ((FP.d2l (Jvm.Free.Hsc.floorOf (FP.ddiv (FP.ddiv (FP.i2d (Int32.ofInt q63.1)) (FP.i2d (Int32.ofInt q65.1))) (4602678819172646912 : UInt64)))).toInt, q65.2)) else none)))) else none) else (
            gm_203_47 q56.2)) else none))) else none))
theorem gf_203 {x1 : Int} {yx1 : Int32} (e1 : yx1 = Int32.ofInt x1) {x2 : Int} {yx2 : Int32} (e2 : yx2 = Int32.ofInt x2) {x3 : Int} {yx3 : Int32} (e3 : yx3 = Int32.ofInt x3) {s : gx_S} {σ : fx_S} (es : σ = gx s) {q : Int × gx_S} (h : gm_203 x1 x2 x3 s = some q) : fm_203 yx1 yx2 yx3 σ = some (Int64.ofInt q.1, gx q.2) := by
  unfold gm_203 at h
  unfold fm_203
  obtain ⟨q42, w41, h⟩ := fx_bd h
  refine gb_bind (gf_150 es w41) ?_
  by_cases c43 : (gb q42.1) = 0
  · rw [if_pos c43] at h
    refine gb_t ((gc_eq (gb_b q42.1) kg_0 (gb_r _) (by decide)).mpr c43) ?_
    exact gf_203_47 _ _ (rfl : _ = gx q42.2) _ h
  · rw [if_neg c43] at h
    refine gb_f (fun q => c43 ((gc_eq (gb_b q42.1) kg_0 (gb_r _) (by decide)).mp q)) ?_
    obtain ⟨q45, w44, h⟩ := fx_bd h
    refine gb_bind (gf_148 e1 (rfl : _ = gx q42.2) w44) ?_
    by_cases c46 : (gb q45.1) = 0
    · rw [if_pos c46] at h
      refine gb_t ((gc_eq (gb_b q45.1) kg_0 (gb_r _) (by decide)).mpr c46) ?_
      exact gf_203_47 _ _ (rfl : _ = gx q45.2) _ h
    · rw [if_neg c46] at h
      refine gb_f (fun q => c46 ((gc_eq (gb_b q45.1) kg_0 (gb_r _) (by decide)).mp q)) ?_
      obtain ⟨z47, h⟩ := fx_gd h
      obtain ⟨q49, w48, h⟩ := fx_bd h
      refine gb_bind (gf_130 (ga_i2l e2 z47) kgl_0 kgl_7 (rfl : _ = gx q45.2) w48) ?_
      by_cases c50 : (gb q49.1) = 0
      · rw [if_pos c50] at h
        refine gb_t ((gc_eq (gb_b q49.1) kg_0 (gb_r _) (by decide)).mpr c50) ?_
        exact gf_203_47 _ _ (rfl : _ = gx q49.2) _ h
      · rw [if_neg c50] at h
        refine gb_f (fun q => c50 ((gc_eq (gb_b q49.1) kg_0 (gb_r _) (by decide)).mp q)) ?_
        obtain ⟨q52, w51, h⟩ := fx_bd h
        refine gb_bind (gf_153 kg_1 e2 (rfl : _ = gx q49.2) w51) ?_
        by_cases c53 : (gb q52.1) = 0
        · rw [if_pos c53] at h
          refine gb_t ((gc_eq (gb_b q52.1) kg_0 (gb_r _) (by decide)).mpr c53) ?_
          exact gf_203_47 _ _ (rfl : _ = gx q52.2) _ h
        · rw [if_neg c53] at h
          refine gb_f (fun q => c53 ((gc_eq (gb_b q52.1) kg_0 (gb_r _) (by decide)).mp q)) ?_
          obtain ⟨z54, h⟩ := fx_gd h
          obtain ⟨q56, w55, h⟩ := fx_bd h
          refine gb_bind (gf_130 (ga_i2l e3 z54) kgl_0 kgl_3 (rfl : _ = gx q52.2) w55) ?_
          by_cases c57 : ¬ (gb q56.1) = 0
          · rw [if_pos c57] at h
            refine gb_t ((gc_ne (gb_b q56.1) kg_0 (gb_r _) (by decide)).mpr c57) ?_
            obtain ⟨q59, w58, h⟩ := fx_bd h
            refine gb_bind (gf_181 e1 (rfl : _ = gx q56.2) w58) ?_
            obtain ⟨q61, w60, h⟩ := fx_bd h
            refine gb_bind (gf_173 (rfl : _ = gx q59) w60) ?_
            obtain ⟨q63, w62, h⟩ := fx_bd h
            refine gb_bind (gf_183 e2 (rfl : _ = gx q61) w62) ?_
            obtain ⟨q65, w64, h⟩ := fx_bd h
            refine gb_bind (gf_202 e2 (rfl : _ = gx q63.2) w64) ?_
            obtain ⟨z66, h⟩ := fx_gd h
            refine gb_t (gdn (gd2 (f := FP.ddiv) (congrArg FP.i2d (gr q63.1)) (congrArg FP.i2d (gr q65.1))) z66) ?_
            by_cases c68 : x3 = 0
            · rw [if_pos c68] at h
              refine gb_t ((gc_eq e3 kg_0 z54 (by decide)).mpr c68) ?_
              refine gb_t (gdn (gd2 (f := FP.ddiv) (congrArg FP.i2d (gr q63.1)) (congrArg FP.i2d (gr q65.1))) z66) ?_
              have h := Option.some.inj h
              subst h
              exact gretl (gdl (f := UInt64.toInt64) (gd2 (f := FP.ddiv) (congrArg FP.i2d (gr q63.1)) (congrArg FP.i2d (gr q65.1)))) (rfl : _ = gx q65.2)
            · rw [if_neg c68] at h
              refine gb_f (fun q => c68 ((gc_eq e3 kg_0 z54 (by decide)).mp q)) ?_
              by_cases c69 : x3 = 1
              · rw [if_pos c69] at h
                refine gb_t ((gc_eq e3 kg_1 z54 (by decide)).mpr c69) ?_
                obtain ⟨z77, h⟩ := fx_gd h
                refine gb_t (gdn3 (congrArg FP.d2f (gd2 (f := FP.ddiv) (congrArg FP.i2d (gr q63.1)) (congrArg FP.i2d (gr q65.1)))) z77) ?_
                refine gb_t (gdn3 (congrArg FP.d2f (gd2 (f := FP.ddiv) (congrArg FP.i2d (gr q63.1)) (congrArg FP.i2d (gr q65.1)))) z77) ?_
                have h := Option.some.inj h
                subst h
                exact gretl (ga_i2l (gdf (f := UInt32.toInt32) (congrArg FP.d2f (gd2 (f := FP.ddiv) (congrArg FP.i2d (gr q63.1)) (congrArg FP.i2d (gr q65.1))))) (gs_r _)) (rfl : _ = gx q65.2)
              · rw [if_neg c69] at h
                refine gb_f (fun q => c69 ((gc_eq e3 kg_1 z54 (by decide)).mp q)) ?_
                by_cases c70 : x3 = 2
                · rw [if_pos c70] at h
                  refine gb_t ((gc_eq e3 kg_2 z54 (by decide)).mpr c70) ?_
                  obtain ⟨z74, h⟩ := fx_gd h
                  refine gb_t (gdn (gd2 (f := FP.drem) (gd2 (f := FP.ddiv) (congrArg FP.i2d (gr q63.1)) (congrArg FP.i2d (gr q65.1))) (rfl : FP.dconst1 = FP.dconst1)) z74) ?_
                  refine gb_t (gdn (gd2 (f := FP.drem) (gd2 (f := FP.ddiv) (congrArg FP.i2d (gr q63.1)) (congrArg FP.i2d (gr q65.1))) (rfl : FP.dconst1 = FP.dconst1)) z74) ?_
                  have h := Option.some.inj h
                  subst h
                  exact gretl (gdl (f := UInt64.toInt64) (gd2 (f := FP.drem) (gd2 (f := FP.ddiv) (congrArg FP.i2d (gr q63.1)) (congrArg FP.i2d (gr q65.1))) (rfl : FP.dconst1 = FP.dconst1))) (rfl : _ = gx q65.2)
                · rw [if_neg c70] at h
                  refine gb_f (fun q => c70 ((gc_eq e3 kg_2 z54 (by decide)).mp q)) ?_
                  obtain ⟨z71, h⟩ := fx_gd h
                  refine gb_t (gdn (gd2 (f := FP.ddiv) (gd2 (f := FP.ddiv) (congrArg FP.i2d (gr q63.1)) (congrArg FP.i2d (gr q65.1))) (rfl : (4602678819172646912 : UInt64) = (4602678819172646912 : UInt64))) z71) ?_
                  refine gb_t (gdn (gd2 (f := FP.ddiv) (gd2 (f := FP.ddiv) (congrArg FP.i2d (gr q63.1)) (congrArg FP.i2d (gr q65.1))) (rfl : (4602678819172646912 : UInt64) = (4602678819172646912 : UInt64))) z71) ?_
                  have h := Option.some.inj h
                  subst h
                  exact gretl (gdl (f := FP.d2l) (congrArg Jvm.Free.Hsc.floorOf (gd2 (f := FP.ddiv) (gd2 (f := FP.ddiv) (congrArg FP.i2d (gr q63.1)) (congrArg FP.i2d (gr q65.1))) (rfl : (4602678819172646912 : UInt64) = (4602678819172646912 : UInt64))))) (rfl : _ = gx q65.2)
          · rw [if_neg c57] at h
            refine gb_f (fun q => c57 ((gc_ne (gb_b q56.1) kg_0 (gb_r _) (by decide)).mp q)) ?_
            exact gf_203_47 _ _ (rfl : _ = gx q56.2) _ h

/-! ZoneSharesModel.off(I)J -/
def gm_204_14 (s : gx_S) : Option (Int × gx_S) :=
  some ((-9223372036854775808), s)
theorem gf_204_14 (s : gx_S) (σ : fx_S) (es : σ = gx s) (q : Int × gx_S) (h : gm_204_14 s = some q) : fm_204_14 σ = some (Int64.ofInt q.1, gx q.2) := by
  unfold gm_204_14 at h
  unfold fm_204_14
  have h := Option.some.inj h
  subst h
  exact gretl kgl_m9223372036854775808 es
def gm_204_120 (k_32 : UInt64 → Int → gx_S → Option (Int × gx_S)) (x2 : UInt64) (x4 : Int) (s : gx_S) : Option (Int × gx_S) :=
  k_32 x2 (x4 + 1) s
theorem gf_204_120 {kf_32 : UInt64 → Int32 → fx_S → Option (Int64 × fx_S)} {kg_32 : UInt64 → Int → gx_S → Option (Int × gx_S)} (hk_32 : ∀ (x2 : UInt64) (yx2 : UInt64) (e2 : yx2 = x2) (x4 : Int) (yx4 : Int32) (e4 : yx4 = Int32.ofInt x4) (s : gx_S) (σ : fx_S) (es : σ = gx s) (q : Int × gx_S), kg_32 x2 x4 s = some q → kf_32 yx2 yx4 σ = some (Int64.ofInt q.1, gx q.2)) (x2 : UInt64) (yx2 : UInt64) (e2 : yx2 = x2) (x4 : Int) (yx4 : Int32) (e4 : yx4 = Int32.ofInt x4) (s : gx_S) (σ : fx_S) (es : σ = gx s) (q : Int × gx_S) (h : gm_204_120 kg_32 x2 x4 s = some q) : fm_204_120 kf_32 yx2 yx4 σ = some (Int64.ofInt q.1, gx q.2) := by
  unfold gm_204_120 at h
  unfold fm_204_120
  exact hk_32 _ _ e2 _ _ (ga_add e4 kg_1) _ _ es _ h
def gm_204_42 (k_32 : UInt64 → Int → gx_S → Option (Int × gx_S)) : Nat → UInt64 → Int → Int → gx_S → Option (Int × gx_S)
  | 0, _, _, _, _ => none
  | n + 1, x2, x4, x5, s =>
    if (-2147483648 ≤ x5 ∧ x5 ≤ 2147483647) then (
    if 9 ≤ x5 then (
      gm_204_120 k_32 x2 x4 s) else (
      if 0 ≤ x4 ∧ x4 < 8 then (
      if (-2147483648 ≤ (s.1 223 (x4).toNat) ∧ (s.1 223 (x4).toNat) ≤ 2147483647) then (
      if (s.1 223 (x4).toNat) ≤ 0 then (
        gm_204_120 k_32 x2 x4 s) else (
        (gm_160 x4 x5 s).bind fun q11 =>
        if 0 ≤ q11.1 ∧ q11.1 < 72 then (
        if (-2147483648 ≤ (q11.2.1 222 (q11.1).toNat) ∧ (q11.2.1 222 (q11.1).toNat) ≤ 2147483647) then (
        if id_n6 (FP.ddiv (FP.l2d (Int64.ofInt ((s.2 221 (x4).toNat) * (q11.2.1 222 (q11.1).toNat)))) (FP.i2d (Int32.ofInt (q11.2.1 223 (x4).toNat)))) = true then (
        (gm_160 x4 x5 q11.2).bind fun q21 =>
        if 0 ≤ q21.1 ∧ q21.1 < 72 then (
        if id_n6 (FP.dsub (FP.l2d (Int64.ofInt (q21.2.2 224 (q21.1).toNat))) (FP.ddiv (FP.l2d (Int64.ofInt ((s.2 221 (x4).toNat) * (q11.2.1 222 (q11.1).toNat)))) (FP.i2d (Int32.ofInt (q11.2.1 223 (x4).toNat))))) = true then (
        if id_n6 (FP.dadd x2 ((FP.dsub (FP.l2d (Int64.ofInt (q21.2.2 224 (q21.1).toNat))) (FP.ddiv (FP.l2d (Int64.ofInt ((s.2 221 (x4).toNat) * (q11.2.1 222 (q11.1).toNat)))) (FP.i2d (Int32.ofInt (q11.2.1 223 (x4).toNat))))) &&& 0x7fffffffffffffff)) = true then (
        gm_204_42 k_32 n (FP.dadd x2 ((FP.dsub (FP.l2d (Int64.ofInt (q21.2.2 224 (q21.1).toNat))) (FP.ddiv (FP.l2d (Int64.ofInt ((s.2 221 (x4).toNat) * (q11.2.1 222 (q11.1).toNat)))) (FP.i2d (Int32.ofInt (q11.2.1 223 (x4).toNat))))) &&& 0x7fffffffffffffff)) x4 (x5 + 1) q21.2) else none) else none) else none) else none) else none) else none)) else none) else none)) else none
theorem gf_204_42 {kf_32 : UInt64 → Int32 → fx_S → Option (Int64 × fx_S)} {kg_32 : UInt64 → Int → gx_S → Option (Int × gx_S)} (hk_32 : ∀ (x2 : UInt64) (yx2 : UInt64) (e2 : yx2 = x2) (x4 : Int) (yx4 : Int32) (e4 : yx4 = Int32.ofInt x4) (s : gx_S) (σ : fx_S) (es : σ = gx s) (q : Int × gx_S), kg_32 x2 x4 s = some q → kf_32 yx2 yx4 σ = some (Int64.ofInt q.1, gx q.2)) : ∀ (n : Nat) (x2 : UInt64) (yx2 : UInt64) (e2 : yx2 = x2) (x4 : Int) (yx4 : Int32) (e4 : yx4 = Int32.ofInt x4) (x5 : Int) (yx5 : Int32) (e5 : yx5 = Int32.ofInt x5) (s : gx_S) (σ : fx_S) (es : σ = gx s) (q : Int × gx_S), gm_204_42 kg_32 n x2 x4 x5 s = some q → fm_204_42 kf_32 n yx2 yx4 yx5 σ = some (Int64.ofInt q.1, gx q.2) := by
  intro n
  induction n with
  | zero =>
    intro x2 yx2 e2 x4 yx4 e4 x5 yx5 e5 s σ es q  h
    rw [gm_204_42] at h
    exact fx_no h
  | succ n ih =>
    intro x2 yx2 e2 x4 yx4 e4 x5 yx5 e5 s σ es q  h
    rw [gm_204_42] at h
    rw [fm_204_42]
    obtain ⟨z1, h⟩ := fx_gd h
    by_cases c2 : 9 ≤ x5
    · rw [if_pos c2] at h
      refine gb_t ((gc_le kg_9 e5 (by decide) z1).mpr c2) ?_
      exact gf_204_120 hk_32 _ _ e2 _ _ e4 _ _ es _ h
    · rw [if_neg c2] at h
      refine gb_f (fun q => c2 ((gc_le kg_9 e5 (by decide) z1).mp q)) ?_
      obtain ⟨z5, h⟩ := fx_gd h
      refine gb_bind (gl_ld es e4 ga_223 z5) ?_
      obtain ⟨z6, h⟩ := fx_gd h
      by_cases c7 : (s.1 223 (x4).toNat) ≤ 0
      · rw [if_pos c7] at h
        refine gb_t ((gc_le (gr (s.1 223 (x4).toNat)) kg_0 z6 (by decide)).mpr c7) ?_
        exact gf_204_120 hk_32 _ _ e2 _ _ e4 _ _ es _ h
      · rw [if_neg c7] at h
        refine gb_f (fun q => c7 ((gc_le (gr (s.1 223 (x4).toNat)) kg_0 z6 (by decide)).mp q)) ?_
        refine gb_bind (gl_ldl es e4 ga_221 z5) ?_
        obtain ⟨q11, w10, h⟩ := fx_bd h
        refine gb_bind (gf_160 e4 e5 es w10) ?_
        obtain ⟨z14, h⟩ := fx_gd h
        refine gb_bind (gl_ld (rfl : _ = gx q11.2) (gr q11.1) ga_222 z14) ?_
        obtain ⟨z15, h⟩ := fx_gd h
        refine gb_bind (gl_ld (rfl : _ = gx q11.2) e4 ga_223 z5) ?_
        obtain ⟨z18, h⟩ := fx_gd h
        refine gb_t (gdn (gd2 (f := FP.ddiv) (congrArg FP.l2d (gal_mul (gr2 (s.2 221 (x4).toNat)) (ga_i2l (gr (q11.2.1 222 (q11.1).toNat)) z15))) (congrArg FP.i2d (gr (q11.2.1 223 (x4).toNat)))) z18) ?_
        obtain ⟨q21, w20, h⟩ := fx_bd h
        refine gb_bind (gf_160 e4 e5 (rfl : _ = gx q11.2) w20) ?_
        obtain ⟨z24, h⟩ := fx_gd h
        refine gb_bind (gl_ldl (rfl : _ = gx q21.2) (gr q21.1) ga_224 z24) ?_
        obtain ⟨z25, h⟩ := fx_gd h
        refine gb_t (gdn (gd2 (f := FP.dsub) (congrArg FP.l2d (gr2 (q21.2.2 224 (q21.1).toNat))) (gd2 (f := FP.ddiv) (congrArg FP.l2d (gal_mul (gr2 (s.2 221 (x4).toNat)) (ga_i2l (gr (q11.2.1 222 (q11.1).toNat)) z15))) (congrArg FP.i2d (gr (q11.2.1 223 (x4).toNat))))) z25) ?_
        refine gb_t (gdn (gd2 (f := FP.dsub) (congrArg FP.l2d (gr2 (q21.2.2 224 (q21.1).toNat))) (gd2 (f := FP.ddiv) (congrArg FP.l2d (gal_mul (gr2 (s.2 221 (x4).toNat)) (ga_i2l (gr (q11.2.1 222 (q11.1).toNat)) z15))) (congrArg FP.i2d (gr (q11.2.1 223 (x4).toNat))))) z25) ?_
        obtain ⟨z28, h⟩ := fx_gd h
        refine gb_t (gdn (gd2 (f := FP.dadd) e2 (gd1 (f := fun a : UInt64 => a &&& 0x7fffffffffffffff) (gd2 (f := FP.dsub) (congrArg FP.l2d (gr2 (q21.2.2 224 (q21.1).toNat))) (gd2 (f := FP.ddiv) (congrArg FP.l2d (gal_mul (gr2 (s.2 221 (x4).toNat)) (ga_i2l (gr (q11.2.1 222 (q11.1).toNat)) z15))) (congrArg FP.i2d (gr (q11.2.1 223 (x4).toNat))))))) z28) ?_
        exact ih _ _ (gd2 (f := FP.dadd) e2 (gd1 (f := fun a : UInt64 => a &&& 0x7fffffffffffffff) (gd2 (f := FP.dsub) (congrArg FP.l2d (gr2 (q21.2.2 224 (q21.1).toNat))) (gd2 (f := FP.ddiv) (congrArg FP.l2d (gal_mul (gr2 (s.2 221 (x4).toNat)) (ga_i2l (gr (q11.2.1 222 (q11.1).toNat)) z15))) (congrArg FP.i2d (gr (q11.2.1 223 (x4).toNat))))))) _ _ e4 _ _ (ga_add e5 kg_1) _ _ (rfl : _ = gx q21.2) _ h
def gm_204_32 : Nat → UInt64 → Int → gx_S → Option (Int × gx_S)
  | 0, _, _, _ => none
  | n + 1, x2, x4, s =>
    if (-2147483648 ≤ x4 ∧ x4 ≤ 2147483647) then (
    if 8 ≤ x4 then (
      if id_n6 x2 = true then (
      some (((x2).toInt64).toInt, s)) else none) else (
      gm_204_42 (gm_204_32 n) 100000 x2 x4 0 s)) else none
theorem gf_204_32 : ∀ (n : Nat) (x2 : UInt64) (yx2 : UInt64) (e2 : yx2 = x2) (x4 : Int) (yx4 : Int32) (e4 : yx4 = Int32.ofInt x4) (s : gx_S) (σ : fx_S) (es : σ = gx s) (q : Int × gx_S), gm_204_32 n x2 x4 s = some q → fm_204_32 n yx2 yx4 σ = some (Int64.ofInt q.1, gx q.2) := by
  intro n
  induction n with
  | zero =>
    intro x2 yx2 e2 x4 yx4 e4 s σ es q  h
    rw [gm_204_32] at h
    exact fx_no h
  | succ n ih =>
    intro x2 yx2 e2 x4 yx4 e4 s σ es q  h
    rw [gm_204_32] at h
    rw [fm_204_32]
    obtain ⟨z1, h⟩ := fx_gd h
    by_cases c2 : 8 ≤ x4
    · rw [if_pos c2] at h
      refine gb_t ((gc_le kg_8 e4 (by decide) z1).mpr c2) ?_
      obtain ⟨z3, h⟩ := fx_gd h
      refine gb_t (gdn e2 z3) ?_
      have h := Option.some.inj h
      subst h
      exact gretl (gdl (f := UInt64.toInt64) e2) es
    · rw [if_neg c2] at h
      refine gb_f (fun q => c2 ((gc_le kg_8 e4 (by decide) z1).mp q)) ?_
      exact gf_204_42 ih 100000 _ _ e2 _ _ e4 _ _ kg_0 _ _ es _ h
def gm_204 (x1 : Int) (s : gx_S) : Option (Int × gx_S) :=
  (gm_150 s).bind fun q78 =>
  if (gb q78.1) = 0 then (
    gm_204_14 q78.2) else (
    (gm_148 x1 q78.2).bind fun q81 =>
    if ¬ (gb q81.1) = 0 then (
      (gm_181 x1 q81.2).bind fun q84 =>
      (gm_173 q84).bind fun q86 =>
      gm_204_32 100000 FP.dconst0 0 q86) else (
      gm_204_14 q81.2))
theorem gf_204 {x1 : Int} {yx1 : Int32} (e1 : yx1 = Int32.ofInt x1) {s : gx_S} {σ : fx_S} (es : σ = gx s) {q : Int × gx_S} (h : gm_204 x1 s = some q) : fm_204 yx1 σ = some (Int64.ofInt q.1, gx q.2) := by
  unfold gm_204 at h
  unfold fm_204
  obtain ⟨q78, w77, h⟩ := fx_bd h
  refine gb_bind (gf_150 es w77) ?_
  by_cases c79 : (gb q78.1) = 0
  · rw [if_pos c79] at h
    refine gb_t ((gc_eq (gb_b q78.1) kg_0 (gb_r _) (by decide)).mpr c79) ?_
    exact gf_204_14 _ _ (rfl : _ = gx q78.2) _ h
  · rw [if_neg c79] at h
    refine gb_f (fun q => c79 ((gc_eq (gb_b q78.1) kg_0 (gb_r _) (by decide)).mp q)) ?_
    obtain ⟨q81, w80, h⟩ := fx_bd h
    refine gb_bind (gf_148 e1 (rfl : _ = gx q78.2) w80) ?_
    by_cases c82 : ¬ (gb q81.1) = 0
    · rw [if_pos c82] at h
      refine gb_t ((gc_ne (gb_b q81.1) kg_0 (gb_r _) (by decide)).mpr c82) ?_
      obtain ⟨q84, w83, h⟩ := fx_bd h
      refine gb_bind (gf_181 e1 (rfl : _ = gx q81.2) w83) ?_
      obtain ⟨q86, w85, h⟩ := fx_bd h
      refine gb_bind (gf_173 (rfl : _ = gx q84) w85) ?_
      exact gf_204_32 100000 _ _ (rfl : FP.dconst0 = FP.dconst0) _ _ kg_0 _ _ (rfl : _ = gx q86) _ h
    · rw [if_neg c82] at h
      refine gb_f (fun q => c82 ((gc_ne (gb_b q81.1) kg_0 (gb_r _) (by decide)).mp q)) ?_
      exact gf_204_14 _ _ (rfl : _ = gx q81.2) _ h
