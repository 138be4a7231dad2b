/-! ZoneShares$Bits.of(DII)J -/
theorem mx_2 : iv_mx 2 = 9 := by decide +kernel
theorem rt_2 : iv_rt 2 = some .long := by decide +kernel
def fm_2_64 (x2 : Int32) (x3 : Int32) (x4 : UInt64) (x6 : Int32) (σ : fx_S) : Option (Int64 × fx_S) :=
  if 0 ≤ (Op.cmpValue (FP.dcmp x4 FP.dconst1) .g) then (
    if id_n6 (FP.dsub x4 FP.dconst1) = true then (
    if id_n6 (FP.dmul (FP.dsub x4 FP.dconst1) (FP.l2d ((1 : Int64) <<< ((x3).toInt64 &&& 63)))) = true then (
    some (((((x6 + x2)).toInt64 <<< ((x3).toInt64 &&& 63)) + (FP.d2l (FP.dmul (FP.dsub x4 FP.dconst1) (FP.l2d ((1 : Int64) <<< ((x3).toInt64 &&& 63)))))), σ)) else none) else none) else (
    if id_n6 (FP.dmul x4 (FP.l2d ((1 : Int64) <<< ((x3).toInt64 &&& 63)))) = true then (
    some ((FP.d2l (FP.dmul x4 (FP.l2d ((1 : Int64) <<< ((x3).toInt64 &&& 63))))), σ)) else none)
theorem fe_2_64 {z : iv_Z} {d : Nat} (hd : 0 ≤ d) (x2 : Int32) (x3 : Int32) (x4 : UInt64) (x6 : Int32) (o0 : Option Value) (σ : fx_S) (q : Int64 × fx_S) (h : fm_2_64  x2 x3 x4 x6 σ = some q) : fx_E z 2 d 64 [o0, none, some (.int x2), some (.int x3), some (.double x4), none, some (.int x6), none, none] [] σ (some (.long q.1)) q.2 := by
  unfold fm_2_64 at h
  refine fs_lconst (n := 1) (p := 65) (by decide +kernel) rfl kl_1 ?_
  refine fs_iload_n (k := 3) (p := 66) (by decide +kernel) rfl rfl ?_
  refine fs_lshl (p := 67) (by decide +kernel) rfl ?_
  refine fs_l2d (p := 68) (by decide +kernel) rfl ?_
  refine fs_dstore (k := 7) (p := 70) (M := 9) (al' := [o0, none, some (.int x2), some (.int x3), some (.double x4), none, some (.int x6), some (.double (FP.l2d ((1 : Int64) <<< ((x3).toInt64 &&& 63)))), none]) (by decide +kernel) rfl mx_2 rfl rfl ?_
  refine fs_dload (k := 4) (p := 72) (by decide +kernel) rfl rfl ?_
  refine fs_dconst (n := 1) (p := 73) (by decide +kernel) rfl rfl ?_
  refine fs_dcmp (c := .g) (p := 74) (by decide +kernel) rfl ?_
  by_cases c1 : 0 ≤ (Op.cmpValue (FP.dcmp x4 FP.dconst1) .g)
  · rw [if_pos c1] at h
    refine fs_if_ge_t (off := 10) (t := 84) (by decide +kernel) (by decide +kernel) c1 ?_
    refine fs_iload (k := 6) (p := 86) (by decide +kernel) rfl rfl ?_
    refine fs_iload_n (k := 2) (p := 87) (by decide +kernel) rfl rfl ?_
    refine fs_iadd (p := 88) (by decide +kernel) rfl ?_
    refine fs_i2l (p := 89) (by decide +kernel) rfl ?_
    refine fs_iload_n (k := 3) (p := 90) (by decide +kernel) rfl rfl ?_
    refine fs_lshl (p := 91) (by decide +kernel) rfl ?_
    refine fs_dload (k := 4) (p := 93) (by decide +kernel) rfl rfl ?_
    refine fs_dconst (n := 1) (p := 94) (by decide +kernel) rfl rfl ?_
    obtain ⟨z4, h⟩ := fx_gd h
    refine fs_dsub (p := 95) (by decide +kernel) rfl z4 ?_
    refine fs_dload (k := 7) (p := 97) (by decide +kernel) rfl rfl ?_
    obtain ⟨z6, h⟩ := fx_gd h
    refine fs_dmul (p := 98) (by decide +kernel) rfl z6 ?_
    refine fs_d2l (p := 99) (by decide +kernel) rfl ?_
    refine fs_ladd (p := 100) (by decide +kernel) rfl ?_
    have h := Option.some.inj h
    subst h
    exact fs_lret (by decide +kernel) rt_2
  · rw [if_neg c1] at h
    refine fs_if_ge_f (off := 10) (t := 84) (p := 77) (by decide +kernel) (by decide +kernel) rfl c1 ?_
    refine fs_dload (k := 4) (p := 79) (by decide +kernel) rfl rfl ?_
    refine fs_dload (k := 7) (p := 81) (by decide +kernel) rfl rfl ?_
    obtain ⟨z8, h⟩ := fx_gd h
    refine fs_dmul (p := 82) (by decide +kernel) rfl z8 ?_
    refine fs_d2l (p := 83) (by decide +kernel) rfl ?_
    have h := Option.some.inj h
    subst h
    exact fs_lret (by decide +kernel) rt_2
def fm_2_35 : Nat → Int32 → Int32 → UInt64 → Int32 → fx_S → Option (Int64 × fx_S)
  | 0, _, _, _, _, _ => none
  | n + 1, x2, x3, x4, x6, σ =>
    if 0 ≤ (Op.cmpValue (FP.dcmp x4 FP.dconst1) .g) then (
      fm_2_64 x2 x3 x4 x6 σ) else (
      if x6 ≤ ((1 : Int32) - x2) then (
        fm_2_64 x2 x3 x4 x6 σ) else (
        if id_n6 (FP.dmul x4 (4611686018427387904 : UInt64)) = true then (
        fm_2_35 n x2 x3 (FP.dmul x4 (4611686018427387904 : UInt64)) (x6 + (-1 : Int32)) σ) else none))
theorem fe_2_35 {z : iv_Z} {d : Nat} (hd : 0 ≤ d) : ∀ (n : Nat) (x2 : Int32) (x3 : Int32) (x4 : UInt64) (x6 : Int32) (o0 : Option Value) (σ : fx_S) (q : Int64 × fx_S), fm_2_35 n x2 x3 x4 x6 σ = some q → fx_E z 2 d 35 [o0, none, some (.int x2), some (.int x3), some (.double x4), none, some (.int x6), none, none] [] σ (some (.long q.1)) q.2 := by
  intro n
  induction n with
  | zero =>
    intro x2 x3 x4 x6 o0 σ q  h
    rw [fm_2_35] at h
    exact fx_no h
  | succ n ih =>
    intro x2 x3 x4 x6 o0 σ q  h
    rw [fm_2_35] at h
    refine fs_dload (k := 4) (p := 37) (by decide +kernel) rfl rfl ?_
    refine fs_dconst (n := 1) (p := 38) (by decide +kernel) rfl rfl ?_
    refine fs_dcmp (c := .g) (p := 39) (by decide +kernel) rfl ?_
    by_cases c1 : 0 ≤ (Op.cmpValue (FP.dcmp x4 FP.dconst1) .g)
    · rw [if_pos c1] at h
      refine fs_if_ge_t (off := 25) (t := 64) (by decide +kernel) (by decide +kernel) c1 ?_
      exact fe_2_64 hd _ _ _ _ _ _ _ h
    · rw [if_neg c1] at h
      refine fs_if_ge_f (off := 25) (t := 64) (p := 42) (by decide +kernel) (by decide +kernel) rfl c1 ?_
      refine fs_iload (k := 6) (p := 44) (by decide +kernel) rfl rfl ?_
      refine fs_iconst (n := 1) (p := 45) (by decide +kernel) rfl kc_1 ?_
      refine fs_iload_n (k := 2) (p := 46) (by decide +kernel) rfl rfl ?_
      refine fs_isub (p := 47) (by decide +kernel) rfl ?_
      by_cases c4 : x6 ≤ ((1 : Int32) - x2)
      · rw [if_pos c4] at h
        refine fs_icmp_le_t (off := 17) (t := 64) (by decide +kernel) (by decide +kernel) c4 ?_
        exact fe_2_64 hd _ _ _ _ _ _ _ h
      · rw [if_neg c4] at h
        refine fs_icmp_le_f (off := 17) (t := 64) (p := 50) (by decide +kernel) (by decide +kernel) rfl c4 ?_
        refine fs_dload (k := 4) (p := 52) (by decide +kernel) rfl rfl ?_
        refine fs_ldc2d (idx := 13) (p := 55) (x := 4611686018427387904) (by decide +kernel) rfl (by decide +kernel) (by decide +kernel) ?_
        obtain ⟨z6, h⟩ := fx_gd h
        refine fs_dmul (p := 56) (by decide +kernel) rfl z6 ?_
        refine fs_dstore (k := 4) (p := 58) (M := 9) (al' := [o0, none, some (.int x2), some (.int x3), some (.double (FP.dmul x4 (4611686018427387904 : UInt64))), none, some (.int x6), none, none]) (by decide +kernel) rfl mx_2 rfl rfl ?_
        refine fs_iinc (k := 6) (n := -1) (p := 61) (M := 9) (al' := [o0, none, some (.int x2), some (.int x3), some (.double (FP.dmul x4 (4611686018427387904 : UInt64))), none, some (.int (x6 + (-1 : Int32))), none, none]) (by decide +kernel) rfl kc_m1 mx_2 rfl rfl rfl ?_
        refine fs_goto (off := -26) (p := 35) (by decide +kernel) (by decide +kernel) ?_
        exact ih _ _ _ _ _ _ _ h
def fm_2_6 : Nat → Int32 → Int32 → UInt64 → Int32 → fx_S → Option (Int64 × fx_S)
  | 0, _, _, _, _, _ => none
  | n + 1, x2, x3, x4, x6, σ =>
    if (Op.cmpValue (FP.dcmp x4 (4611686018427387904 : UInt64)) .l) < 0 then (
      fm_2_35 100000 x2 x3 x4 x6 σ) else (
      if x2 ≤ x6 then (
        fm_2_35 100000 x2 x3 x4 x6 σ) else (
        if id_n6 (FP.ddiv x4 (4611686018427387904 : UInt64)) = true then (
        fm_2_6 n x2 x3 (FP.ddiv x4 (4611686018427387904 : UInt64)) (x6 + (1 : Int32)) σ) else none))
theorem fe_2_6 {z : iv_Z} {d : Nat} (hd : 0 ≤ d) : ∀ (n : Nat) (x2 : Int32) (x3 : Int32) (x4 : UInt64) (x6 : Int32) (o0 : Option Value) (σ : fx_S) (q : Int64 × fx_S), fm_2_6 n x2 x3 x4 x6 σ = some q → fx_E z 2 d 6 [o0, none, some (.int x2), some (.int x3), some (.double x4), none, some (.int x6), none, none] [] σ (some (.long q.1)) q.2 := by
  intro n
  induction n with
  | zero =>
    intro x2 x3 x4 x6 o0 σ q  h
    rw [fm_2_6] at h
    exact fx_no h
  | succ n ih =>
    intro x2 x3 x4 x6 o0 σ q  h
    rw [fm_2_6] at h
    refine fs_dload (k := 4) (p := 8) (by decide +kernel) rfl rfl ?_
    refine fs_ldc2d (idx := 13) (p := 11) (x := 4611686018427387904) (by decide +kernel) rfl (by decide +kernel) (by decide +kernel) ?_
    refine fs_dcmp (c := .l) (p := 12) (by decide +kernel) rfl ?_
    by_cases c1 : (Op.cmpValue (FP.dcmp x4 (4611686018427387904 : UInt64)) .l) < 0
    · rw [if_pos c1] at h
      refine fs_if_lt_t (off := 23) (t := 35) (by decide +kernel) (by decide +kernel) c1 ?_
      exact fe_2_35 hd 100000 _ _ _ _ _ _ _ h
    · rw [if_neg c1] at h
      refine fs_if_lt_f (off := 23) (t := 35) (p := 15) (by decide +kernel) (by decide +kernel) rfl c1 ?_
      refine fs_iload (k := 6) (p := 17) (by decide +kernel) rfl rfl ?_
      refine fs_iload_n (k := 2) (p := 18) (by decide +kernel) rfl rfl ?_
      by_cases c4 : x2 ≤ x6
      · rw [if_pos c4] at h
        refine fs_icmp_ge_t (off := 17) (t := 35) (by decide +kernel) (by decide +kernel) c4 ?_
        exact fe_2_35 hd 100000 _ _ _ _ _ _ _ h
      · rw [if_neg c4] at h
        refine fs_icmp_ge_f (off := 17) (t := 35) (p := 21) (by decide +kernel) (by decide +kernel) rfl c4 ?_
        refine fs_dload (k := 4) (p := 23) (by decide +kernel) rfl rfl ?_
        refine fs_ldc2d (idx := 13) (p := 26) (x := 4611686018427387904) (by decide +kernel) rfl (by decide +kernel) (by decide +kernel) ?_
        obtain ⟨z6, h⟩ := fx_gd h
        refine fs_ddiv (p := 27) (by decide +kernel) rfl z6 ?_
        refine fs_dstore (k := 4) (p := 29) (M := 9) (al' := [o0, none, some (.int x2), some (.int x3), some (.double (FP.ddiv x4 (4611686018427387904 : UInt64))), none, some (.int x6), none, none]) (by decide +kernel) rfl mx_2 rfl rfl ?_
        refine fs_iinc (k := 6) (n := 1) (p := 32) (M := 9) (al' := [o0, none, some (.int x2), some (.int x3), some (.double (FP.ddiv x4 (4611686018427387904 : UInt64))), none, some (.int (x6 + (1 : Int32))), none, none]) (by decide +kernel) rfl kc_1 mx_2 rfl rfl rfl ?_
        refine fs_goto (off := -26) (p := 6) (by decide +kernel) (by decide +kernel) ?_
        exact ih _ _ _ _ _ _ _ h
def fm_2 (x0 : UInt64) (x2 : Int32) (x3 : Int32) (σ : fx_S) : Option (Int64 × fx_S) :=
  fm_2_6 100000 x2 x3 x0 (0 : Int32) σ
theorem fe_2 {z : iv_Z} {d : Nat} (hd : 0 ≤ d) {x0 : UInt64} {x2 : Int32} {x3 : Int32} {σ : fx_S} {q : Int64 × fx_S} (h : fm_2 x0 x2 x3 σ = some q) : fx_E z 2 d 0 [some (.double x0), none, some (.int x2), some (.int x3), none, none, none, none, none] [] σ (some (.long q.1)) q.2 := by
  unfold fm_2 at h
  refine fs_dload_n (k := 0) (p := 1) (by decide +kernel) rfl rfl ?_
  refine fs_dstore (k := 4) (p := 3) (M := 9) (al' := [some (.double x0), none, some (.int x2), some (.int x3), some (.double x0), none, none, none, none]) (by decide +kernel) rfl mx_2 rfl rfl ?_
  refine fs_iconst (n := 0) (p := 4) (by decide +kernel) rfl kc_0 ?_
  refine fs_istore (k := 6) (p := 6) (M := 9) (al' := [some (.double x0), none, some (.int x2), some (.int x3), some (.double x0), none, some (.int (0 : Int32)), none, none]) (by decide +kernel) rfl mx_2 rfl rfl ?_
  exact fe_2_6 hd 100000 _ _ _ _ _ _ _ h

/-! ZoneShares$Bits.ofDouble(D)J -/
theorem mx_0 : iv_mx 0 = 2 := by decide +kernel
theorem rt_0 : iv_rt 0 = some .long := by decide +kernel
def fm_0 (x0 : UInt64) (σ : fx_S) : Option (Int64 × fx_S) :=
  (fm_2 x0 (1023 : Int32) (52 : Int32) σ).bind fun q4 =>
  some (q4.1, q4.2)
theorem fe_0 {z : iv_Z} {d : Nat} (hd : 1 ≤ d) {x0 : UInt64} {σ : fx_S} {q : Int64 × fx_S} (h : fm_0 x0 σ = some q) : fx_E z 0 d 0 [some (.double x0), none] [] σ (some (.long q.1)) q.2 := by
  unfold fm_0 at h
  refine fs_dload_n (k := 0) (p := 1) (by decide +kernel) rfl rfl ?_
  refine fs_sipush (n := 1023) (p := 4) (by decide +kernel) rfl ks_1023 ?_
  refine fs_bipush (n := 52) (p := 6) (by decide +kernel) rfl kb_52 ?_
  obtain ⟨q4, w3, h⟩ := fx_bd h
  refine fs_callS (idx := 9) (mj := 2) (na := 3) (mx := 9) (p := 9) (args := [.double x0, .int (1023 : Int32), .int (52 : Int32)]) (rest := []) (al2 := [some (.double x0), none, some (.int (1023 : Int32)), some (.int (52 : Int32)), none, none, none, none, none]) (by decide +kernel) rfl (by decide +kernel) rfl rfl rfl rfl rfl rfl rfl (by omega) (fun d' hd' => fe_2 (by omega) w3) rfl ?_
  have h := Option.some.inj h
  subst h
  exact fs_lret (by decide +kernel) rt_0

/-! ZoneShares$Bits.ofFloat(F)J -/
theorem mx_1 : iv_mx 1 = 1 := by decide +kernel
theorem rt_1 : iv_rt 1 = some .long := by decide +kernel
def fm_1 (x0 : UInt32) (σ : fx_S) : Option (Int64 × fx_S) :=
  if id_n6 (FP.f2d x0) = true then (
  (fm_2 (FP.f2d x0) (127 : Int32) (23 : Int32) σ).bind fun q8 =>
  some (q8.1, q8.2)) else none
theorem fe_1 {z : iv_Z} {d : Nat} (hd : 1 ≤ d) {x0 : UInt32} {σ : fx_S} {q : Int64 × fx_S} (h : fm_1 x0 σ = some q) : fx_E z 1 d 0 [some (.float x0)] [] σ (some (.long q.1)) q.2 := by
  unfold fm_1 at h
  refine fs_fload_n (k := 0) (p := 1) (by decide +kernel) rfl rfl ?_
  obtain ⟨z6, h⟩ := fx_gd h
  refine fs_f2d (p := 2) (by decide +kernel) rfl z6 ?_
  refine fs_bipush (n := 127) (p := 4) (by decide +kernel) rfl kb_127 ?_
  refine fs_bipush (n := 23) (p := 6) (by decide +kernel) rfl kb_23 ?_
  obtain ⟨q8, w7, h⟩ := fx_bd h
  refine fs_callS (idx := 9) (mj := 2) (na := 3) (mx := 9) (p := 9) (args := [.double (FP.f2d x0), .int (127 : Int32), .int (23 : Int32)]) (rest := []) (al2 := [some (.double (FP.f2d x0)), none, some (.int (127 : Int32)), some (.int (23 : Int32)), none, none, none, none, none]) (by decide +kernel) rfl (by decide +kernel) rfl rfl rfl rfl rfl rfl rfl (by omega) (fun d' hd' => fe_2 (by omega) w7) rfl ?_
  have h := Option.some.inj h
  subst h
  exact fs_lret (by decide +kernel) rt_1

/-! ZoneShares.dense(III)J -/
theorem mx_108 : iv_mx 108 = 8 := by decide +kernel
theorem rt_108 : iv_rt 108 = some .long := by decide +kernel
def fm_108_33 (σ : fx_S) : Option (Int64 × fx_S) :=
  some ((-9223372036854775808 : Int64), σ)
theorem fe_108_33 {z : iv_Z} {d : Nat} (hd : 6 ≤ d) (o0 : Option Value) (o1 : Option Value) (o2 : Option Value) (o3 : Option Value) (σ : fx_S) (q : Int64 × fx_S) (h : fm_108_33  σ = some q) : fx_E z 108 d 33 [o0, o1, o2, o3, none, none, none, none] [] σ (some (.long q.1)) q.2 := by
  unfold fm_108_33 at h
  refine fs_ldc2 (idx := 270) (p := 36) (x := -9223372036854775808) (by decide +kernel) rfl (by decide +kernel) ?_
  have h := Option.some.inj h
  subst h
  exact fs_lret (by decide +kernel) rt_108
def fm_108 (x1 : Int32) (x2 : Int32) (x3 : Int32) (σ : fx_S) : Option (Int64 × fx_S) :=
  (fm_114 x1 σ).bind fun q43 =>
  if (fx_b q43.1) = 0 then (
    fm_108_33 q43.2) else (
    (fm_115 x2 q43.2).bind fun q46 =>
    if (fx_b q46.1) = 0 then (
      fm_108_33 q46.2) else (
      (fm_57 1 q46.2).bind fun q49 =>
      if (fx_b q49.1) = 0 then (
        fm_108_33 q49.2) else (
        if x3 < 0 then (
          fm_108_33 q49.2) else (
          if x3 ≤ (3 : Int32) then (
            (fm_62 1 (1 : Int32) x2 q49.2).bind fun q55 =>
            if ¬ q55.1 = 0 then (
              (fx_ldr 4 70 x1).bind fun v58 =>
              (fm_19 v58 (2 : Int32) q55.2).bind fun q63 =>
              (fm_76 (v58 + 3) x2 q63).bind fun q65 =>
              if id_n6 (FP.ddiv (FP.i2d q65.1) (FP.i2d q55.1)) = true then (
              if x3 = (0 : Int32) then (
                (fm_0 (FP.ddiv (FP.i2d q65.1) (FP.i2d q55.1)) q65.2).bind fun q82 =>
                some (q82.1, q82.2)) else (
                if x3 = (1 : Int32) then (
                  if id_n3 (FP.d2f (FP.ddiv (FP.i2d q65.1) (FP.i2d q55.1))) = true then (
                  (fm_1 (FP.d2f (FP.ddiv (FP.i2d q65.1) (FP.i2d q55.1))) q65.2).bind fun q80 =>
                  some (q80.1, q80.2)) else none) else (
                  if x3 = (2 : Int32) then (
                    if id_n6 (FP.dsub (FP.ddiv (FP.i2d q65.1) (FP.i2d q55.1)) (FP.l2d (FP.d2l (FP.ddiv (FP.i2d q65.1) (FP.i2d q55.1))))) = true then (
                    (fm_0 (FP.dsub (FP.ddiv (FP.i2d q65.1) (FP.i2d q55.1)) (FP.l2d (FP.d2l (FP.ddiv (FP.i2d q65.1) (FP.i2d q55.1))))) q65.2).bind fun q76 =>
                    some (q76.1, q76.2)) else none) else (
                    if id_n6 (FP.ddiv (FP.ddiv (FP.i2d q65.1) (FP.i2d q55.1)) (4602678819172646912 : UInt64)) = true then (
                    some ((FP.d2l (FP.ddiv (FP.ddiv (FP.i2d q65.1) (FP.i2d q55.1)) (4602678819172646912 : UInt64))), q65.2)) else none)))) else none) else (
              some ((-9223372036854775808 : Int64), q55.2))) else (
            fm_108_33 q49.2)))))
theorem fe_108 {z : iv_Z} {d : Nat} (hd : 6 ≤ d) {x1 : Int32} {x2 : Int32} {x3 : Int32} {σ : fx_S} {q : Int64 × fx_S} (h : fm_108 x1 x2 x3 σ = some q) : fx_E z 108 d 0 [some (.ref 0), some (.int x1), some (.int x2), some (.int x3), none, none, none, none] [] σ (some (.long q.1)) q.2 := by
  unfold fm_108 at h
  refine fs_iload_n (k := 1) (p := 1) (by decide +kernel) rfl rfl ?_
  obtain ⟨q43, w42, h⟩ := fx_bd h
  refine fs_callS (idx := 94) (mj := 114) (na := 1) (mx := 1) (p := 4) (args := [.int x1]) (rest := []) (al2 := [some (.int x1)]) (by decide +kernel) rfl (by decide +kernel) rfl rfl rfl rfl rfl rfl rfl (by omega) (fun d' hd' => fe_114 (by omega) w42) rfl ?_
  by_cases c44 : (fx_b q43.1) = 0
  · rw [if_pos c44] at h
    refine fs_if_eq_t (off := 29) (t := 33) (by decide +kernel) (by decide +kernel) c44 ?_
    exact fe_108_33 hd _ _ _ _ _ _ h
  · rw [if_neg c44] at h
    refine fs_if_eq_f (off := 29) (t := 33) (p := 7) (by decide +kernel) (by decide +kernel) rfl c44 ?_
    refine fs_iload_n (k := 2) (p := 8) (by decide +kernel) rfl rfl ?_
    obtain ⟨q46, w45, h⟩ := fx_bd h
    refine fs_callS (idx := 128) (mj := 115) (na := 1) (mx := 1) (p := 11) (args := [.int x2]) (rest := []) (al2 := [some (.int x2)]) (by decide +kernel) rfl (by decide +kernel) rfl rfl rfl rfl rfl rfl rfl (by omega) (fun d' hd' => fe_115 (by omega) w45) rfl ?_
    by_cases c47 : (fx_b q46.1) = 0
    · rw [if_pos c47] at h
      refine fs_if_eq_t (off := 22) (t := 33) (by decide +kernel) (by decide +kernel) c47 ?_
      exact fe_108_33 hd _ _ _ _ _ _ h
    · rw [if_neg c47] at h
      refine fs_if_eq_f (off := 22) (t := 33) (p := 14) (by decide +kernel) (by decide +kernel) rfl c47 ?_
      refine fs_aload_n (k := 0) (p := 15) (by decide +kernel) rfl rfl ?_
      refine fs_gfr (idx := 13) (ci := 9) (j := 1) (p := 18) (by decide +kernel) rfl (by decide +kernel) fo_0 (fr_a0_1) ?_
      obtain ⟨q49, w48, h⟩ := fx_bd h
      refine fs_callV (idx := 146) (mj := 57) (ci := 6) (na := 0) (mx := 1) (p := 21) (args := [.ref 1]) (rest := []) (al2 := [some (.ref 1)]) (by decide +kernel) rfl (by decide +kernel) fo_1 rfl rfl rfl rfl rfl rfl rfl (by omega) (fun d' hd' => fe_57 (by omega) w48) rfl ?_
      by_cases c50 : (fx_b q49.1) = 0
      · rw [if_pos c50] at h
        refine fs_if_eq_t (off := 12) (t := 33) (by decide +kernel) (by decide +kernel) c50 ?_
        exact fe_108_33 hd _ _ _ _ _ _ h
      · rw [if_neg c50] at h
        refine fs_if_eq_f (off := 12) (t := 33) (p := 24) (by decide +kernel) (by decide +kernel) rfl c50 ?_
        refine fs_iload_n (k := 3) (p := 25) (by decide +kernel) rfl rfl ?_
        by_cases c52 : x3 < 0
        · rw [if_pos c52] at h
          refine fs_if_lt_t (off := 8) (t := 33) (by decide +kernel) (by decide +kernel) c52 ?_
          exact fe_108_33 hd _ _ _ _ _ _ h
        · rw [if_neg c52] at h
          refine fs_if_lt_f (off := 8) (t := 33) (p := 28) (by decide +kernel) (by decide +kernel) rfl c52 ?_
          refine fs_iload_n (k := 3) (p := 29) (by decide +kernel) rfl rfl ?_
          refine fs_iconst (n := 3) (p := 30) (by decide +kernel) rfl kc_3 ?_
          by_cases c53 : x3 ≤ (3 : Int32)
          · rw [if_pos c53] at h
            refine fs_icmp_le_t (off := 7) (t := 37) (by decide +kernel) (by decide +kernel) c53 ?_
            refine fs_aload_n (k := 0) (p := 38) (by decide +kernel) rfl rfl ?_
            refine fs_gfr (idx := 13) (ci := 9) (j := 1) (p := 41) (by decide +kernel) rfl (by decide +kernel) fo_0 (fr_a0_1) ?_
            refine fs_iconst (n := 1) (p := 42) (by decide +kernel) rfl kc_1 ?_
            refine fs_iload_n (k := 2) (p := 43) (by decide +kernel) rfl rfl ?_
            obtain ⟨q55, w54, h⟩ := fx_bd h
            refine fs_callV (idx := 272) (mj := 62) (ci := 6) (na := 2) (mx := 6) (p := 46) (args := [.ref 1, .int (1 : Int32), .int x2]) (rest := []) (al2 := [some (.ref 1), some (.int (1 : Int32)), some (.int x2), none, none, none]) (by decide +kernel) rfl (by decide +kernel) fo_1 rfl rfl rfl rfl rfl rfl rfl (by omega) (fun d' hd' => fe_62 (by omega) w54) rfl ?_
            refine fs_istore (k := 4) (p := 48) (M := 8) (al' := [some (.ref 0), some (.int x1), some (.int x2), some (.int x3), some (.int q55.1), none, none, none]) (by decide +kernel) rfl mx_108 rfl rfl ?_
            refine fs_iload (k := 4) (p := 50) (by decide +kernel) rfl rfl ?_
            by_cases c57 : ¬ q55.1 = 0
            · rw [if_pos c57] at h
              refine fs_if_ne_t (off := 7) (t := 57) (by decide +kernel) (by decide +kernel) c57 ?_
              refine fs_aload_n (k := 0) (p := 58) (by decide +kernel) rfl rfl ?_
              refine fs_gfr (idx := 60) (ci := 9) (j := 6) (p := 61) (by decide +kernel) rfl (by decide +kernel) fo_0 (fr_a0_6) ?_
              refine fs_iload_n (k := 1) (p := 62) (by decide +kernel) rfl rfl ?_
              obtain ⟨v58, w59, h⟩ := fx_bd h
              have g60 := fa_70 w59
              refine fs_aaload (t := 4) (p := 63) (by decide +kernel) rfl (by decide +kernel) w59 ?_
              refine fs_astore (k := 5) (p := 65) (M := 8) (al' := [some (.ref 0), some (.int x1), some (.int x2), some (.int x3), some (.int q55.1), some (.ref v58), none, none]) (by decide +kernel) rfl mx_108 rfl rfl ?_
              refine fs_aload (k := 5) (p := 67) (by decide +kernel) rfl rfl ?_
              refine fs_iconst (n := 2) (p := 68) (by decide +kernel) rfl kc_2 ?_
              obtain ⟨q63, w62, h⟩ := fx_bd h
              refine fs_callV (idx := 150) (mj := 19) (ci := 2) (na := 1) (mx := 2) (p := 71) (args := [.ref v58, .int (2 : Int32)]) (rest := []) (al2 := [some (.ref v58), some (.int (2 : Int32))]) (by decide +kernel) rfl (by decide +kernel) g60 rfl rfl rfl rfl rfl rfl rfl (by omega) (fun d' hd' => fe_19 (by omega) w62) rfl ?_
              refine fs_pop (p := 72) (by decide +kernel) rfl rfl ?_
              refine fs_aload (k := 5) (p := 74) (by decide +kernel) rfl rfl ?_
              refine fs_gfr (idx := 202) (ci := 2) (j := 2) (p := 77) (by decide +kernel) rfl (by decide +kernel) g60 (fr_2_2 g60) ?_
              refine fs_iload_n (k := 2) (p := 78) (by decide +kernel) rfl rfl ?_
              obtain ⟨q65, w64, h⟩ := fx_bd h
              refine fs_callV (idx := 237) (mj := 76) (ci := 7) (na := 1) (mx := 4) (p := 81) (args := [.ref (v58 + 3), .int x2]) (rest := []) (al2 := [some (.ref (v58 + 3)), some (.int x2), none, none]) (by decide +kernel) rfl (by decide +kernel) (fg_2_2 g60) rfl rfl rfl rfl rfl rfl rfl (by omega) (fun d' hd' => fe_76 (by omega) w64) rfl ?_
              refine fs_i2d (p := 82) (by decide +kernel) rfl ?_
              refine fs_iload (k := 4) (p := 84) (by decide +kernel) rfl rfl ?_
              refine fs_i2d (p := 85) (by decide +kernel) rfl ?_
              obtain ⟨z67, h⟩ := fx_gd h
              refine fs_ddiv (p := 86) (by decide +kernel) rfl z67 ?_
              refine fs_dstore (k := 6) (p := 88) (M := 8) (al' := [some (.ref 0), some (.int x1), some (.int x2), some (.int x3), some (.int q55.1), some (.ref v58), some (.double (FP.ddiv (FP.i2d q65.1) (FP.i2d q55.1))), none]) (by decide +kernel) rfl mx_108 rfl rfl ?_
              refine fs_iload_n (k := 3) (p := 89) (by decide +kernel) rfl rfl ?_
              by_cases c68 : x3 = (0 : Int32)
              · rw [if_pos c68] at h
                refine fs_tsw_h (dflt := 51) (lo := 0) (hi := 2) (offs := #[27, 33, 40]) (x := x3) (j := 0) (t := 116) (by decide +kernel) (by decide +kernel) (by decide) (c68.trans (by decide)) ?_
                refine fs_dload (k := 6) (p := 118) (by decide +kernel) rfl rfl ?_
                obtain ⟨q82, w81, h⟩ := fx_bd h
                refine fs_callS (idx := 275) (mj := 0) (na := 1) (mx := 2) (p := 121) (args := [.double (FP.ddiv (FP.i2d q65.1) (FP.i2d q55.1))]) (rest := []) (al2 := [some (.double (FP.ddiv (FP.i2d q65.1) (FP.i2d q55.1))), none]) (by decide +kernel) rfl (by decide +kernel) rfl rfl rfl rfl rfl rfl rfl (by omega) (fun d' hd' => fe_0 (by omega) w81) rfl ?_
                have h := Option.some.inj h
                subst h
                exact fs_lret (by decide +kernel) rt_108
              · rw [if_neg c68] at h
                by_cases c69 : x3 = (1 : Int32)
                · rw [if_pos c69] at h
                  refine fs_tsw_h (dflt := 51) (lo := 0) (hi := 2) (offs := #[27, 33, 40]) (x := x3) (j := 1) (t := 122) (by decide +kernel) (by decide +kernel) (by decide) (c69.trans (by decide)) ?_
                  refine fs_dload (k := 6) (p := 124) (by decide +kernel) rfl rfl ?_
                  obtain ⟨z78, h⟩ := fx_gd h
                  refine fs_d2f (p := 125) (by decide +kernel) rfl z78 ?_
                  obtain ⟨q80, w79, h⟩ := fx_bd h
                  refine fs_callS (idx := 281) (mj := 1) (na := 1) (mx := 1) (p := 128) (args := [.float (FP.d2f (FP.ddiv (FP.i2d q65.1) (FP.i2d q55.1)))]) (rest := []) (al2 := [some (.float (FP.d2f (FP.ddiv (FP.i2d q65.1) (FP.i2d q55.1))))]) (by decide +kernel) rfl (by decide +kernel) rfl rfl rfl rfl rfl rfl rfl (by omega) (fun d' hd' => fe_1 (by omega) w79) rfl ?_
                  have h := Option.some.inj h
                  subst h
                  exact fs_lret (by decide +kernel) rt_108
                · rw [if_neg c69] at h
                  by_cases c70 : x3 = (2 : Int32)
                  · rw [if_pos c70] at h
                    refine fs_tsw_h (dflt := 51) (lo := 0) (hi := 2) (offs := #[27, 33, 40]) (x := x3) (j := 2) (t := 129) (by decide +kernel) (by decide +kernel) (by decide) (c70.trans (by decide)) ?_
                    refine fs_dload (k := 6) (p := 131) (by decide +kernel) rfl rfl ?_
                    refine fs_dload (k := 6) (p := 133) (by decide +kernel) rfl rfl ?_
                    refine fs_d2l (p := 134) (by decide +kernel) rfl ?_
                    refine fs_l2d (p := 135) (by decide +kernel) rfl ?_
                    obtain ⟨z74, h⟩ := fx_gd h
                    refine fs_dsub (p := 136) (by decide +kernel) rfl z74 ?_
                    obtain ⟨q76, w75, h⟩ := fx_bd h
                    refine fs_callS (idx := 275) (mj := 0) (na := 1) (mx := 2) (p := 139) (args := [.double (FP.dsub (FP.ddiv (FP.i2d q65.1) (FP.i2d q55.1)) (FP.l2d (FP.d2l (FP.ddiv (FP.i2d q65.1) (FP.i2d q55.1)))))]) (rest := []) (al2 := [some (.double (FP.dsub (FP.ddiv (FP.i2d q65.1) (FP.i2d q55.1)) (FP.l2d (FP.d2l (FP.ddiv (FP.i2d q65.1) (FP.i2d q55.1)))))), none]) (by decide +kernel) rfl (by decide +kernel) rfl rfl rfl rfl rfl rfl rfl (by omega) (fun d' hd' => fe_0 (by omega) w75) rfl ?_
                    have h := Option.some.inj h
                    subst h
                    exact fs_lret (by decide +kernel) rt_108
                  · rw [if_neg c70] at h
                    refine fs_tsw_d (dflt := 51) (lo := 0) (hi := 2) (offs := #[27, 33, 40]) (x := x3) (t := 140) (by decide +kernel) (by decide +kernel) (by decide) (by decide) (fun j hj => by match j, hj with | 0, _ => exact c68 | 1, _ => exact c69 | 2, _ => exact c70) ?_
                    refine fs_dload (k := 6) (p := 142) (by decide +kernel) rfl rfl ?_
                    refine fs_ldc2d (idx := 285) (p := 145) (x := 4602678819172646912) (by decide +kernel) rfl (by decide +kernel) (by decide +kernel) ?_
                    obtain ⟨z72, h⟩ := fx_gd h
                    refine fs_ddiv (p := 146) (by decide +kernel) rfl z72 ?_
                    refine fs_d2l (p := 147) (by decide +kernel) rfl ?_
                    have h := Option.some.inj h
                    subst h
                    exact fs_lret (by decide +kernel) rt_108
            · rw [if_neg c57] at h
              refine fs_if_ne_f (off := 7) (t := 57) (p := 53) (by decide +kernel) (by decide +kernel) rfl c57 ?_
              refine fs_ldc2 (idx := 270) (p := 56) (x := -9223372036854775808) (by decide +kernel) rfl (by decide +kernel) ?_
              have h := Option.some.inj h
              subst h
              exact fs_lret (by decide +kernel) rt_108
          · rw [if_neg c53] at h
            refine fs_icmp_le_f (off := 7) (t := 37) (p := 33) (by decide +kernel) (by decide +kernel) rfl c53 ?_
            exact fe_108_33 hd _ _ _ _ _ _ h

