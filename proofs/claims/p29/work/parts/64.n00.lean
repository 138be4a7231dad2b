/-! ZoneShares$Bits.of(DII)J -/
theorem mx_2 : iv_mx 2 = 9 := by decide +kernel
theorem rt_2 : iv_rt 2 = some .long := by decide +kernel
def fm_2_64 (x2 : Int32) (x3 : Int32) (x4 : UInt64) (x6 : Int32) (σ : fx_S) : Option (Int64 × fx_S) :=
  if 0 ≤ (Op.cmpValue (FP.dcmp x4 FP.dconst1) .g) then (
    if id_n6 (FP.dsub x4 FP.dconst1) = true then (
    if id_n6 (FP.dmul (FP.dsub x4 FP.dconst1) (FP.l2d ((1 : Int64) <<< ((x3).toInt64 &&& 63)))) = true then (
    some (((((x6 + x2)).toInt64 <<< ((x3).toInt64 &&& 63)) + (FP.d2l (FP.dmul (FP.dsub x4 FP.dconst1) (FP.l2d ((1 : Int64) <<< ((x3).toInt64 &&& 63)))))), σ)) else none) else none) else (
    if id_n6 (FP.dmul x4 (FP.l2d ((1 : Int64) <<< ((x3).toInt64 &&& 63)))) = true then (
    some ((FP.d2l (FP.dmul x4 (FP.l2d ((1 : Int64) <<< ((x3).toInt64 &&& 63))))), σ)) else none)
theorem fe_2_64 {d : Nat} (hd : 0 ≤ d) (x2 : Int32) (x3 : Int32) (x4 : UInt64) (x6 : Int32) (o0 : Option Value) (σ : fx_S) (q : Int64 × fx_S) (h : fm_2_64  x2 x3 x4 x6 σ = some q) : fx_E none 2 d 64 [o0, none, some (.int x2), some (.int x3), some (.double x4), none, some (.int x6), none, none] [] σ (some (.long q.1)) q.2 := by
  unfold fm_2_64 at h
  refine fs_lconst (n := 1) (p := 65) (by decide +kernel) rfl kl_1 ?_
  refine fs_iload_n (k := 3) (p := 66) (by decide +kernel) rfl rfl ?_
  refine fs_lshl (p := 67) (by decide +kernel) rfl ?_
  refine fs_l2d (p := 68) (by decide +kernel) rfl ?_
  refine fs_dstore (k := 7) (p := 70) (M := 9) (al' := [o0, none, some (.int x2), some (.int x3), some (.double x4), none, some (.int x6), some (.double (FP.l2d ((1 : Int64) <<< ((x3).toInt64 &&& 63)))), none]) (by decide +kernel) rfl mx_2 rfl rfl ?_
  refine fs_dload (k := 4) (p := 72) (by decide +kernel) rfl rfl ?_
  refine fs_dconst (n := 1) (p := 73) (by decide +kernel) rfl rfl ?_
  refine fs_dcmp (c := .g) (p := 74) (by decide +kernel) rfl ?_
  by_cases c1 : 0 ≤ (Op.cmpValue (FP.dcmp x4 FP.dconst1) .g)
  · rw [if_pos c1] at h
    refine fs_if_ge_t (off := 10) (t := 84) (by decide +kernel) (by decide +kernel) c1 ?_
    refine fs_iload (k := 6) (p := 86) (by decide +kernel) rfl rfl ?_
    refine fs_iload_n (k := 2) (p := 87) (by decide +kernel) rfl rfl ?_
    refine fs_iadd (p := 88) (by decide +kernel) rfl ?_
    refine fs_i2l (p := 89) (by decide +kernel) rfl ?_
    refine fs_iload_n (k := 3) (p := 90) (by decide +kernel) rfl rfl ?_
    refine fs_lshl (p := 91) (by decide +kernel) rfl ?_
    refine fs_dload (k := 4) (p := 93) (by decide +kernel) rfl rfl ?_
    refine fs_dconst (n := 1) (p := 94) (by decide +kernel) rfl rfl ?_
    obtain ⟨z4, h⟩ := fx_gd h
    refine fs_dsub (p := 95) (by decide +kernel) rfl z4 ?_
    refine fs_dload (k := 7) (p := 97) (by decide +kernel) rfl rfl ?_
    obtain ⟨z6, h⟩ := fx_gd h
    refine fs_dmul (p := 98) (by decide +kernel) rfl z6 ?_
    refine fs_d2l (p := 99) (by decide +kernel) rfl ?_
    refine fs_ladd (p := 100) (by decide +kernel) rfl ?_
    have h := Option.some.inj h
    subst h
    exact fs_lret (by decide +kernel) rt_2
  · rw [if_neg c1] at h
    refine fs_if_ge_f (off := 10) (t := 84) (p := 77) (by decide +kernel) (by decide +kernel) rfl c1 ?_
    refine fs_dload (k := 4) (p := 79) (by decide +kernel) rfl rfl ?_
    refine fs_dload (k := 7) (p := 81) (by decide +kernel) rfl rfl ?_
    obtain ⟨z8, h⟩ := fx_gd h
    refine fs_dmul (p := 82) (by decide +kernel) rfl z8 ?_
    refine fs_d2l (p := 83) (by decide +kernel) rfl ?_
    have h := Option.some.inj h
    subst h
    exact fs_lret (by decide +kernel) rt_2
def fm_2_35 : Nat → Int32 → Int32 → UInt64 → Int32 → fx_S → Option (Int64 × fx_S)
  | 0, _, _, _, _, _ => none
  | n + 1, x2, x3, x4, x6, σ =>
    if 0 ≤ (Op.cmpValue (FP.dcmp x4 FP.dconst1) .g) then (
      fm_2_64 x2 x3 x4 x6 σ) else (
      if x6 ≤ ((1 : Int32) - x2) then (
        fm_2_64 x2 x3 x4 x6 σ) else (
        if id_n6 (FP.dmul x4 (4611686018427387904 : UInt64)) = true then (
        fm_2_35 n x2 x3 (FP.dmul x4 (4611686018427387904 : UInt64)) (x6 + (-1 : Int32)) σ) else none))
theorem fe_2_35 {d : Nat} (hd : 0 ≤ d) : ∀ (n : Nat) (x2 : Int32) (x3 : Int32) (x4 : UInt64) (x6 : Int32) (o0 : Option Value) (σ : fx_S) (q : Int64 × fx_S), fm_2_35 n x2 x3 x4 x6 σ = some q → fx_E none 2 d 35 [o0, none, some (.int x2), some (.int x3), some (.double x4), none, some (.int x6), none, none] [] σ (some (.long q.1)) q.2 := by
  intro n
  induction n with
  | zero =>
    intro x2 x3 x4 x6 o0 σ q  h
    rw [fm_2_35] at h
    exact fx_no h
  | succ n ih =>
    intro x2 x3 x4 x6 o0 σ q  h
    rw [fm_2_35] at h
    refine fs_dload (k := 4) (p := 37) (by decide +kernel) rfl rfl ?_
    refine fs_dconst (n := 1) (p := 38) (by decide +kernel) rfl rfl ?_
    refine fs_dcmp (c := .g) (p := 39) (by decide +kernel) rfl ?_
    by_cases c1 : 0 ≤ (Op.cmpValue (FP.dcmp x4 FP.dconst1) .g)
    · rw [if_pos c1] at h
      refine fs_if_ge_t (off := 25) (t := 64) (by decide +kernel) (by decide +kernel) c1 ?_
      exact fe_2_64 hd _ _ _ _ _ _ _ h
    · rw [if_neg c1] at h
      refine fs_if_ge_f (off := 25) (t := 64) (p := 42) (by decide +kernel) (by decide +kernel) rfl c1 ?_
      refine fs_iload (k := 6) (p := 44) (by decide +kernel) rfl rfl ?_
      refine fs_iconst (n := 1) (p := 45) (by decide +kernel) rfl kc_1 ?_
      refine fs_iload_n (k := 2) (p := 46) (by decide +kernel) rfl rfl ?_
      refine fs_isub (p := 47) (by decide +kernel) rfl ?_
      by_cases c4 : x6 ≤ ((1 : Int32) - x2)
      · rw [if_pos c4] at h
        refine fs_icmp_le_t (off := 17) (t := 64) (by decide +kernel) (by decide +kernel) c4 ?_
        exact fe_2_64 hd _ _ _ _ _ _ _ h
      · rw [if_neg c4] at h
        refine fs_icmp_le_f (off := 17) (t := 64) (p := 50) (by decide +kernel) (by decide +kernel) rfl c4 ?_
        refine fs_dload (k := 4) (p := 52) (by decide +kernel) rfl rfl ?_
        refine fs_ldc2d (idx := 13) (p := 55) (x := 4611686018427387904) (by decide +kernel) rfl (by decide +kernel) (by decide +kernel) ?_
        obtain ⟨z6, h⟩ := fx_gd h
        refine fs_dmul (p := 56) (by decide +kernel) rfl z6 ?_
        refine fs_dstore (k := 4) (p := 58) (M := 9) (al' := [o0, none, some (.int x2), some (.int x3), some (.double (FP.dmul x4 (4611686018427387904 : UInt64))), none, some (.int x6), none, none]) (by decide +kernel) rfl mx_2 rfl rfl ?_
        refine fs_iinc (k := 6) (n := -1) (p := 61) (M := 9) (al' := [o0, none, some (.int x2), some (.int x3), some (.double (FP.dmul x4 (4611686018427387904 : UInt64))), none, some (.int (x6 + (-1 : Int32))), none, none]) (by decide +kernel) rfl kc_m1 mx_2 rfl rfl rfl ?_
        refine fs_goto (off := -26) (p := 35) (by decide +kernel) (by decide +kernel) ?_
        exact ih _ _ _ _ _ _ _ h
def fm_2_6 : Nat → Int32 → Int32 → UInt64 → Int32 → fx_S → Option (Int64 × fx_S)
  | 0, _, _, _, _, _ => none
  | n + 1, x2, x3, x4, x6, σ =>
    if (Op.cmpValue (FP.dcmp x4 (4611686018427387904 : UInt64)) .l) < 0 then (
      fm_2_35 100000 x2 x3 x4 x6 σ) else (
      if x2 ≤ x6 then (
        fm_2_35 100000 x2 x3 x4 x6 σ) else (
        if id_n6 (FP.ddiv x4 (4611686018427387904 : UInt64)) = true then (
        fm_2_6 n x2 x3 (FP.ddiv x4 (4611686018427387904 : UInt64)) (x6 + (1 : Int32)) σ) else none))
theorem fe_2_6 {d : Nat} (hd : 0 ≤ d) : ∀ (n : Nat) (x2 : Int32) (x3 : Int32) (x4 : UInt64) (x6 : Int32) (o0 : Option Value) (σ : fx_S) (q : Int64 × fx_S), fm_2_6 n x2 x3 x4 x6 σ = some q → fx_E none 2 d 6 [o0, none, some (.int x2), some (.int x3), some (.double x4), none, some (.int x6), none, none] [] σ (some (.long q.1)) q.2 := by
  intro n
  induction n with
  | zero =>
    intro x2 x3 x4 x6 o0 σ q  h
    rw [fm_2_6] at h
    exact fx_no h
  | succ n ih =>
    intro x2 x3 x4 x6 o0 σ q  h
    rw [fm_2_6] at h
    refine fs_dload (k := 4) (p := 8) (by decide +kernel) rfl rfl ?_
    refine fs_ldc2d (idx := 13) (p := 11) (x := 4611686018427387904) (by decide +kernel) rfl (by decide +kernel) (by decide +kernel) ?_
    refine fs_dcmp (c := .l) (p := 12) (by decide +kernel) rfl ?_
    by_cases c1 : (Op.cmpValue (FP.dcmp x4 (4611686018427387904 : UInt64)) .l) < 0
    · rw [if_pos c1] at h
      refine fs_if_lt_t (off := 23) (t := 35) (by decide +kernel) (by decide +kernel) c1 ?_
      exact fe_2_35 hd 100000 _ _ _ _ _ _ _ h
    · rw [if_neg c1] at h
      refine fs_if_lt_f (off := 23) (t := 35) (p := 15) (by decide +kernel) (by decide +kernel) rfl c1 ?_
      refine fs_iload (k := 6) (p := 17) (by decide +kernel) rfl rfl ?_
      refine fs_iload_n (k := 2) (p := 18) (by decide +kernel) rfl rfl ?_
      by_cases c4 : x2 ≤ x6
      · rw [if_pos c4] at h
        refine fs_icmp_ge_t (off := 17) (t := 35) (by decide +kernel) (by decide +kernel) c4 ?_
        exact fe_2_35 hd 100000 _ _ _ _ _ _ _ h
      · rw [if_neg c4] at h
        refine fs_icmp_ge_f (off := 17) (t := 35) (p := 21) (by decide +kernel) (by decide +kernel) rfl c4 ?_
        refine fs_dload (k := 4) (p := 23) (by decide +kernel) rfl rfl ?_
        refine fs_ldc2d (idx := 13) (p := 26) (x := 4611686018427387904) (by decide +kernel) rfl (by decide +kernel) (by decide +kernel) ?_
        obtain ⟨z6, h⟩ := fx_gd h
        refine fs_ddiv (p := 27) (by decide +kernel) rfl z6 ?_
        refine fs_dstore (k := 4) (p := 29) (M := 9) (al' := [o0, none, some (.int x2), some (.int x3), some (.double (FP.ddiv x4 (4611686018427387904 : UInt64))), none, some (.int x6), none, none]) (by decide +kernel) rfl mx_2 rfl rfl ?_
        refine fs_iinc (k := 6) (n := 1) (p := 32) (M := 9) (al' := [o0, none, some (.int x2), some (.int x3), some (.double (FP.ddiv x4 (4611686018427387904 : UInt64))), none, some (.int (x6 + (1 : Int32))), none, none]) (by decide +kernel) rfl kc_1 mx_2 rfl rfl rfl ?_
        refine fs_goto (off := -26) (p := 6) (by decide +kernel) (by decide +kernel) ?_
        exact ih _ _ _ _ _ _ _ h
def fm_2 (x0 : UInt64) (x2 : Int32) (x3 : Int32) (σ : fx_S) : Option (Int64 × fx_S) :=
  fm_2_6 100000 x2 x3 x0 (0 : Int32) σ
theorem fe_2 {d : Nat} (hd : 0 ≤ d) {x0 : UInt64} {x2 : Int32} {x3 : Int32} {σ : fx_S} {q : Int64 × fx_S} (h : fm_2 x0 x2 x3 σ = some q) : fx_E none 2 d 0 [some (.double x0), none, some (.int x2), some (.int x3), none, none, none, none, none] [] σ (some (.long q.1)) q.2 := by
  unfold fm_2 at h
  refine fs_dload_n (k := 0) (p := 1) (by decide +kernel) rfl rfl ?_
  refine fs_dstore (k := 4) (p := 3) (M := 9) (al' := [some (.double x0), none, some (.int x2), some (.int x3), some (.double x0), none, none, none, none]) (by decide +kernel) rfl mx_2 rfl rfl ?_
  refine fs_iconst (n := 0) (p := 4) (by decide +kernel) rfl kc_0 ?_
  refine fs_istore (k := 6) (p := 6) (M := 9) (al' := [some (.double x0), none, some (.int x2), some (.int x3), some (.double x0), none, some (.int (0 : Int32)), none, none]) (by decide +kernel) rfl mx_2 rfl rfl ?_
  exact fe_2_6 hd 100000 _ _ _ _ _ _ _ h

/-! ZoneShares$Bits.ofDouble(D)J -/
theorem mx_0 : iv_mx 0 = 2 := by decide +kernel
theorem rt_0 : iv_rt 0 = some .long := by decide +kernel
def fm_0 (x0 : UInt64) (σ : fx_S) : Option (Int64 × fx_S) :=
  (fm_2 x0 (1023 : Int32) (52 : Int32) σ).bind fun q4 =>
  some (q4.1, q4.2)
theorem fe_0 {d : Nat} (hd : 1 ≤ d) {x0 : UInt64} {σ : fx_S} {q : Int64 × fx_S} (h : fm_0 x0 σ = some q) : fx_E none 0 d 0 [some (.double x0), none] [] σ (some (.long q.1)) q.2 := by
  unfold fm_0 at h
  refine fs_dload_n (k := 0) (p := 1) (by decide +kernel) rfl rfl ?_
  refine fs_sipush (n := 1023) (p := 4) (by decide +kernel) rfl ks_1023 ?_
  refine fs_bipush (n := 52) (p := 6) (by decide +kernel) rfl kb_52 ?_
  obtain ⟨q4, w3, h⟩ := fx_bd h
  refine fs_callS (idx := 9) (mj := 2) (na := 3) (mx := 9) (p := 9) (args := [.double x0, .int (1023 : Int32), .int (52 : Int32)]) (rest := []) (al2 := [some (.double x0), none, some (.int (1023 : Int32)), some (.int (52 : Int32)), none, none, none, none, none]) (by decide +kernel) rfl (by decide +kernel) rfl rfl rfl rfl rfl rfl rfl (by omega) (fun d' hd' => fe_2 (by omega) w3) rfl ?_
  have h := Option.some.inj h
  subst h
  exact fs_lret (by decide +kernel) rt_0

/-! ZoneShares$Bits.ofFloat(F)J -/
theorem mx_1 : iv_mx 1 = 1 := by decide +kernel
theorem rt_1 : iv_rt 1 = some .long := by decide +kernel
def fm_1 (x0 : UInt32) (σ : fx_S) : Option (Int64 × fx_S) :=
  if id_n6 (FP.f2d x0) = true then (
  (fm_2 (FP.f2d x0) (127 : Int32) (23 : Int32) σ).bind fun q8 =>
  some (q8.1, q8.2)) else none
theorem fe_1 {d : Nat} (hd : 1 ≤ d) {x0 : UInt32} {σ : fx_S} {q : Int64 × fx_S} (h : fm_1 x0 σ = some q) : fx_E none 1 d 0 [some (.float x0)] [] σ (some (.long q.1)) q.2 := by
  unfold fm_1 at h
  refine fs_fload_n (k := 0) (p := 1) (by decide +kernel) rfl rfl ?_
  obtain ⟨z6, h⟩ := fx_gd h
  refine fs_f2d (p := 2) (by decide +kernel) rfl z6 ?_
  refine fs_bipush (n := 127) (p := 4) (by decide +kernel) rfl kb_127 ?_
  refine fs_bipush (n := 23) (p := 6) (by decide +kernel) rfl kb_23 ?_
  obtain ⟨q8, w7, h⟩ := fx_bd h
  refine fs_callS (idx := 9) (mj := 2) (na := 3) (mx := 9) (p := 9) (args := [.double (FP.f2d x0), .int (127 : Int32), .int (23 : Int32)]) (rest := []) (al2 := [some (.double (FP.f2d x0)), none, some (.int (127 : Int32)), some (.int (23 : Int32)), none, none, none, none, none]) (by decide +kernel) rfl (by decide +kernel) rfl rfl rfl rfl rfl rfl rfl (by omega) (fun d' hd' => fe_2 (by omega) w7) rfl ?_
  have h := Option.some.inj h
  subst h
  exact fs_lret (by decide +kernel) rt_1

/-! ZoneShares.dense(III)J -/
theorem mx_108 : iv_mx 108 = 8 := by decide +kernel
theorem rt_108 : iv_rt 108 = some .long := by decide +kernel
def fm_108_33 (σ : fx_S) : Option (Int64 × fx_S) :=
  some ((-9223372036854775808 : Int64), σ)
theorem fe_108_33 {d : Nat} (hd : 6 ≤ d) (o0 : Option Value) (o1 : Option Value) (o2 : Option Value) (o3 : Option Value) (σ : fx_S) (q : Int64 × fx_S) (h : fm_108_33  σ = some q) : fx_E none 108 d 33 [o0, o1, o2, o3, none, none, none, none] [] σ (some (.long q.1)) q.2 := by
  unfold fm_108_33 at h
  refine fs_ldc2 (idx := 270) (p := 36) (x := -9223372036854775808) (by decide +kernel) rfl (by decide +kernel) ?_
  have h := Option.some.inj h
  subst h
  exact fs_lret (by decide +kernel) rt_108
def fm_108 (x1 : Int32) (x2 : Int32) (x3 : Int32) (σ : fx_S) : Option (Int64 × fx_S) :=
  (fm_114 x1 σ).bind fun q43 =>
  if (fx_b q43.1) = 0 then (
    fm_108_33 q43.2) else (
    (fm_115 x2 q43.2).bind fun q46 =>
    if (fx_b q46.1) = 0 then (
      fm_108_33 q46.2) else (
      (fm_57 1 q46.2).bind fun q49 =>
      if (fx_b q49.1) = 0 then (
        fm_108_33 q49.2) else (
        if x3 < 0 then (
          fm_108_33 q49.2) else (
          if x3 ≤ (3 : Int32) then (
            (fm_62 1 (1 : Int32) x2 q49.2).bind fun q55 =>
            if ¬ q55.1 = 0 then (
              (fx_ldr 4 70 x1).bind fun v58 =>
              (fm_19 v58 (2 : Int32) q55.2).bind fun q63 =>
              (fm_76 (v58 + 3) x2 q63).bind fun q65 =>
              if id_n6 (FP.ddiv (FP.i2d q65.1) (FP.i2d q55.1)) = true then (
              if x3 = (0 : Int32) then (
                (fm_0 (FP.ddiv (FP.i2d q65.1) (FP.i2d q55.1)) q65.2).bind fun q82 =>
                some (q82.1, q82.2)) else (
                if x3 = (1 : Int32) then (
                  if id_n3 (FP.d2f (FP.ddiv (FP.i2d q65.1) (FP.i2d q55.1))) = true then (
                  (fm_1 (FP.d2f (FP.ddiv (FP.i2d q65.1) (FP.i2d q55.1))) q65.2).bind fun q80 =>
                  some (q80.1, q80.2)) else none) else (
                  if x3 = (2 : Int32) then (
                    if id_n6 (FP.dsub (FP.ddiv (FP.i2d q65.1) (FP.i2d q55.1)) (FP.l2d (FP.d2l (FP.ddiv (FP.i2d q65.1) (FP.i2d q55.1))))) = true then (
                    (fm_0 (FP.dsub (FP.ddiv (FP.i2d q65.1) (FP.i2d q55.1)) (FP.l2d (FP.d2l (FP.ddiv (FP.i2d q65.1) (FP.i2d q55.1))))) q65.2).bind fun q76 =>
                    some (q76.1, q76.2)) else none) else (
                    if id_n6 (FP.ddiv (FP.ddiv (FP.i2d q65.1) (FP.i2d q55.1)) (4602678819172646912 : UInt64)) = true then (
                    some ((FP.d2l (FP.ddiv (FP.ddiv (FP.i2d q65.1) (FP.i2d q55.1)) (4602678819172646912 : UInt64))), q65.2)) else none)))) else none) else (
              some ((-9223372036854775808 : Int64), q55.2))) else (
            fm_108_33 q49.2)))))
theorem fe_108 {d : Nat} (hd : 6 ≤ d) {x1 : Int32} {x2 : Int32} {x3 : Int32} {σ : fx_S} {q : Int64 × fx_S} (h : fm_108 x1 x2 x3 σ = some q) : fx_E none 108 d 0 [some (.ref 0), some (.int x1), some (.int x2), some (.int x3), none, none, none, none] [] σ (some (.long q.1)) q.2 := by
  unfold fm_108 at h
  refine fs_iload_n (k := 1) (p := 1) (by decide +kernel) rfl rfl ?_
  obtain ⟨q43, w42, h⟩ := fx_bd h
  refine fs_callS (idx := 94) (mj := 114) (na := 1) (mx := 1) (p := 4) (args := [.int x1]) (rest := []) (al2 := [some (.int x1)]) (by decide +kernel) rfl (by decide +kernel) rfl rfl rfl rfl rfl rfl rfl (by omega) (fun d' hd' => fe_114 (by omega) w42) rfl ?_
  by_cases c44 : (fx_b q43.1) = 0
  · rw [if_pos c44] at h
    refine fs_if_eq_t (off := 29) (t := 33) (by decide +kernel) (by decide +kernel) c44 ?_
    exact fe_108_33 hd _ _ _ _ _ _ h
  · rw [if_neg c44] at h
    refine fs_if_eq_f (off := 29) (t := 33) (p := 7) (by decide +kernel) (by decide +kernel) rfl c44 ?_
    refine fs_iload_n (k := 2) (p := 8) (by decide +kernel) rfl rfl ?_
    obtain ⟨q46, w45, h⟩ := fx_bd h
    refine fs_callS (idx := 128) (mj := 115) (na := 1) (mx := 1) (p := 11) (args := [.int x2]) (rest := []) (al2 := [some (.int x2)]) (by decide +kernel) rfl (by decide +kernel) rfl rfl rfl rfl rfl rfl rfl (by omega) (fun d' hd' => fe_115 (by omega) w45) rfl ?_
    by_cases c47 : (fx_b q46.1) = 0
    · rw [if_pos c47] at h
      refine fs_if_eq_t (off := 22) (t := 33) (by decide +kernel) (by decide +kernel) c47 ?_
      exact fe_108_33 hd _ _ _ _ _ _ h
    · rw [if_neg c47] at h
      refine fs_if_eq_f (off := 22) (t := 33) (p := 14) (by decide +kernel) (by decide +kernel) rfl c47 ?_
      refine fs_aload_n (k := 0) (p := 15) (by decide +kernel) rfl rfl ?_
      refine fs_gfr (idx := 13) (ci := 9) (j := 1) (p := 18) (by decide +kernel) rfl (by decide +kernel) fo_0 (fr_a0_1) ?_
      obtain ⟨q49, w48, h⟩ := fx_bd h
      refine fs_callV (idx := 146) (mj := 57) (ci := 6) (na := 0) (mx := 1) (p := 21) (args := [.ref 1]) (rest := []) (al2 := [some (.ref 1)]) (by decide +kernel) rfl (by decide +kernel) fo_1 rfl rfl rfl rfl rfl rfl rfl (by omega) (fun d' hd' => fe_57 (by omega) w48) rfl ?_
      by_cases c50 : (fx_b q49.1) = 0
      · rw [if_pos c50] at h
        refine fs_if_eq_t (off := 12) (t := 33) (by decide +kernel) (by decide +kernel) c50 ?_
        exact fe_108_33 hd _ _ _ _ _ _ h
      · rw [if_neg c50] at h
        refine fs_if_eq_f (off := 12) (t := 33) (p := 24) (by decide +kernel) (by decide +kernel) rfl c50 ?_
        refine fs_iload_n (k := 3) (p := 25) (by decide +kernel) rfl rfl ?_
        by_cases c52 : x3 < 0
        · rw [if_pos c52] at h
          refine fs_if_lt_t (off := 8) (t := 33) (by decide +kernel) (by decide +kernel) c52 ?_
          exact fe_108_33 hd _ _ _ _ _ _ h
        · rw [if_neg c52] at h
          refine fs_if_lt_f (off := 8) (t := 33) (p := 28) (by decide +kernel) (by decide +kernel) rfl c52 ?_
          refine fs_iload_n (k := 3) (p := 29) (by decide +kernel) rfl rfl ?_
          refine fs_iconst (n := 3) (p := 30) (by decide +kernel) rfl kc_3 ?_
          by_cases c53 : x3 ≤ (3 : Int32)
          · rw [if_pos c53] at h
            refine fs_icmp_le_t (off := 7) (t := 37) (by decide +kernel) (by decide +kernel) c53 ?_
            refine fs_aload_n (k := 0) (p := 38) (by decide +kernel) rfl rfl ?_
            refine fs_gfr (idx := 13) (ci := 9) (j := 1) (p := 41) (by decide +kernel) rfl (by decide +kernel) fo_0 (fr_a0_1) ?_
            refine fs_iconst (n := 1) (p := 42) (by decide +kernel) rfl kc_1 ?_
            refine fs_iload_n (k := 2) (p := 43) (by decide +kernel) rfl rfl ?_
            obtain ⟨q55, w54, h⟩ := fx_bd h
            refine fs_callV (idx := 272) (mj := 62) (ci := 6) (na := 2) (mx := 6) (p := 46) (args := [.ref 1, .int (1 : Int32), .int x2]) (rest := []) (al2 := [some (.ref 1), some (.int (1 : Int32)), some (.int x2), none, none, none]) (by decide +kernel) rfl (by decide +kernel) fo_1 rfl rfl rfl rfl rfl rfl rfl (by omega) (fun d' hd' => fe_62 (by omega) w54) rfl ?_
            refine fs_istore (k := 4) (p := 48) (M := 8) (al' := [some (.ref 0), some (.int x1), some (.int x2), some (.int x3), some (.int q55.1), none, none, none]) (by decide +kernel) rfl mx_108 rfl rfl ?_
            refine fs_iload (k := 4) (p := 50) (by decide +kernel) rfl rfl ?_
            by_cases c57 : ¬ q55.1 = 0
            · rw [if_pos c57] at h
              refine fs_if_ne_t (off := 7) (t := 57) (by decide +kernel) (by decide +kernel) c57 ?_
              refine fs_aload_n (k := 0) (p := 58) (by decide +kernel) rfl rfl ?_
              refine fs_gfr (idx := 60) (ci := 9) (j := 6) (p := 61) (by decide +kernel) rfl (by decide +kernel) fo_0 (fr_a0_6) ?_
              refine fs_iload_n (k := 1) (p := 62) (by decide +kernel) rfl rfl ?_
              obtain ⟨v58, w59, h⟩ := fx_bd h
              have g60 := fa_70 w59
              refine fs_aaload (t := 4) (p := 63) (by decide +kernel) rfl (by decide +kernel) w59 ?_
              refine fs_astore (k := 5) (p := 65) (M := 8) (al' := [some (.ref 0), some (.int x1), some (.int x2), some (.int x3), some (.int q55.1), some (.ref v58), none, none]) (by decide +kernel) rfl mx_108 rfl rfl ?_
              refine fs_aload (k := 5) (p := 67) (by decide +kernel) rfl rfl ?_
              refine fs_iconst (n := 2) (p := 68) (by decide +kernel) rfl kc_2 ?_
              obtain ⟨q63, w62, h⟩ := fx_bd h
              refine fs_callV (idx := 150) (mj := 19) (ci := 2) (na := 1) (mx := 2) (p := 71) (args := [.ref v58, .int (2 : Int32)]) (rest := []) (al2 := [some (.ref v58), some (.int (2 : Int32))]) (by decide +kernel) rfl (by decide +kernel) g60 rfl rfl rfl rfl rfl rfl rfl (by omega) (fun d' hd' => fe_19 (by omega) w62) rfl ?_
              refine fs_pop (p := 72) (by decide +kernel) rfl rfl ?_
              refine fs_aload (k := 5) (p := 74) (by decide +kernel) rfl rfl ?_
              refine fs_gfr (idx := 202) (ci := 2) (j := 2) (p := 77) (by decide +kernel) rfl (by decide +kernel) g60 (fr_2_2 g60) ?_
              refine fs_iload_n (k := 2) (p := 78) (by decide +kernel) rfl rfl ?_
              obtain ⟨q65, w64, h⟩ := fx_bd h
              refine fs_callV (idx := 237) (mj := 76) (ci := 7) (na := 1) (mx := 4) (p := 81) (args := [.ref (v58 + 3), .int x2]) (rest := []) (al2 := [some (.ref (v58 + 3)), some (.int x2), none, none]) (by decide +kernel) rfl (by decide +kernel) (fg_2_2 g60) rfl rfl rfl rfl rfl rfl rfl (by omega) (fun d' hd' => fe_76 (by omega) w64) rfl ?_
              refine fs_i2d (p := 82) (by decide +kernel) rfl ?_
              refine fs_iload (k := 4) (p := 84) (by decide +kernel) rfl rfl ?_
              refine fs_i2d (p := 85) (by decide +kernel) rfl ?_
              obtain ⟨z67, h⟩ := fx_gd h
              refine fs_ddiv (p := 86) (by decide +kernel) rfl z67 ?_
              refine fs_dstore (k := 6) (p := 88) (M := 8) (al' := [some (.ref 0), some (.int x1), some (.int x2), some (.int x3), some (.int q55.1), some (.ref v58), some (.double (FP.ddiv (FP.i2d q65.1) (FP.i2d q55.1))), none]) (by decide +kernel) rfl mx_108 rfl rfl ?_
              refine fs_iload_n (k := 3) (p := 89) (by decide +kernel) rfl rfl ?_
              by_cases c68 : x3 = (0 : Int32)
              · rw [if_pos c68] at h
                refine fs_tsw_h (dflt := 51) (lo := 0) (hi := 2) (offs := #[27, 33, 40]) (x := x3) (j := 0) (t := 116) (by decide +kernel) (by decide +kernel) (by decide) (c68.trans (by decide)) ?_
                refine fs_dload (k := 6) (p := 118) (by decide +kernel) rfl rfl ?_
                obtain ⟨q82, w81, h⟩ := fx_bd h
                refine fs_callS (idx := 275) (mj := 0) (na := 1) (mx := 2) (p := 121) (args := [.double (FP.ddiv (FP.i2d q65.1) (FP.i2d q55.1))]) (rest := []) (al2 := [some (.double (FP.ddiv (FP.i2d q65.1) (FP.i2d q55.1))), none]) (by decide +kernel) rfl (by decide +kernel) rfl rfl rfl rfl rfl rfl rfl (by omega) (fun d' hd' => fe_0 (by omega) w81) rfl ?_
                have h := Option.some.inj h
                subst h
                exact fs_lret (by decide +kernel) rt_108
              · rw [if_neg c68] at h
                by_cases c69 : x3 = (1 : Int32)
                · rw [if_pos c69] at h
                  refine fs_tsw_h (dflt := 51) (lo := 0) (hi := 2) (offs := #[27, 33, 40]) (x := x3) (j := 1) (t := 122) (by decide +kernel) (by decide +kernel) (by decide) (c69.trans (by decide)) ?_
                  refine fs_dload (k := 6) (p := 124) (by decide +kernel) rfl rfl ?_
                  obtain ⟨z78, h⟩ := fx_gd h
                  refine fs_d2f (p := 125) (by decide +kernel) rfl z78 ?_
                  obtain ⟨q80, w79, h⟩ := fx_bd h
                  refine fs_callS (idx := 281) (mj := 1) (na := 1) (mx := 1) (p := 128) (args := [.float (FP.d2f (FP.ddiv (FP.i2d q65.1) (FP.i2d q55.1)))]) (rest := []) (al2 := [some (.float (FP.d2f (FP.ddiv (FP.i2d q65.1) (FP.i2d q55.1))))]) (by decide +kernel) rfl (by decide +kernel) rfl rfl rfl rfl rfl rfl rfl (by omega) (fun d' hd' => fe_1 (by omega) w79) rfl ?_
                  have h := Option.some.inj h
                  subst h
                  exact fs_lret (by decide +kernel) rt_108
                · rw [if_neg c69] at h
                  by_cases c70 : x3 = (2 : Int32)
                  · rw [if_pos c70] at h
                    refine fs_tsw_h (dflt := 51) (lo := 0) (hi := 2) (offs := #[27, 33, 40]) (x := x3) (j := 2) (t := 129) (by decide +kernel) (by decide +kernel) (by decide) (c70.trans (by decide)) ?_
                    refine fs_dload (k := 6) (p := 131) (by decide +kernel) rfl rfl ?_
                    refine fs_dload (k := 6) (p := 133) (by decide +kernel) rfl rfl ?_
                    refine fs_d2l (p := 134) (by decide +kernel) rfl ?_
                    refine fs_l2d (p := 135) (by decide +kernel) rfl ?_
                    obtain ⟨z74, h⟩ := fx_gd h
                    refine fs_dsub (p := 136) (by decide +kernel) rfl z74 ?_
                    obtain ⟨q76, w75, h⟩ := fx_bd h
                    refine fs_callS (idx := 275) (mj := 0) (na := 1) (mx := 2) (p := 139) (args := [.double (FP.dsub (FP.ddiv (FP.i2d q65.1) (FP.i2d q55.1)) (FP.l2d (FP.d2l (FP.ddiv (FP.i2d q65.1) (FP.i2d q55.1)))))]) (rest := []) (al2 := [some (.double (FP.dsub (FP.ddiv (FP.i2d q65.1) (FP.i2d q55.1)) (FP.l2d (FP.d2l (FP.ddiv (FP.i2d q65.1) (FP.i2d q55.1)))))), none]) (by decide +kernel) rfl (by decide +kernel) rfl rfl rfl rfl rfl rfl rfl (by omega) (fun d' hd' => fe_0 (by omega) w75) rfl ?_
                    have h := Option.some.inj h
                    subst h
                    exact fs_lret (by decide +kernel) rt_108
                  · rw [if_neg c70] at h
                    refine fs_tsw_d (dflt := 51) (lo := 0) (hi := 2) (offs := #[27, 33, 40]) (x := x3) (t := 140) (by decide +kernel) (by decide +kernel) (by decide) (by decide) (fun j hj => by match j, hj with | 0, _ => exact c68 | 1, _ => exact c69 | 2, _ => exact c70) ?_
                    refine fs_dload (k := 6) (p := 142) (by decide +kernel) rfl rfl ?_
                    refine fs_ldc2d (idx := 285) (p := 145) (x := 4602678819172646912) (by decide +kernel) rfl (by decide +kernel) (by decide +kernel) ?_
                    obtain ⟨z72, h⟩ := fx_gd h
                    refine fs_ddiv (p := 146) (by decide +kernel) rfl z72 ?_
                    refine fs_d2l (p := 147) (by decide +kernel) rfl ?_
                    have h := Option.some.inj h
                    subst h
                    exact fs_lret (by decide +kernel) rt_108
            · rw [if_neg c57] at h
              refine fs_if_ne_f (off := 7) (t := 57) (p := 53) (by decide +kernel) (by decide +kernel) rfl c57 ?_
              refine fs_ldc2 (idx := 270) (p := 56) (x := -9223372036854775808) (by decide +kernel) rfl (by decide +kernel) ?_
              have h := Option.some.inj h
              subst h
              exact fs_lret (by decide +kernel) rt_108
          · rw [if_neg c53] at h
            refine fs_icmp_le_f (off := 7) (t := 37) (p := 33) (by decide +kernel) (by decide +kernel) rfl c53 ?_
            exact fe_108_33 hd _ _ _ _ _ _ h

/-! ZoneShares.off(I)J -/
theorem mx_109 : iv_mx 109 = 7 := by decide +kernel
theorem rt_109 : iv_rt 109 = some .long := by decide +kernel
def fm_109_17 (σ : fx_S) : Option (Int64 × fx_S) :=
  some ((-9223372036854775808 : Int64), σ)
theorem fe_109_17 {d : Nat} (hd : 6 ≤ d) (o0 : Option Value) (o1 : Option Value) (σ : fx_S) (q : Int64 × fx_S) (h : fm_109_17  σ = some q) : fx_E none 109 d 17 [o0, o1, none, none, none, none, none] [] σ (some (.long q.1)) q.2 := by
  unfold fm_109_17 at h
  refine fs_ldc2 (idx := 270) (p := 20) (x := -9223372036854775808) (by decide +kernel) rfl (by decide +kernel) ?_
  have h := Option.some.inj h
  subst h
  exact fs_lret (by decide +kernel) rt_109
def fm_109_83 (k_39 : Nat → UInt64 → Int32 → fx_S → Option (Int64 × fx_S)) (x2 : Nat) (x3 : UInt64) (x5 : Int32) (σ : fx_S) : Option (Int64 × fx_S) :=
  k_39 x2 x3 (x5 + (1 : Int32)) σ
theorem fe_109_83 {d : Nat} (hd : 6 ≤ d) {k_39 : Nat → UInt64 → Int32 → fx_S → Option (Int64 × fx_S)} (hk_39 : ∀ (x2 : Nat) (x3 : UInt64) (x5 : Int32) (o0 : Option Value) (o1 : Option Value) (o6 : Option Value) (σ : fx_S) (q : Int64 × fx_S) (g2 : fx_oc x2 2 = true), k_39 x2 x3 x5 σ = some q → fx_E none 109 d 39 [o0, o1, some (.ref x2), some (.double x3), none, some (.int x5), o6] [] σ (some (.long q.1)) q.2) (x2 : Nat) (x3 : UInt64) (x5 : Int32) (o0 : Option Value) (o1 : Option Value) (o6 : Option Value) (σ : fx_S) (q : Int64 × fx_S) (g2 : fx_oc x2 2 = true) (h : fm_109_83 k_39  x2 x3 x5 σ = some q) : fx_E none 109 d 83 [o0, o1, some (.ref x2), some (.double x3), none, some (.int x5), o6] [] σ (some (.long q.1)) q.2 := by
  unfold fm_109_83 at h
  refine fs_iinc (k := 5) (n := 1) (p := 86) (M := 7) (al' := [o0, o1, some (.ref x2), some (.double x3), none, some (.int (x5 + (1 : Int32))), o6]) (by decide +kernel) rfl kc_1 mx_109 rfl rfl rfl ?_
  refine fs_goto (off := -47) (p := 39) (by decide +kernel) (by decide +kernel) ?_
  exact hk_39 _ _ _ _ _ _ _ _ g2 h
def fm_109_39 : Nat → Nat → UInt64 → Int32 → fx_S → Option (Int64 × fx_S)
  | 0, _, _, _, _ => none
  | n + 1, x2, x3, x5, σ =>
    if (72 : Int32) ≤ x5 then (
      (fm_0 x3 σ).bind fun q4 =>
      some (q4.1, q4.2)) else (
      (fx_ld σ ((x2 + 3) + 2) (x5 / (9 : Int32))).bind fun v6 =>
      if v6 ≤ 0 then (
        fm_109_83 (fm_109_39 n) x2 x3 x5 σ) else (
        (fm_80 (x2 + 3) x5 σ).bind fun q12 =>
        if id_n6 (FP.ddiv (FP.l2d q12.1) (FP.i2d v6)) = true then (
        if id_n6 (FP.dadd x3 (FP.ddiv (FP.l2d q12.1) (FP.i2d v6))) = true then (
        fm_109_83 (fm_109_39 n) x2 (FP.dadd x3 (FP.ddiv (FP.l2d q12.1) (FP.i2d v6))) x5 q12.2) else none) else none))
theorem fe_109_39 {d : Nat} (hd : 6 ≤ d) : ∀ (n : Nat) (x2 : Nat) (x3 : UInt64) (x5 : Int32) (o0 : Option Value) (o1 : Option Value) (o6 : Option Value) (σ : fx_S) (q : Int64 × fx_S) (g2 : fx_oc x2 2 = true), fm_109_39 n x2 x3 x5 σ = some q → fx_E none 109 d 39 [o0, o1, some (.ref x2), some (.double x3), none, some (.int x5), o6] [] σ (some (.long q.1)) q.2 := by
  intro n
  induction n with
  | zero =>
    intro x2 x3 x5 o0 o1 o6 σ q g2 h
    rw [fm_109_39] at h
    exact fx_no h
  | succ n ih =>
    intro x2 x3 x5 o0 o1 o6 σ q g2 h
    rw [fm_109_39] at h
    refine fs_iload (k := 5) (p := 41) (by decide +kernel) rfl rfl ?_
    refine fs_bipush (n := 72) (p := 43) (by decide +kernel) rfl kb_72 ?_
    by_cases c2 : (72 : Int32) ≤ x5
    · rw [if_pos c2] at h
      refine fs_icmp_ge_t (off := 46) (t := 89) (by decide +kernel) (by decide +kernel) c2 ?_
      refine fs_dload_n (k := 3) (p := 90) (by decide +kernel) rfl rfl ?_
      obtain ⟨q4, w3, h⟩ := fx_bd h
      refine fs_callS (idx := 275) (mj := 0) (na := 1) (mx := 2) (p := 93) (args := [.double x3]) (rest := []) (al2 := [some (.double x3), none]) (by decide +kernel) rfl (by decide +kernel) rfl rfl rfl rfl rfl rfl rfl (by omega) (fun d' hd' => fe_0 (by omega) w3) rfl ?_
      have h := Option.some.inj h
      subst h
      exact fs_lret (by decide +kernel) rt_109
    · rw [if_neg c2] at h
      refine fs_icmp_ge_f (off := 46) (t := 89) (p := 46) (by decide +kernel) (by decide +kernel) rfl c2 ?_
      refine fs_aload_n (k := 2) (p := 47) (by decide +kernel) rfl rfl ?_
      refine fs_gfr (idx := 202) (ci := 2) (j := 2) (p := 50) (by decide +kernel) rfl (by decide +kernel) g2 (fr_2_2 g2) ?_
      refine fs_gfr (idx := 206) (ci := 7) (j := 1) (p := 53) (by decide +kernel) rfl (by decide +kernel) (fg_2_2 g2) (fr_7_1 (fg_2_2 g2)) ?_
      refine fs_iload (k := 5) (p := 55) (by decide +kernel) rfl rfl ?_
      refine fs_bipush (n := 9) (p := 57) (by decide +kernel) rfl kb_9 ?_
      refine fs_idiv (p := 58) (by decide +kernel) rfl (by decide) ?_
      obtain ⟨v6, w7, h⟩ := fx_bd h
      refine fs_iaload (p := 59) (by decide +kernel) rfl w7 ?_
      refine fs_istore (k := 6) (p := 61) (M := 7) (al' := [o0, o1, some (.ref x2), some (.double x3), none, some (.int x5), some (.int v6)]) (by decide +kernel) rfl mx_109 rfl rfl ?_
      refine fs_iload (k := 6) (p := 63) (by decide +kernel) rfl rfl ?_
      by_cases c10 : v6 ≤ 0
      · rw [if_pos c10] at h
        refine fs_if_le_t (off := 20) (t := 83) (by decide +kernel) (by decide +kernel) c10 ?_
        exact fe_109_83 hd ih _ _ _ _ _ _ _ _ g2 h
      · rw [if_neg c10] at h
        refine fs_if_le_f (off := 20) (t := 83) (p := 66) (by decide +kernel) (by decide +kernel) rfl c10 ?_
        refine fs_dload_n (k := 3) (p := 67) (by decide +kernel) rfl rfl ?_
        refine fs_aload_n (k := 2) (p := 68) (by decide +kernel) rfl rfl ?_
        refine fs_gfr (idx := 202) (ci := 2) (j := 2) (p := 71) (by decide +kernel) rfl (by decide +kernel) g2 (fr_2_2 g2) ?_
        refine fs_iload (k := 5) (p := 73) (by decide +kernel) rfl rfl ?_
        obtain ⟨q12, w11, h⟩ := fx_bd h
        refine fs_callV (idx := 287) (mj := 80) (ci := 7) (na := 1) (mx := 3) (p := 76) (args := [.ref (x2 + 3), .int x5]) (rest := [.double x3]) (al2 := [some (.ref (x2 + 3)), some (.int x5), none]) (by decide +kernel) rfl (by decide +kernel) (fg_2_2 g2) rfl rfl rfl rfl rfl rfl rfl (by omega) (fun d' hd' => fe_80 (by omega) w11) rfl ?_
        refine fs_l2d (p := 77) (by decide +kernel) rfl ?_
        refine fs_iload (k := 6) (p := 79) (by decide +kernel) rfl rfl ?_
        refine fs_i2d (p := 80) (by decide +kernel) rfl ?_
        obtain ⟨z14, h⟩ := fx_gd h
        refine fs_ddiv (p := 81) (by decide +kernel) rfl z14 ?_
        obtain ⟨z16, h⟩ := fx_gd h
        refine fs_dadd (p := 82) (by decide +kernel) rfl z16 ?_
        refine fs_dstore_n (k := 3) (p := 83) (M := 7) (al' := [o0, o1, some (.ref x2), some (.double (FP.dadd x3 (FP.ddiv (FP.l2d q12.1) (FP.i2d v6)))), none, some (.int x5), some (.int v6)]) (by decide +kernel) rfl mx_109 rfl rfl ?_
        exact fe_109_83 hd ih _ _ _ _ _ _ _ _ g2 h
def fm_109 (x1 : Int32) (σ : fx_S) : Option (Int64 × fx_S) :=
  (fm_114 x1 σ).bind fun q46 =>
  if (fx_b q46.1) = 0 then (
    fm_109_17 q46.2) else (
    (fm_57 1 q46.2).bind fun q49 =>
    if ¬ (fx_b q49.1) = 0 then (
      (fx_ldr 4 70 x1).bind fun v51 =>
      (fm_19 v51 (2 : Int32) q49.2).bind fun q56 =>
      fm_109_39 100000 v51 FP.dconst0 (0 : Int32) q56) else (
      fm_109_17 q49.2))
theorem fe_109 {d : Nat} (hd : 6 ≤ d) {x1 : Int32} {σ : fx_S} {q : Int64 × fx_S} (h : fm_109 x1 σ = some q) : fx_E none 109 d 0 [some (.ref 0), some (.int x1), none, none, none, none, none] [] σ (some (.long q.1)) q.2 := by
  unfold fm_109 at h
  refine fs_iload_n (k := 1) (p := 1) (by decide +kernel) rfl rfl ?_
  obtain ⟨q46, w45, h⟩ := fx_bd h
  refine fs_callS (idx := 94) (mj := 114) (na := 1) (mx := 1) (p := 4) (args := [.int x1]) (rest := []) (al2 := [some (.int x1)]) (by decide +kernel) rfl (by decide +kernel) rfl rfl rfl rfl rfl rfl rfl (by omega) (fun d' hd' => fe_114 (by omega) w45) rfl ?_
  by_cases c47 : (fx_b q46.1) = 0
  · rw [if_pos c47] at h
    refine fs_if_eq_t (off := 13) (t := 17) (by decide +kernel) (by decide +kernel) c47 ?_
    exact fe_109_17 hd _ _ _ _ h
  · rw [if_neg c47] at h
    refine fs_if_eq_f (off := 13) (t := 17) (p := 7) (by decide +kernel) (by decide +kernel) rfl c47 ?_
    refine fs_aload_n (k := 0) (p := 8) (by decide +kernel) rfl rfl ?_
    refine fs_gfr (idx := 13) (ci := 9) (j := 1) (p := 11) (by decide +kernel) rfl (by decide +kernel) fo_0 (fr_a0_1) ?_
    obtain ⟨q49, w48, h⟩ := fx_bd h
    refine fs_callV (idx := 146) (mj := 57) (ci := 6) (na := 0) (mx := 1) (p := 14) (args := [.ref 1]) (rest := []) (al2 := [some (.ref 1)]) (by decide +kernel) rfl (by decide +kernel) fo_1 rfl rfl rfl rfl rfl rfl rfl (by omega) (fun d' hd' => fe_57 (by omega) w48) rfl ?_
    by_cases c50 : ¬ (fx_b q49.1) = 0
    · rw [if_pos c50] at h
      refine fs_if_ne_t (off := 7) (t := 21) (by decide +kernel) (by decide +kernel) c50 ?_
      refine fs_aload_n (k := 0) (p := 22) (by decide +kernel) rfl rfl ?_
      refine fs_gfr (idx := 60) (ci := 9) (j := 6) (p := 25) (by decide +kernel) rfl (by decide +kernel) fo_0 (fr_a0_6) ?_
      refine fs_iload_n (k := 1) (p := 26) (by decide +kernel) rfl rfl ?_
      obtain ⟨v51, w52, h⟩ := fx_bd h
      have g53 := fa_70 w52
      refine fs_aaload (t := 4) (p := 27) (by decide +kernel) rfl (by decide +kernel) w52 ?_
      refine fs_astore_n (k := 2) (p := 28) (M := 7) (al' := [some (.ref 0), some (.int x1), some (.ref v51), none, none, none, none]) (by decide +kernel) rfl mx_109 rfl rfl ?_
      refine fs_aload_n (k := 2) (p := 29) (by decide +kernel) rfl rfl ?_
      refine fs_iconst (n := 2) (p := 30) (by decide +kernel) rfl kc_2 ?_
      obtain ⟨q56, w55, h⟩ := fx_bd h
      refine fs_callV (idx := 150) (mj := 19) (ci := 2) (na := 1) (mx := 2) (p := 33) (args := [.ref v51, .int (2 : Int32)]) (rest := []) (al2 := [some (.ref v51), some (.int (2 : Int32))]) (by decide +kernel) rfl (by decide +kernel) g53 rfl rfl rfl rfl rfl rfl rfl (by omega) (fun d' hd' => fe_19 (by omega) w55) rfl ?_
      refine fs_pop (p := 34) (by decide +kernel) rfl rfl ?_
      refine fs_dconst (n := 0) (p := 35) (by decide +kernel) rfl rfl ?_
      refine fs_dstore_n (k := 3) (p := 36) (M := 7) (al' := [some (.ref 0), some (.int x1), some (.ref v51), some (.double FP.dconst0), none, none, none]) (by decide +kernel) rfl mx_109 rfl rfl ?_
      refine fs_iconst (n := 0) (p := 37) (by decide +kernel) rfl kc_0 ?_
      refine fs_istore (k := 5) (p := 39) (M := 7) (al' := [some (.ref 0), some (.int x1), some (.ref v51), some (.double FP.dconst0), none, some (.int (0 : Int32)), none]) (by decide +kernel) rfl mx_109 rfl rfl ?_
      exact fe_109_39 hd 100000 _ _ _ _ _ _ _ _ g53 h
    · rw [if_neg c50] at h
      refine fs_if_ne_f (off := 7) (t := 21) (p := 17) (by decide +kernel) (by decide +kernel) rfl c50 ?_
      exact fe_109_17 hd _ _ _ _ h

/-! ZoneSharesModel.dense(III)J -/
theorem mx_203 : iv_mx 203 = 6 := by decide +kernel
theorem rt_203 : iv_rt 203 = some .long := by decide +kernel
def fm_203_47 (σ : fx_S) : Option (Int64 × fx_S) :=
  some ((-9223372036854775808 : Int64), σ)
theorem fe_203_47 {d : Nat} (hd : 31 ≤ d) (o0 : Option Value) (o1 : Option Value) (o2 : Option Value) (o3 : Option Value) (σ : fx_S) (q : Int64 × fx_S) (h : fm_203_47  σ = some q) : fx_E none 203 d 47 [o0, o1, o2, o3, none, none] [] σ (some (.long q.1)) q.2 := by
  unfold fm_203_47 at h
  refine fs_ldc2 (idx := 357) (p := 50) (x := -9223372036854775808) (by decide +kernel) rfl (by decide +kernel) ?_
  have h := Option.some.inj h
  subst h
  exact fs_lret (by decide +kernel) rt_203
def fm_203 (x1 : Int32) (x2 : Int32) (x3 : Int32) (σ : fx_S) : Option (Int64 × fx_S) :=
  (fm_150 σ).bind fun q42 =>
  if (fx_b q42.1) = 0 then (
    fm_203_47 q42.2) else (
    (fm_148 x1 q42.2).bind fun q45 =>
    if (fx_b q45.1) = 0 then (
      fm_203_47 q45.2) else (
      (fm_130 (x2).toInt64 (0 : Int64) (7 : Int64) q45.2).bind fun q49 =>
      if (fx_b q49.1) = 0 then (
        fm_203_47 q49.2) else (
        (fm_153 (1 : Int32) x2 q49.2).bind fun q52 =>
        if (fx_b q52.1) = 0 then (
          fm_203_47 q52.2) else (
          (fm_130 (x3).toInt64 (0 : Int64) (3 : Int64) q52.2).bind fun q56 =>
          if ¬ (fx_b q56.1) = 0 then (
            (fm_181 x1 q56.2).bind fun q59 =>
            (fm_173 q59).bind fun q61 =>
            (fm_183 x2 q61).bind fun q63 =>
            (fm_202 x2 q63.2).bind fun q65 =>
            if id_n6 (FP.ddiv (FP.i2d q63.1) (FP.i2d q65.1)) = true then (
            if x3 = (0 : Int32) then (
              if id_n6 (FP.ddiv (FP.i2d q63.1) (FP.i2d q65.1)) = true then (
              some (((FP.ddiv (FP.i2d q63.1) (FP.i2d q65.1))).toInt64, q65.2)) else none) else (
              if x3 = (1 : Int32) then (
                if id_n3 (FP.d2f (FP.ddiv (FP.i2d q63.1) (FP.i2d q65.1))) = true then (
                if id_n3 (FP.d2f (FP.ddiv (FP.i2d q63.1) (FP.i2d q65.1))) = true then (
                some ((((FP.d2f (FP.ddiv (FP.i2d q63.1) (FP.i2d q65.1)))).toInt32).toInt64, q65.2)) else none) else none) else (
                if x3 = (2 : Int32) then (
                  if id_n6 (FP.drem (FP.ddiv (FP.i2d q63.1) (FP.i2d q65.1)) FP.dconst1) = true then (
                  if id_n6 (FP.drem (FP.ddiv (FP.i2d q63.1) (FP.i2d q65.1)) FP.dconst1) = true then (
                  some (((FP.drem (FP.ddiv (FP.i2d q63.1) (FP.i2d q65.1)) FP.dconst1)).toInt64, q65.2)) else none) else none) else (
                  if id_n6 (FP.ddiv (FP.ddiv (FP.i2d q63.1) (FP.i2d q65.1)) (4602678819172646912 : UInt64)) = true then (
                  if id_n6 (FP.ddiv (FP.ddiv (FP.i2d q63.1) (FP.i2d q65.1)) (4602678819172646912 : UInt64)) = true then (
                  some ((FP.d2l (Jvm.Free.Hsc.floorOf (FP.ddiv (FP.ddiv (FP.i2d q63.1) (FP.i2d q65.1)) (4602678819172646912 : UInt64)))), q65.2)) else none) else none)))) else none) else (
            fm_203_47 q56.2)))))
theorem fe_203 {d : Nat} (hd : 31 ≤ d) {x1 : Int32} {x2 : Int32} {x3 : Int32} {σ : fx_S} {q : Int64 × fx_S} (h : fm_203 x1 x2 x3 σ = some q) : fx_E none 203 d 0 [some (.ref 215), some (.int x1), some (.int x2), some (.int x3), none, none] [] σ (some (.long q.1)) q.2 := by
  unfold fm_203 at h
  refine fs_aload_n (k := 0) (p := 1) (by decide +kernel) rfl rfl ?_
  obtain ⟨q42, w41, h⟩ := fx_bd h
  refine fs_callV (idx := 303) (mj := 150) (ci := 10) (na := 0) (mx := 1) (p := 4) (args := [.ref 215]) (rest := []) (al2 := [some (.ref 215)]) (by decide +kernel) rfl (by decide +kernel) fo_215 rfl rfl rfl rfl rfl rfl rfl (by omega) (fun d' hd' => fe_150 (by omega) w41) rfl ?_
  by_cases c43 : (fx_b q42.1) = 0
  · rw [if_pos c43] at h
    refine fs_if_eq_t (off := 43) (t := 47) (by decide +kernel) (by decide +kernel) c43 ?_
    exact fe_203_47 hd _ _ _ _ _ _ h
  · rw [if_neg c43] at h
    refine fs_if_eq_f (off := 43) (t := 47) (p := 7) (by decide +kernel) (by decide +kernel) rfl c43 ?_
    refine fs_iload_n (k := 1) (p := 8) (by decide +kernel) rfl rfl ?_
    obtain ⟨q45, w44, h⟩ := fx_bd h
    refine fs_callS (idx := 190) (mj := 148) (na := 1) (mx := 1) (p := 11) (args := [.int x1]) (rest := []) (al2 := [some (.int x1)]) (by decide +kernel) rfl (by decide +kernel) rfl rfl rfl rfl rfl rfl rfl (by omega) (fun d' hd' => fe_148 (by omega) w44) rfl ?_
    by_cases c46 : (fx_b q45.1) = 0
    · rw [if_pos c46] at h
      refine fs_if_eq_t (off := 36) (t := 47) (by decide +kernel) (by decide +kernel) c46 ?_
      exact fe_203_47 hd _ _ _ _ _ _ h
    · rw [if_neg c46] at h
      refine fs_if_eq_f (off := 36) (t := 47) (p := 14) (by decide +kernel) (by decide +kernel) rfl c46 ?_
      refine fs_iload_n (k := 2) (p := 15) (by decide +kernel) rfl rfl ?_
      refine fs_i2l (p := 16) (by decide +kernel) rfl ?_
      refine fs_lconst (n := 0) (p := 17) (by decide +kernel) rfl kl_0 ?_
      refine fs_ldc2 (idx := 308) (p := 20) (x := 7) (by decide +kernel) rfl (by decide +kernel) ?_
      obtain ⟨q49, w48, h⟩ := fx_bd h
      refine fs_callS (idx := 128) (mj := 130) (na := 3) (mx := 6) (p := 23) (args := [.long (x2).toInt64, .long (0 : Int64), .long (7 : Int64)]) (rest := []) (al2 := [some (.long (x2).toInt64), none, some (.long (0 : Int64)), none, some (.long (7 : Int64)), none]) (by decide +kernel) rfl (by decide +kernel) rfl rfl rfl rfl rfl rfl rfl (by omega) (fun d' hd' => fe_130 (by omega) w48) rfl ?_
      by_cases c50 : (fx_b q49.1) = 0
      · rw [if_pos c50] at h
        refine fs_if_eq_t (off := 24) (t := 47) (by decide +kernel) (by decide +kernel) c50 ?_
        exact fe_203_47 hd _ _ _ _ _ _ h
      · rw [if_neg c50] at h
        refine fs_if_eq_f (off := 24) (t := 47) (p := 26) (by decide +kernel) (by decide +kernel) rfl c50 ?_
        refine fs_aload_n (k := 0) (p := 27) (by decide +kernel) rfl rfl ?_
        refine fs_iconst (n := 1) (p := 28) (by decide +kernel) rfl kc_1 ?_
        refine fs_iload_n (k := 2) (p := 29) (by decide +kernel) rfl rfl ?_
        obtain ⟨q52, w51, h⟩ := fx_bd h
        refine fs_callV (idx := 202) (mj := 153) (ci := 10) (na := 2) (mx := 4) (p := 32) (args := [.ref 215, .int (1 : Int32), .int x2]) (rest := []) (al2 := [some (.ref 215), some (.int (1 : Int32)), some (.int x2), none]) (by decide +kernel) rfl (by decide +kernel) fo_215 rfl rfl rfl rfl rfl rfl rfl (by omega) (fun d' hd' => fe_153 (by omega) w51) rfl ?_
        by_cases c53 : (fx_b q52.1) = 0
        · rw [if_pos c53] at h
          refine fs_if_eq_t (off := 15) (t := 47) (by decide +kernel) (by decide +kernel) c53 ?_
          exact fe_203_47 hd _ _ _ _ _ _ h
        · rw [if_neg c53] at h
          refine fs_if_eq_f (off := 15) (t := 47) (p := 35) (by decide +kernel) (by decide +kernel) rfl c53 ?_
          refine fs_iload_n (k := 3) (p := 36) (by decide +kernel) rfl rfl ?_
          refine fs_i2l (p := 37) (by decide +kernel) rfl ?_
          refine fs_lconst (n := 0) (p := 38) (by decide +kernel) rfl kl_0 ?_
          refine fs_ldc2 (idx := 327) (p := 41) (x := 3) (by decide +kernel) rfl (by decide +kernel) ?_
          obtain ⟨q56, w55, h⟩ := fx_bd h
          refine fs_callS (idx := 128) (mj := 130) (na := 3) (mx := 6) (p := 44) (args := [.long (x3).toInt64, .long (0 : Int64), .long (3 : Int64)]) (rest := []) (al2 := [some (.long (x3).toInt64), none, some (.long (0 : Int64)), none, some (.long (3 : Int64)), none]) (by decide +kernel) rfl (by decide +kernel) rfl rfl rfl rfl rfl rfl rfl (by omega) (fun d' hd' => fe_130 (by omega) w55) rfl ?_
          by_cases c57 : ¬ (fx_b q56.1) = 0
          · rw [if_pos c57] at h
            refine fs_if_ne_t (off := 7) (t := 51) (by decide +kernel) (by decide +kernel) c57 ?_
            refine fs_aload_n (k := 0) (p := 52) (by decide +kernel) rfl rfl ?_
            refine fs_iload_n (k := 1) (p := 53) (by decide +kernel) rfl rfl ?_
            obtain ⟨q59, w58, h⟩ := fx_bd h
            refine fs_callV (idx := 312) (mj := 181) (ci := 10) (na := 1) (mx := 5) (p := 56) (args := [.ref 215, .int x1]) (rest := []) (al2 := [some (.ref 215), some (.int x1), none, none, none]) (by decide +kernel) rfl (by decide +kernel) fo_215 rfl rfl rfl rfl rfl rfl rfl (by omega) (fun d' hd' => fe_181 (by omega) w58) rfl ?_
            refine fs_aload_n (k := 0) (p := 57) (by decide +kernel) rfl rfl ?_
            obtain ⟨q61, w60, h⟩ := fx_bd h
            refine fs_callV (idx := 315) (mj := 173) (ci := 10) (na := 0) (mx := 2) (p := 60) (args := [.ref 215]) (rest := []) (al2 := [some (.ref 215), none]) (by decide +kernel) rfl (by decide +kernel) fo_215 rfl rfl rfl rfl rfl rfl rfl (by omega) (fun d' hd' => fe_173 (by omega) w60) rfl ?_
            refine fs_aload_n (k := 0) (p := 61) (by decide +kernel) rfl rfl ?_
            refine fs_iload_n (k := 2) (p := 62) (by decide +kernel) rfl rfl ?_
            obtain ⟨q63, w62, h⟩ := fx_bd h
            refine fs_callV (idx := 321) (mj := 183) (ci := 10) (na := 1) (mx := 4) (p := 65) (args := [.ref 215, .int x2]) (rest := []) (al2 := [some (.ref 215), some (.int x2), none, none]) (by decide +kernel) rfl (by decide +kernel) fo_215 rfl rfl rfl rfl rfl rfl rfl (by omega) (fun d' hd' => fe_183 (by omega) w62) rfl ?_
            refine fs_i2d (p := 66) (by decide +kernel) rfl ?_
            refine fs_aload_n (k := 0) (p := 67) (by decide +kernel) rfl rfl ?_
            refine fs_iload_n (k := 2) (p := 68) (by decide +kernel) rfl rfl ?_
            obtain ⟨q65, w64, h⟩ := fx_bd h
            refine fs_callV (idx := 359) (mj := 202) (ci := 10) (na := 1) (mx := 4) (p := 71) (args := [.ref 215, .int x2]) (rest := [.double (FP.i2d q63.1)]) (al2 := [some (.ref 215), some (.int x2), none, none]) (by decide +kernel) rfl (by decide +kernel) fo_215 rfl rfl rfl rfl rfl rfl rfl (by omega) (fun d' hd' => fe_202 (by omega) w64) rfl ?_
            refine fs_i2d (p := 72) (by decide +kernel) rfl ?_
            obtain ⟨z67, h⟩ := fx_gd h
            refine fs_ddiv (p := 73) (by decide +kernel) rfl z67 ?_
            refine fs_dstore (k := 4) (p := 75) (M := 6) (al' := [some (.ref 215), some (.int x1), some (.int x2), some (.int x3), some (.double (FP.ddiv (FP.i2d q63.1) (FP.i2d q65.1))), none]) (by decide +kernel) rfl mx_203 rfl rfl ?_
            refine fs_iload_n (k := 3) (p := 76) (by decide +kernel) rfl rfl ?_
            by_cases c68 : x3 = (0 : Int32)
            · rw [if_pos c68] at h
              refine fs_tsw_h (dflt := 50) (lo := 0) (hi := 2) (offs := #[28, 34, 42]) (x := x3) (j := 0) (t := 104) (by decide +kernel) (by decide +kernel) (by decide) (c68.trans (by decide)) ?_
              refine fs_dload (k := 4) (p := 106) (by decide +kernel) rfl rfl ?_
              obtain ⟨z80, h⟩ := fx_gd h
              refine fs_jdk1 (idx := 362) (p := 109) (by decide +kernel) rfl (by decide +kernel) rfl z80 ?_
              have h := Option.some.inj h
              subst h
              exact fs_lret (by decide +kernel) rt_203
            · rw [if_neg c68] at h
              by_cases c69 : x3 = (1 : Int32)
              · rw [if_pos c69] at h
                refine fs_tsw_h (dflt := 50) (lo := 0) (hi := 2) (offs := #[28, 34, 42]) (x := x3) (j := 1) (t := 110) (by decide +kernel) (by decide +kernel) (by decide) (c69.trans (by decide)) ?_
                refine fs_dload (k := 4) (p := 112) (by decide +kernel) rfl rfl ?_
                obtain ⟨z78, h⟩ := fx_gd h
                refine fs_d2f (p := 113) (by decide +kernel) rfl z78 ?_
                obtain ⟨z79, h⟩ := fx_gd h
                refine fs_jdk2 (idx := 368) (p := 116) (by decide +kernel) rfl (by decide +kernel) rfl z79 ?_
                refine fs_i2l (p := 117) (by decide +kernel) rfl ?_
                have h := Option.some.inj h
                subst h
                exact fs_lret (by decide +kernel) rt_203
              · rw [if_neg c69] at h
                by_cases c70 : x3 = (2 : Int32)
                · rw [if_pos c70] at h
                  refine fs_tsw_h (dflt := 50) (lo := 0) (hi := 2) (offs := #[28, 34, 42]) (x := x3) (j := 2) (t := 118) (by decide +kernel) (by decide +kernel) (by decide) (c70.trans (by decide)) ?_
                  refine fs_dload (k := 4) (p := 120) (by decide +kernel) rfl rfl ?_
                  refine fs_dconst (n := 1) (p := 121) (by decide +kernel) rfl rfl ?_
                  obtain ⟨z75, h⟩ := fx_gd h
                  refine fs_drem (p := 122) (by decide +kernel) rfl z75 ?_
                  obtain ⟨z76, h⟩ := fx_gd h
                  refine fs_jdk1 (idx := 362) (p := 125) (by decide +kernel) rfl (by decide +kernel) rfl z76 ?_
                  have h := Option.some.inj h
                  subst h
                  exact fs_lret (by decide +kernel) rt_203
                · rw [if_neg c70] at h
                  refine fs_tsw_d (dflt := 50) (lo := 0) (hi := 2) (offs := #[28, 34, 42]) (x := x3) (t := 126) (by decide +kernel) (by decide +kernel) (by decide) (by decide) (fun j hj => by match j, hj with | 0, _ => exact c68 | 1, _ => exact c69 | 2, _ => exact c70) ?_
                  refine fs_dload (k := 4) (p := 128) (by decide +kernel) rfl rfl ?_
                  refine fs_ldc2d (idx := 374) (p := 131) (x := 4602678819172646912) (by decide +kernel) rfl (by decide +kernel) (by decide +kernel) ?_
                  obtain ⟨z72, h⟩ := fx_gd h
                  refine fs_ddiv (p := 132) (by decide +kernel) rfl z72 ?_
                  obtain ⟨z73, h⟩ := fx_gd h
                  refine fs_jdk4 (idx := 376) (p := 135) (by decide +kernel) rfl (by decide +kernel) rfl z73 ?_
                  refine fs_d2l (p := 136) (by decide +kernel) rfl ?_
                  have h := Option.some.inj h
                  subst h
                  exact fs_lret (by decide +kernel) rt_203
          · rw [if_neg c57] at h
            refine fs_if_ne_f (off := 7) (t := 51) (p := 47) (by decide +kernel) (by decide +kernel) rfl c57 ?_
            exact fe_203_47 hd _ _ _ _ _ _ h

/-! ZoneSharesModel.off(I)J -/
theorem mx_204 : iv_mx 204 = 8 := by decide +kernel
theorem rt_204 : iv_rt 204 = some .long := by decide +kernel
def fm_204_14 (σ : fx_S) : Option (Int64 × fx_S) :=
  some ((-9223372036854775808 : Int64), σ)
theorem fe_204_14 {d : Nat} (hd : 31 ≤ d) (o0 : Option Value) (o1 : Option Value) (σ : fx_S) (q : Int64 × fx_S) (h : fm_204_14  σ = some q) : fx_E none 204 d 14 [o0, o1, none, none, none, none, none, none] [] σ (some (.long q.1)) q.2 := by
  unfold fm_204_14 at h
  refine fs_ldc2 (idx := 357) (p := 17) (x := -9223372036854775808) (by decide +kernel) rfl (by decide +kernel) ?_
  have h := Option.some.inj h
  subst h
  exact fs_lret (by decide +kernel) rt_204
def fm_204_120 (k_32 : UInt64 → Int32 → fx_S → Option (Int64 × fx_S)) (x2 : UInt64) (x4 : Int32) (σ : fx_S) : Option (Int64 × fx_S) :=
  k_32 x2 (x4 + (1 : Int32)) σ
theorem fe_204_120 {d : Nat} (hd : 31 ≤ d) {k_32 : UInt64 → Int32 → fx_S → Option (Int64 × fx_S)} (hk_32 : ∀ (x2 : UInt64) (x4 : Int32) (o1 : Option Value) (o5 : Option Value) (o6 : Option Value) (σ : fx_S) (q : Int64 × fx_S), k_32 x2 x4 σ = some q → fx_E none 204 d 32 [some (.ref 215), o1, some (.double x2), none, some (.int x4), o5, o6, none] [] σ (some (.long q.1)) q.2) (x2 : UInt64) (x4 : Int32) (o1 : Option Value) (o5 : Option Value) (o6 : Option Value) (σ : fx_S) (q : Int64 × fx_S) (h : fm_204_120 k_32  x2 x4 σ = some q) : fx_E none 204 d 120 [some (.ref 215), o1, some (.double x2), none, some (.int x4), o5, o6, none] [] σ (some (.long q.1)) q.2 := by
  unfold fm_204_120 at h
  refine fs_iinc (k := 4) (n := 1) (p := 123) (M := 8) (al' := [some (.ref 215), o1, some (.double x2), none, some (.int (x4 + (1 : Int32))), o5, o6, none]) (by decide +kernel) rfl kc_1 mx_204 rfl rfl rfl ?_
  refine fs_goto (off := -91) (p := 32) (by decide +kernel) (by decide +kernel) ?_
  exact hk_32 _ _ _ _ _ _ _ h
def fm_204_42 (k_32 : UInt64 → Int32 → fx_S → Option (Int64 × fx_S)) : Nat → UInt64 → Int32 → Int32 → fx_S → Option (Int64 × fx_S)
  | 0, _, _, _, _ => none
  | n + 1, x2, x4, x5, σ =>
    if (9 : Int32) ≤ x5 then (
      fm_204_120 k_32 x2 x4 σ) else (
      (fx_ld σ 223 x4).bind fun v3 =>
      if v3 ≤ 0 then (
        fm_204_120 k_32 x2 x4 σ) else (
        (fx_ldl σ 221 x4).bind fun v8 =>
        (fm_160 x4 x5 σ).bind fun q11 =>
        (fx_ld q11.2 222 q11.1).bind fun v12 =>
        (fx_ld q11.2 223 x4).bind fun v16 =>
        if id_n6 (FP.ddiv (FP.l2d (v8 * (v12).toInt64)) (FP.i2d v16)) = true then (
        (fm_160 x4 x5 q11.2).bind fun q21 =>
        (fx_ldl q21.2 224 q21.1).bind fun v22 =>
        if id_n6 (FP.dsub (FP.l2d v22) (FP.ddiv (FP.l2d (v8 * (v12).toInt64)) (FP.i2d v16))) = true then (
        if id_n6 (FP.dsub (FP.l2d v22) (FP.ddiv (FP.l2d (v8 * (v12).toInt64)) (FP.i2d v16))) = true then (
        if id_n6 (FP.dadd x2 ((FP.dsub (FP.l2d v22) (FP.ddiv (FP.l2d (v8 * (v12).toInt64)) (FP.i2d v16))) &&& 0x7fffffffffffffff)) = true then (
        fm_204_42 k_32 n (FP.dadd x2 ((FP.dsub (FP.l2d v22) (FP.ddiv (FP.l2d (v8 * (v12).toInt64)) (FP.i2d v16))) &&& 0x7fffffffffffffff)) x4 (x5 + (1 : Int32)) q21.2) else none) else none) else none) else none))
theorem fe_204_42 {d : Nat} (hd : 31 ≤ d) {k_32 : UInt64 → Int32 → fx_S → Option (Int64 × fx_S)} (hk_32 : ∀ (x2 : UInt64) (x4 : Int32) (o1 : Option Value) (o5 : Option Value) (o6 : Option Value) (σ : fx_S) (q : Int64 × fx_S), k_32 x2 x4 σ = some q → fx_E none 204 d 32 [some (.ref 215), o1, some (.double x2), none, some (.int x4), o5, o6, none] [] σ (some (.long q.1)) q.2) : ∀ (n : Nat) (x2 : UInt64) (x4 : Int32) (x5 : Int32) (o1 : Option Value) (o6 : Option Value) (σ : fx_S) (q : Int64 × fx_S), fm_204_42 k_32 n x2 x4 x5 σ = some q → fx_E none 204 d 42 [some (.ref 215), o1, some (.double x2), none, some (.int x4), some (.int x5), o6, none] [] σ (some (.long q.1)) q.2 := by
  intro n
  induction n with
  | zero =>
    intro x2 x4 x5 o1 o6 σ q  h
    rw [fm_204_42] at h
    exact fx_no h
  | succ n ih =>
    intro x2 x4 x5 o1 o6 σ q  h
    rw [fm_204_42] at h
    refine fs_iload (k := 5) (p := 44) (by decide +kernel) rfl rfl ?_
    refine fs_bipush (n := 9) (p := 46) (by decide +kernel) rfl kb_9 ?_
    by_cases c2 : (9 : Int32) ≤ x5
    · rw [if_pos c2] at h
      refine fs_icmp_ge_t (off := 74) (t := 120) (by decide +kernel) (by decide +kernel) c2 ?_
      exact fe_204_120 hd hk_32 _ _ _ _ _ _ _ h
    · rw [if_neg c2] at h
      refine fs_icmp_ge_f (off := 74) (t := 120) (p := 49) (by decide +kernel) (by decide +kernel) rfl c2 ?_
      refine fs_aload_n (k := 0) (p := 50) (by decide +kernel) rfl rfl ?_
      refine fs_gfr (idx := 33) (ci := 10) (j := 14) (p := 53) (by decide +kernel) rfl (by decide +kernel) fo_215 (fr_a215_14) ?_
      refine fs_iload (k := 4) (p := 55) (by decide +kernel) rfl rfl ?_
      obtain ⟨v3, w4, h⟩ := fx_bd h
      refine fs_iaload (p := 56) (by decide +kernel) rfl w4 ?_
      by_cases c7 : v3 ≤ 0
      · rw [if_pos c7] at h
        refine fs_if_le_t (off := 64) (t := 120) (by decide +kernel) (by decide +kernel) c7 ?_
        exact fe_204_120 hd hk_32 _ _ _ _ _ _ _ h
      · rw [if_neg c7] at h
        refine fs_if_le_f (off := 64) (t := 120) (p := 59) (by decide +kernel) (by decide +kernel) rfl c7 ?_
        refine fs_aload_n (k := 0) (p := 60) (by decide +kernel) rfl rfl ?_
        refine fs_gfr (idx := 26) (ci := 10) (j := 12) (p := 63) (by decide +kernel) rfl (by decide +kernel) fo_215 (fr_a215_12) ?_
        refine fs_iload (k := 4) (p := 65) (by decide +kernel) rfl rfl ?_
        obtain ⟨v8, w9, h⟩ := fx_bd h
        refine fs_laload (p := 66) (by decide +kernel) rfl w9 ?_
        refine fs_aload_n (k := 0) (p := 67) (by decide +kernel) rfl rfl ?_
        refine fs_gfr (idx := 30) (ci := 10) (j := 13) (p := 70) (by decide +kernel) rfl (by decide +kernel) fo_215 (fr_a215_13) ?_
        refine fs_iload (k := 4) (p := 72) (by decide +kernel) rfl rfl ?_
        refine fs_iload (k := 5) (p := 74) (by decide +kernel) rfl rfl ?_
        obtain ⟨q11, w10, h⟩ := fx_bd h
        refine fs_callS (idx := 214) (mj := 160) (na := 2) (mx := 2) (p := 77) (args := [.int x4, .int x5]) (rest := [.ref 222, .long v8]) (al2 := [some (.int x4), some (.int x5)]) (by decide +kernel) rfl (by decide +kernel) rfl rfl rfl rfl rfl rfl rfl (by omega) (fun d' hd' => fe_160 (by omega) w10) rfl ?_
        obtain ⟨v12, w13, h⟩ := fx_bd h
        refine fs_iaload (p := 78) (by decide +kernel) rfl w13 ?_
        refine fs_i2l (p := 79) (by decide +kernel) rfl ?_
        refine fs_lmul (p := 80) (by decide +kernel) rfl ?_
        refine fs_l2d (p := 81) (by decide +kernel) rfl ?_
        refine fs_aload_n (k := 0) (p := 82) (by decide +kernel) rfl rfl ?_
        refine fs_gfr (idx := 33) (ci := 10) (j := 14) (p := 85) (by decide +kernel) rfl (by decide +kernel) fo_215 (fr_a215_14) ?_
        refine fs_iload (k := 4) (p := 87) (by decide +kernel) rfl rfl ?_
        obtain ⟨v16, w17, h⟩ := fx_bd h
        refine fs_iaload (p := 88) (by decide +kernel) rfl w17 ?_
        refine fs_i2d (p := 89) (by decide +kernel) rfl ?_
        obtain ⟨z19, h⟩ := fx_gd h
        refine fs_ddiv (p := 90) (by decide +kernel) rfl z19 ?_
        refine fs_dstore (k := 6) (p := 92) (M := 8) (al' := [some (.ref 215), o1, some (.double x2), none, some (.int x4), some (.int x5), some (.double (FP.ddiv (FP.l2d (v8 * (v12).toInt64)) (FP.i2d v16))), none]) (by decide +kernel) rfl mx_204 rfl rfl ?_
        refine fs_dload_n (k := 2) (p := 93) (by decide +kernel) rfl rfl ?_
        refine fs_aload_n (k := 0) (p := 94) (by decide +kernel) rfl rfl ?_
        refine fs_gfr (idx := 36) (ci := 10) (j := 15) (p := 97) (by decide +kernel) rfl (by decide +kernel) fo_215 (fr_a215_15) ?_
        refine fs_iload (k := 4) (p := 99) (by decide +kernel) rfl rfl ?_
        refine fs_iload (k := 5) (p := 101) (by decide +kernel) rfl rfl ?_
        obtain ⟨q21, w20, h⟩ := fx_bd h
        refine fs_callS (idx := 214) (mj := 160) (na := 2) (mx := 2) (p := 104) (args := [.int x4, .int x5]) (rest := [.ref 224, .double x2]) (al2 := [some (.int x4), some (.int x5)]) (by decide +kernel) rfl (by decide +kernel) rfl rfl rfl rfl rfl rfl rfl (by omega) (fun d' hd' => fe_160 (by omega) w20) rfl ?_
        obtain ⟨v22, w23, h⟩ := fx_bd h
        refine fs_laload (p := 105) (by decide +kernel) rfl w23 ?_
        refine fs_l2d (p := 106) (by decide +kernel) rfl ?_
        refine fs_dload (k := 6) (p := 108) (by decide +kernel) rfl rfl ?_
        obtain ⟨z26, h⟩ := fx_gd h
        refine fs_dsub (p := 109) (by decide +kernel) rfl z26 ?_
        obtain ⟨z27, h⟩ := fx_gd h
        refine fs_jdk3 (idx := 380) (p := 112) (by decide +kernel) rfl (by decide +kernel) rfl z27 ?_
        obtain ⟨z29, h⟩ := fx_gd h
        refine fs_dadd (p := 113) (by decide +kernel) rfl z29 ?_
        refine fs_dstore_n (k := 2) (p := 114) (M := 8) (al' := [some (.ref 215), (fx_kl o1), some (.double (FP.dadd x2 ((FP.dsub (FP.l2d v22) (FP.ddiv (FP.l2d (v8 * (v12).toInt64)) (FP.i2d v16))) &&& 0x7fffffffffffffff))), none, some (.int x4), some (.int x5), some (.double (FP.ddiv (FP.l2d (v8 * (v12).toInt64)) (FP.i2d v16))), none]) (by decide +kernel) rfl mx_204 rfl rfl ?_
        refine fs_iinc (k := 5) (n := 1) (p := 117) (M := 8) (al' := [some (.ref 215), (fx_kl o1), some (.double (FP.dadd x2 ((FP.dsub (FP.l2d v22) (FP.ddiv (FP.l2d (v8 * (v12).toInt64)) (FP.i2d v16))) &&& 0x7fffffffffffffff))), none, some (.int x4), some (.int (x5 + (1 : Int32))), some (.double (FP.ddiv (FP.l2d (v8 * (v12).toInt64)) (FP.i2d v16))), none]) (by decide +kernel) rfl kc_1 mx_204 rfl rfl rfl ?_
        refine fs_goto (off := -75) (p := 42) (by decide +kernel) (by decide +kernel) ?_
        exact ih _ _ _ _ _ _ _ h
def fm_204_32 : Nat → UInt64 → Int32 → fx_S → Option (Int64 × fx_S)
  | 0, _, _, _ => none
  | n + 1, x2, x4, σ =>
    if (8 : Int32) ≤ x4 then (
      if id_n6 x2 = true then (
      some ((x2).toInt64, σ)) else none) else (
      fm_204_42 (fm_204_32 n) 100000 x2 x4 (0 : Int32) σ)
theorem fe_204_32 {d : Nat} (hd : 31 ≤ d) : ∀ (n : Nat) (x2 : UInt64) (x4 : Int32) (o1 : Option Value) (o5 : Option Value) (o6 : Option Value) (σ : fx_S) (q : Int64 × fx_S), fm_204_32 n x2 x4 σ = some q → fx_E none 204 d 32 [some (.ref 215), o1, some (.double x2), none, some (.int x4), o5, o6, none] [] σ (some (.long q.1)) q.2 := by
  intro n
  induction n with
  | zero =>
    intro x2 x4 o1 o5 o6 σ q  h
    rw [fm_204_32] at h
    exact fx_no h
  | succ n ih =>
    intro x2 x4 o1 o5 o6 σ q  h
    rw [fm_204_32] at h
    refine fs_iload (k := 4) (p := 34) (by decide +kernel) rfl rfl ?_
    refine fs_bipush (n := 8) (p := 36) (by decide +kernel) rfl kb_8 ?_
    by_cases c2 : (8 : Int32) ≤ x4
    · rw [if_pos c2] at h
      refine fs_icmp_ge_t (off := 90) (t := 126) (by decide +kernel) (by decide +kernel) c2 ?_
      refine fs_dload_n (k := 2) (p := 127) (by decide +kernel) rfl rfl ?_
      obtain ⟨z4, h⟩ := fx_gd h
      refine fs_jdk1 (idx := 362) (p := 130) (by decide +kernel) rfl (by decide +kernel) rfl z4 ?_
      have h := Option.some.inj h
      subst h
      exact fs_lret (by decide +kernel) rt_204
    · rw [if_neg c2] at h
      refine fs_icmp_ge_f (off := 90) (t := 126) (p := 39) (by decide +kernel) (by decide +kernel) rfl c2 ?_
      refine fs_iconst (n := 0) (p := 40) (by decide +kernel) rfl kc_0 ?_
      refine fs_istore (k := 5) (p := 42) (M := 8) (al' := [some (.ref 215), o1, some (.double x2), none, some (.int x4), some (.int (0 : Int32)), o6, none]) (by decide +kernel) rfl mx_204 rfl rfl ?_
      exact fe_204_42 hd ih 100000 _ _ _ _ _ _ _ h
def fm_204 (x1 : Int32) (σ : fx_S) : Option (Int64 × fx_S) :=
  (fm_150 σ).bind fun q78 =>
  if (fx_b q78.1) = 0 then (
    fm_204_14 q78.2) else (
    (fm_148 x1 q78.2).bind fun q81 =>
    if ¬ (fx_b q81.1) = 0 then (
      (fm_181 x1 q81.2).bind fun q84 =>
      (fm_173 q84).bind fun q86 =>
      fm_204_32 100000 FP.dconst0 (0 : Int32) q86) else (
      fm_204_14 q81.2))
theorem fe_204 {d : Nat} (hd : 31 ≤ d) {x1 : Int32} {σ : fx_S} {q : Int64 × fx_S} (h : fm_204 x1 σ = some q) : fx_E none 204 d 0 [some (.ref 215), some (.int x1), none, none, none, none, none, none] [] σ (some (.long q.1)) q.2 := by
  unfold fm_204 at h
  refine fs_aload_n (k := 0) (p := 1) (by decide +kernel) rfl rfl ?_
  obtain ⟨q78, w77, h⟩ := fx_bd h
  refine fs_callV (idx := 303) (mj := 150) (ci := 10) (na := 0) (mx := 1) (p := 4) (args := [.ref 215]) (rest := []) (al2 := [some (.ref 215)]) (by decide +kernel) rfl (by decide +kernel) fo_215 rfl rfl rfl rfl rfl rfl rfl (by omega) (fun d' hd' => fe_150 (by omega) w77) rfl ?_
  by_cases c79 : (fx_b q78.1) = 0
  · rw [if_pos c79] at h
    refine fs_if_eq_t (off := 10) (t := 14) (by decide +kernel) (by decide +kernel) c79 ?_
    exact fe_204_14 hd _ _ _ _ h
  · rw [if_neg c79] at h
    refine fs_if_eq_f (off := 10) (t := 14) (p := 7) (by decide +kernel) (by decide +kernel) rfl c79 ?_
    refine fs_iload_n (k := 1) (p := 8) (by decide +kernel) rfl rfl ?_
    obtain ⟨q81, w80, h⟩ := fx_bd h
    refine fs_callS (idx := 190) (mj := 148) (na := 1) (mx := 1) (p := 11) (args := [.int x1]) (rest := []) (al2 := [some (.int x1)]) (by decide +kernel) rfl (by decide +kernel) rfl rfl rfl rfl rfl rfl rfl (by omega) (fun d' hd' => fe_148 (by omega) w80) rfl ?_
    by_cases c82 : ¬ (fx_b q81.1) = 0
    · rw [if_pos c82] at h
      refine fs_if_ne_t (off := 7) (t := 18) (by decide +kernel) (by decide +kernel) c82 ?_
      refine fs_aload_n (k := 0) (p := 19) (by decide +kernel) rfl rfl ?_
      refine fs_iload_n (k := 1) (p := 20) (by decide +kernel) rfl rfl ?_
      obtain ⟨q84, w83, h⟩ := fx_bd h
      refine fs_callV (idx := 312) (mj := 181) (ci := 10) (na := 1) (mx := 5) (p := 23) (args := [.ref 215, .int x1]) (rest := []) (al2 := [some (.ref 215), some (.int x1), none, none, none]) (by decide +kernel) rfl (by decide +kernel) fo_215 rfl rfl rfl rfl rfl rfl rfl (by omega) (fun d' hd' => fe_181 (by omega) w83) rfl ?_
      refine fs_aload_n (k := 0) (p := 24) (by decide +kernel) rfl rfl ?_
      obtain ⟨q86, w85, h⟩ := fx_bd h
      refine fs_callV (idx := 315) (mj := 173) (ci := 10) (na := 0) (mx := 2) (p := 27) (args := [.ref 215]) (rest := []) (al2 := [some (.ref 215), none]) (by decide +kernel) rfl (by decide +kernel) fo_215 rfl rfl rfl rfl rfl rfl rfl (by omega) (fun d' hd' => fe_173 (by omega) w85) rfl ?_
      refine fs_dconst (n := 0) (p := 28) (by decide +kernel) rfl rfl ?_
      refine fs_dstore_n (k := 2) (p := 29) (M := 8) (al' := [some (.ref 215), some (.int x1), some (.double FP.dconst0), none, none, none, none, none]) (by decide +kernel) rfl mx_204 rfl rfl ?_
      refine fs_iconst (n := 0) (p := 30) (by decide +kernel) rfl kc_0 ?_
      refine fs_istore (k := 4) (p := 32) (M := 8) (al' := [some (.ref 215), some (.int x1), some (.double FP.dconst0), none, some (.int (0 : Int32)), none, none, none]) (by decide +kernel) rfl mx_204 rfl rfl ?_
      exact fe_204_32 hd 100000 _ _ _ _ _ _ _ h
    · rw [if_neg c82] at h
      refine fs_if_ne_f (off := 7) (t := 18) (p := 14) (by decide +kernel) (by decide +kernel) rfl c82 ?_
      exact fe_204_14 hd _ _ _ _ h
