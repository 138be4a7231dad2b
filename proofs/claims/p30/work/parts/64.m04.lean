/-! ZoneSharesModel.district(II)I -/
theorem mx_216 : iv_mx 216 = 4 := by decide +kernel
theorem rt_216 : iv_rt 216 = some .int := by decide +kernel
def fm_216 (x1 : Int32) (x2 : Int32) (σ : fx_S) : Option (Int32 × fx_S) :=
  (fm_130 (x1).toInt64 (0 : Int64) (7 : Int64) σ).bind fun q15 =>
  if (fx_b q15.1) = 0 then (
    some ((-1 : Int32), q15.2)) else (
    (fm_130 (x2).toInt64 (0 : Int64) (3 : Int64) q15.2).bind fun q18 =>
    if ¬ (fx_b q18.1) = 0 then (
      (fx_ld q18.2 216 ((44 : Int32) + x1)).bind fun v20 =>
      if ¬ v20 = x2 then (
        (fm_132 q18.2).bind fun q24 =>
        (fx_st q24 216 ((44 : Int32) + x1) x2).bind fun t25 =>
        some (v20, t25)) else (
        some ((-2 : Int32), q18.2))) else (
      some ((-1 : Int32), q18.2)))
theorem fe_216 {d : Nat} (hd : 1 ≤ d) {x1 : Int32} {x2 : Int32} {σ : fx_S} {q : Int32 × fx_S} (h : fm_216 x1 x2 σ = some q) : fx_E none 216 d 0 [some (.ref 215), some (.int x1), some (.int x2), none] [] σ (some (.int q.1)) q.2 := by
  unfold fm_216 at h
  refine fs_iload_n (k := 1) (p := 1) (by decide +kernel) rfl rfl ?_
  refine fs_i2l (p := 2) (by decide +kernel) rfl ?_
  refine fs_lconst (n := 0) (p := 3) (by decide +kernel) rfl kl_0 ?_
  refine fs_ldc2 (idx := 308) (p := 6) (x := 7) (by decide +kernel) rfl (by decide +kernel) ?_
  obtain ⟨q15, e14, h⟩ := fx_bd h
  refine fs_callS (idx := 128) (mj := 130) (na := 3) (mx := 6) (p := 9) (args := [.long (x1).toInt64, .long (0 : Int64), .long (7 : Int64)]) (rest := []) (al2 := [some (.long (x1).toInt64), none, some (.long (0 : Int64)), none, some (.long (7 : Int64)), none]) (by decide +kernel) rfl (by decide +kernel) rfl rfl rfl rfl rfl rfl rfl (by omega) (fun d' hd' => fe_130 (by omega) e14) rfl ?_
  by_cases c16 : (fx_b q15.1) = 0
  · rw [if_pos c16] at h
    refine fs_if_eq_t (off := 15) (t := 24) (by decide +kernel) (by decide +kernel) c16 ?_
    refine fs_iconst (n := -1) (p := 25) (by decide +kernel) rfl kc_m1 ?_
    have h := Option.some.inj h
    subst h
    exact fs_iret (by decide +kernel) rt_216
  · rw [if_neg c16] at h
    refine fs_if_eq_f (off := 15) (t := 24) (p := 12) (by decide +kernel) (by decide +kernel) rfl c16 ?_
    refine fs_iload_n (k := 2) (p := 13) (by decide +kernel) rfl rfl ?_
    refine fs_i2l (p := 14) (by decide +kernel) rfl ?_
    refine fs_lconst (n := 0) (p := 15) (by decide +kernel) rfl kl_0 ?_
    refine fs_ldc2 (idx := 327) (p := 18) (x := 3) (by decide +kernel) rfl (by decide +kernel) ?_
    obtain ⟨q18, e17, h⟩ := fx_bd h
    refine fs_callS (idx := 128) (mj := 130) (na := 3) (mx := 6) (p := 21) (args := [.long (x2).toInt64, .long (0 : Int64), .long (3 : Int64)]) (rest := []) (al2 := [some (.long (x2).toInt64), none, some (.long (0 : Int64)), none, some (.long (3 : Int64)), none]) (by decide +kernel) rfl (by decide +kernel) rfl rfl rfl rfl rfl rfl rfl (by omega) (fun d' hd' => fe_130 (by omega) e17) rfl ?_
    by_cases c19 : ¬ (fx_b q18.1) = 0
    · rw [if_pos c19] at h
      refine fs_if_ne_t (off := 5) (t := 26) (by decide +kernel) (by decide +kernel) c19 ?_
      refine fs_aload_n (k := 0) (p := 27) (by decide +kernel) rfl rfl ?_
      refine fs_gfr (idx := 9) (ci := 10) (j := 0) (p := 30) (by decide +kernel) rfl (by decide +kernel) fo_215 (fr_a215_0) ?_
      refine fs_bipush (n := 44) (p := 32) (by decide +kernel) rfl kb_44 ?_
      refine fs_iload_n (k := 1) (p := 33) (by decide +kernel) rfl rfl ?_
      refine fs_iadd (p := 34) (by decide +kernel) rfl ?_
      obtain ⟨v20, e21, h⟩ := fx_bd h
      refine fs_iaload (p := 35) (by decide +kernel) rfl e21 ?_
      refine fs_istore_n (k := 3) (p := 36) (M := 4) (al' := [some (.ref 215), some (.int x1), some (.int x2), some (.int v20)]) (by decide +kernel) rfl mx_216 rfl rfl ?_
      refine fs_iload_n (k := 3) (p := 37) (by decide +kernel) rfl rfl ?_
      refine fs_iload_n (k := 2) (p := 38) (by decide +kernel) rfl rfl ?_
      by_cases c22 : ¬ v20 = x2
      · rw [if_pos c22] at h
        refine fs_icmp_ne_t (off := 6) (t := 44) (by decide +kernel) (by decide +kernel) c22 ?_
        refine fs_aload_n (k := 0) (p := 45) (by decide +kernel) rfl rfl ?_
        obtain ⟨q24, e23, h⟩ := fx_bd h
        refine fs_callV (idx := 170) (mj := 132) (ci := 10) (na := 0) (mx := 2) (p := 48) (args := [.ref 215]) (rest := []) (al2 := [some (.ref 215), none]) (by decide +kernel) rfl (by decide +kernel) fo_215 rfl rfl rfl rfl rfl rfl rfl (by omega) (fun d' hd' => fe_132 (by omega) e23) rfl ?_
        refine fs_aload_n (k := 0) (p := 49) (by decide +kernel) rfl rfl ?_
        refine fs_gfr (idx := 9) (ci := 10) (j := 0) (p := 52) (by decide +kernel) rfl (by decide +kernel) fo_215 (fr_a215_0) ?_
        refine fs_bipush (n := 44) (p := 54) (by decide +kernel) rfl kb_44 ?_
        refine fs_iload_n (k := 1) (p := 55) (by decide +kernel) rfl rfl ?_
        refine fs_iadd (p := 56) (by decide +kernel) rfl ?_
        refine fs_iload_n (k := 2) (p := 57) (by decide +kernel) rfl rfl ?_
        obtain ⟨t25, e26, h⟩ := fx_bd h
        refine fs_iastore (p := 58) (by decide +kernel) rfl e26 ?_
        refine fs_iload_n (k := 3) (p := 59) (by decide +kernel) rfl rfl ?_
        have h := Option.some.inj h
        subst h
        exact fs_iret (by decide +kernel) rt_216
      · rw [if_neg c22] at h
        refine fs_icmp_ne_f (off := 6) (t := 44) (p := 41) (by decide +kernel) (by decide +kernel) rfl c22 ?_
        refine fs_bipush (n := -2) (p := 43) (by decide +kernel) rfl kb_m2 ?_
        have h := Option.some.inj h
        subst h
        exact fs_iret (by decide +kernel) rt_216
    · rw [if_neg c19] at h
      refine fs_if_ne_f (off := 5) (t := 26) (p := 24) (by decide +kernel) (by decide +kernel) rfl c19 ?_
      refine fs_iconst (n := -1) (p := 25) (by decide +kernel) rfl kc_m1 ?_
      have h := Option.some.inj h
      subst h
      exact fs_iret (by decide +kernel) rt_216

/-! ZoneSharesModel.cell(III)I -/
theorem mx_218 : iv_mx 218 = 5 := by decide +kernel
theorem rt_218 : iv_rt 218 = some .int := by decide +kernel
def fm_218 (x1 : Int32) (x2 : Int32) (x3 : Int32) (σ : fx_S) : Option (Int32 × fx_S) :=
  (fm_130 (x1).toInt64 (0 : Int64) (2 : Int64) σ).bind fun q15 =>
  if (fx_b q15.1) = 0 then (
    some ((-1 : Int32), q15.2)) else (
    (fm_144 x1 q15.2).bind fun q18 =>
    if (fx_b q18.1) = 0 then (
      some ((-1 : Int32), q18.2)) else (
      (fm_198 x2 x3 q18.2).bind fun q21 =>
      if ¬ (fx_b q21.1) = 0 then (
        (fx_ld q21.2 216 ((((52 : Int32) + ((96 : Int32) * x1)) + ((12 : Int32) * x2)) + x3)).bind fun v23 =>
        if ¬ x1 = (2 : Int32) then (
          if ¬ v23 = (8 : Int32) then (
            some (((97 : Int32) + v23), q21.2)) else (
            some ((46 : Int32), q21.2))) else (
          some (((48 : Int32) + v23), q21.2))) else (
        some ((-1 : Int32), q21.2))))
theorem fe_218 {d : Nat} (hd : 2 ≤ d) {x1 : Int32} {x2 : Int32} {x3 : Int32} {σ : fx_S} {q : Int32 × fx_S} (h : fm_218 x1 x2 x3 σ = some q) : fx_E none 218 d 0 [some (.ref 215), some (.int x1), some (.int x2), some (.int x3), none] [] σ (some (.int q.1)) q.2 := by
  unfold fm_218 at h
  refine fs_iload_n (k := 1) (p := 1) (by decide +kernel) rfl rfl ?_
  refine fs_i2l (p := 2) (by decide +kernel) rfl ?_
  refine fs_lconst (n := 0) (p := 3) (by decide +kernel) rfl kl_0 ?_
  refine fs_ldc2 (idx := 161) (p := 6) (x := 2) (by decide +kernel) rfl (by decide +kernel) ?_
  obtain ⟨q15, e14, h⟩ := fx_bd h
  refine fs_callS (idx := 128) (mj := 130) (na := 3) (mx := 6) (p := 9) (args := [.long (x1).toInt64, .long (0 : Int64), .long (2 : Int64)]) (rest := []) (al2 := [some (.long (x1).toInt64), none, some (.long (0 : Int64)), none, some (.long (2 : Int64)), none]) (by decide +kernel) rfl (by decide +kernel) rfl rfl rfl rfl rfl rfl rfl (by omega) (fun d' hd' => fe_130 (by omega) e14) rfl ?_
  by_cases c16 : (fx_b q15.1) = 0
  · rw [if_pos c16] at h
    refine fs_if_eq_t (off := 20) (t := 29) (by decide +kernel) (by decide +kernel) c16 ?_
    refine fs_iconst (n := -1) (p := 30) (by decide +kernel) rfl kc_m1 ?_
    have h := Option.some.inj h
    subst h
    exact fs_iret (by decide +kernel) rt_218
  · rw [if_neg c16] at h
    refine fs_if_eq_f (off := 20) (t := 29) (p := 12) (by decide +kernel) (by decide +kernel) rfl c16 ?_
    refine fs_aload_n (k := 0) (p := 13) (by decide +kernel) rfl rfl ?_
    refine fs_iload_n (k := 1) (p := 14) (by decide +kernel) rfl rfl ?_
    obtain ⟨q18, e17, h⟩ := fx_bd h
    refine fs_callV (idx := 163) (mj := 144) (ci := 10) (na := 1) (mx := 2) (p := 17) (args := [.ref 215, .int x1]) (rest := []) (al2 := [some (.ref 215), some (.int x1)]) (by decide +kernel) rfl (by decide +kernel) fo_215 rfl rfl rfl rfl rfl rfl rfl (by omega) (fun d' hd' => fe_144 (by omega) e17) rfl ?_
    by_cases c19 : (fx_b q18.1) = 0
    · rw [if_pos c19] at h
      refine fs_if_eq_t (off := 12) (t := 29) (by decide +kernel) (by decide +kernel) c19 ?_
      refine fs_iconst (n := -1) (p := 30) (by decide +kernel) rfl kc_m1 ?_
      have h := Option.some.inj h
      subst h
      exact fs_iret (by decide +kernel) rt_218
    · rw [if_neg c19] at h
      refine fs_if_eq_f (off := 12) (t := 29) (p := 20) (by decide +kernel) (by decide +kernel) rfl c19 ?_
      refine fs_aload_n (k := 0) (p := 21) (by decide +kernel) rfl rfl ?_
      refine fs_iload_n (k := 2) (p := 22) (by decide +kernel) rfl rfl ?_
      refine fs_iload_n (k := 3) (p := 23) (by decide +kernel) rfl rfl ?_
      obtain ⟨q21, e20, h⟩ := fx_bd h
      refine fs_callV (idx := 346) (mj := 198) (ci := 10) (na := 2) (mx := 3) (p := 26) (args := [.ref 215, .int x2, .int x3]) (rest := []) (al2 := [some (.ref 215), some (.int x2), some (.int x3)]) (by decide +kernel) rfl (by decide +kernel) fo_215 rfl rfl rfl rfl rfl rfl rfl (by omega) (fun d' hd' => fe_198 (by omega) e20) rfl ?_
      by_cases c22 : ¬ (fx_b q21.1) = 0
      · rw [if_pos c22] at h
        refine fs_if_ne_t (off := 5) (t := 31) (by decide +kernel) (by decide +kernel) c22 ?_
        refine fs_aload_n (k := 0) (p := 32) (by decide +kernel) rfl rfl ?_
        refine fs_gfr (idx := 9) (ci := 10) (j := 0) (p := 35) (by decide +kernel) rfl (by decide +kernel) fo_215 (fr_a215_0) ?_
        refine fs_bipush (n := 52) (p := 37) (by decide +kernel) rfl kb_52 ?_
        refine fs_bipush (n := 96) (p := 39) (by decide +kernel) rfl kb_96 ?_
        refine fs_iload_n (k := 1) (p := 40) (by decide +kernel) rfl rfl ?_
        refine fs_imul (p := 41) (by decide +kernel) rfl ?_
        refine fs_iadd (p := 42) (by decide +kernel) rfl ?_
        refine fs_bipush (n := 12) (p := 44) (by decide +kernel) rfl kb_12 ?_
        refine fs_iload_n (k := 2) (p := 45) (by decide +kernel) rfl rfl ?_
        refine fs_imul (p := 46) (by decide +kernel) rfl ?_
        refine fs_iadd (p := 47) (by decide +kernel) rfl ?_
        refine fs_iload_n (k := 3) (p := 48) (by decide +kernel) rfl rfl ?_
        refine fs_iadd (p := 49) (by decide +kernel) rfl ?_
        obtain ⟨v23, e24, h⟩ := fx_bd h
        refine fs_iaload (p := 50) (by decide +kernel) rfl e24 ?_
        refine fs_istore (k := 4) (p := 52) (M := 5) (al' := [some (.ref 215), some (.int x1), some (.int x2), some (.int x3), some (.int v23)]) (by decide +kernel) rfl mx_218 rfl rfl ?_
        refine fs_iload_n (k := 1) (p := 53) (by decide +kernel) rfl rfl ?_
        refine fs_iconst (n := 2) (p := 54) (by decide +kernel) rfl kc_2 ?_
        by_cases c25 : ¬ x1 = (2 : Int32)
        · rw [if_pos c25] at h
          refine fs_icmp_ne_t (off := 11) (t := 65) (by decide +kernel) (by decide +kernel) c25 ?_
          refine fs_iload (k := 4) (p := 67) (by decide +kernel) rfl rfl ?_
          refine fs_bipush (n := 8) (p := 69) (by decide +kernel) rfl kb_8 ?_
          by_cases c26 : ¬ v23 = (8 : Int32)
          · rw [if_pos c26] at h
            refine fs_icmp_ne_t (off := 8) (t := 77) (by decide +kernel) (by decide +kernel) c26 ?_
            refine fs_bipush (n := 97) (p := 79) (by decide +kernel) rfl kb_97 ?_
            refine fs_iload (k := 4) (p := 81) (by decide +kernel) rfl rfl ?_
            refine fs_iadd (p := 82) (by decide +kernel) rfl ?_
            have h := Option.some.inj h
            subst h
            exact fs_iret (by decide +kernel) rt_218
          · rw [if_neg c26] at h
            refine fs_icmp_ne_f (off := 8) (t := 77) (p := 72) (by decide +kernel) (by decide +kernel) rfl c26 ?_
            refine fs_bipush (n := 46) (p := 74) (by decide +kernel) rfl kb_46 ?_
            refine fs_goto (off := 8) (p := 82) (by decide +kernel) (by decide +kernel) ?_
            have h := Option.some.inj h
            subst h
            exact fs_iret (by decide +kernel) rt_218
        · rw [if_neg c25] at h
          refine fs_icmp_ne_f (off := 11) (t := 65) (p := 57) (by decide +kernel) (by decide +kernel) rfl c25 ?_
          refine fs_bipush (n := 48) (p := 59) (by decide +kernel) rfl kb_48 ?_
          refine fs_iload (k := 4) (p := 61) (by decide +kernel) rfl rfl ?_
          refine fs_iadd (p := 62) (by decide +kernel) rfl ?_
          refine fs_goto (off := 20) (p := 82) (by decide +kernel) (by decide +kernel) ?_
          have h := Option.some.inj h
          subst h
          exact fs_iret (by decide +kernel) rt_218
      · rw [if_neg c22] at h
        refine fs_if_ne_f (off := 5) (t := 31) (p := 29) (by decide +kernel) (by decide +kernel) rfl c22 ?_
        refine fs_iconst (n := -1) (p := 30) (by decide +kernel) rfl kc_m1 ?_
        have h := Option.some.inj h
        subst h
        exact fs_iret (by decide +kernel) rt_218

/-! ZoneSharesModel.pieceCells(III)I -/
theorem mx_219 : iv_mx 219 = 6 := by decide +kernel
theorem rt_219 : iv_rt 219 = some .int := by decide +kernel
def fm_219_55 (k_6 : Int32 → Int32 → Int32 → Int32 → Int32 → fx_S → Option (Int32 × fx_S)) (x1 : Int32) (x2 : Int32) (x3 : Int32) (x5 : Int32) (s0 : Int32) (s1 : Int32) (σ : fx_S) : Option (Int32 × fx_S) :=
  (fm_131 s1 σ).bind fun q2 =>
  k_6 x1 x2 x3 (s0 + q2.1) (x5 + (1 : Int32)) q2.2
theorem fe_219_55 {d : Nat} (hd : 1 ≤ d) {k_6 : Int32 → Int32 → Int32 → Int32 → Int32 → fx_S → Option (Int32 × fx_S)} (hk_6 : ∀ (x1 : Int32) (x2 : Int32) (x3 : Int32) (x4 : Int32) (x5 : Int32) (σ : fx_S) (q : Int32 × fx_S), k_6 x1 x2 x3 x4 x5 σ = some q → fx_E none 219 d 6 [some (.ref 215), some (.int x1), some (.int x2), some (.int x3), some (.int x4), some (.int x5)] [] σ (some (.int q.1)) q.2) (x1 : Int32) (x2 : Int32) (x3 : Int32) (x5 : Int32) (s0 : Int32) (s1 : Int32) (o4 : Option Value) (σ : fx_S) (q : Int32 × fx_S) (h : fm_219_55 k_6  x1 x2 x3 x5 s0 s1 σ = some q) : fx_E none 219 d 55 [some (.ref 215), some (.int x1), some (.int x2), some (.int x3), o4, some (.int x5)] [.int s1, .int s0] σ (some (.int q.1)) q.2 := by
  unfold fm_219_55 at h
  obtain ⟨q2, e1, h⟩ := fx_bd h
  refine fs_callS (idx := 186) (mj := 131) (na := 1) (mx := 1) (p := 58) (args := [.int s1]) (rest := [.int s0]) (al2 := [some (.int s1)]) (by decide +kernel) rfl (by decide +kernel) rfl rfl rfl rfl rfl rfl rfl (by omega) (fun d' hd' => fe_131 (by omega) e1) rfl ?_
  refine fs_iadd (p := 59) (by decide +kernel) rfl ?_
  refine fs_istore (k := 4) (p := 61) (M := 6) (al' := [some (.ref 215), some (.int x1), some (.int x2), some (.int x3), some (.int (s0 + q2.1)), some (.int x5)]) (by decide +kernel) rfl mx_219 rfl rfl ?_
  refine fs_iinc (k := 5) (n := 1) (p := 64) (M := 6) (al' := [some (.ref 215), some (.int x1), some (.int x2), some (.int x3), some (.int (s0 + q2.1)), some (.int (x5 + (1 : Int32)))]) (by decide +kernel) rfl kc_1 mx_219 rfl rfl rfl ?_
  refine fs_goto (off := -58) (p := 6) (by decide +kernel) (by decide +kernel) ?_
  exact hk_6 _ _ _ _ _ _ _ h
def fm_219_6 : Nat → Int32 → Int32 → Int32 → Int32 → Int32 → fx_S → Option (Int32 × fx_S)
  | 0, _, _, _, _, _, _ => none
  | n + 1, x1, x2, x3, x4, x5, σ =>
    (fm_151 σ).bind fun q2 =>
    if q2.1 ≤ x5 then (
      some (x4, q2.2)) else (
      (fm_152 (0 : Int32) x5 q2.2).bind fun q5 =>
      if ¬ q5.1 = x1 then (
        fm_219_55 (fm_219_6 n) x1 x2 x3 x5 x4 (0 : Int32) q5.2) else (
        (fm_152 (1 : Int32) x5 q5.2).bind fun q8 =>
        if ¬ q8.1 = x2 then (
          fm_219_55 (fm_219_6 n) x1 x2 x3 x5 x4 (0 : Int32) q8.2) else (
          (fm_152 (2 : Int32) x5 q8.2).bind fun q11 =>
          fm_219_55 (fm_219_6 n) x1 x2 x3 x5 x4 (if ¬ q11.1 = x3 then (0 : Int32) else (1 : Int32)) q11.2)))
theorem fe_219_6 {d : Nat} (hd : 1 ≤ d) : ∀ (n : Nat) (x1 : Int32) (x2 : Int32) (x3 : Int32) (x4 : Int32) (x5 : Int32) (σ : fx_S) (q : Int32 × fx_S), fm_219_6 n x1 x2 x3 x4 x5 σ = some q → fx_E none 219 d 6 [some (.ref 215), some (.int x1), some (.int x2), some (.int x3), some (.int x4), some (.int x5)] [] σ (some (.int q.1)) q.2 := by
  intro n
  induction n with
  | zero =>
    intro x1 x2 x3 x4 x5 σ q  h
    rw [fm_219_6] at h
    exact fx_no h
  | succ n ih =>
    intro x1 x2 x3 x4 x5 σ q  h
    rw [fm_219_6] at h
    refine fs_iload (k := 5) (p := 8) (by decide +kernel) rfl rfl ?_
    refine fs_aload_n (k := 0) (p := 9) (by decide +kernel) rfl rfl ?_
    obtain ⟨q2, e1, h⟩ := fx_bd h
    refine fs_callV (idx := 196) (mj := 151) (ci := 10) (na := 0) (mx := 1) (p := 12) (args := [.ref 215]) (rest := [.int x5]) (al2 := [some (.ref 215)]) (by decide +kernel) rfl (by decide +kernel) fo_215 rfl rfl rfl rfl rfl rfl rfl (by omega) (fun d' hd' => fe_151 (by omega) e1) rfl ?_
    by_cases c3 : q2.1 ≤ x5
    · rw [if_pos c3] at h
      refine fs_icmp_ge_t (off := 55) (t := 67) (by decide +kernel) (by decide +kernel) c3 ?_
      refine fs_iload (k := 4) (p := 69) (by decide +kernel) rfl rfl ?_
      have h := Option.some.inj h
      subst h
      exact fs_iret (by decide +kernel) rt_219
    · rw [if_neg c3] at h
      refine fs_icmp_ge_f (off := 55) (t := 67) (p := 15) (by decide +kernel) (by decide +kernel) rfl c3 ?_
      refine fs_iload (k := 4) (p := 17) (by decide +kernel) rfl rfl ?_
      refine fs_aload_n (k := 0) (p := 18) (by decide +kernel) rfl rfl ?_
      refine fs_iconst (n := 0) (p := 19) (by decide +kernel) rfl kc_0 ?_
      refine fs_iload (k := 5) (p := 21) (by decide +kernel) rfl rfl ?_
      obtain ⟨q5, e4, h⟩ := fx_bd h
      refine fs_callV (idx := 199) (mj := 152) (ci := 10) (na := 2) (mx := 3) (p := 24) (args := [.ref 215, .int (0 : Int32), .int x5]) (rest := [.int x4]) (al2 := [some (.ref 215), some (.int (0 : Int32)), some (.int x5)]) (by decide +kernel) rfl (by decide +kernel) fo_215 rfl rfl rfl rfl rfl rfl rfl (by omega) (fun d' hd' => fe_152 (by omega) e4) rfl ?_
      refine fs_iload_n (k := 1) (p := 25) (by decide +kernel) rfl rfl ?_
      by_cases c6 : ¬ q5.1 = x1
      · rw [if_pos c6] at h
        refine fs_icmp_ne_t (off := 29) (t := 54) (by decide +kernel) (by decide +kernel) c6 ?_
        refine fs_iconst (n := 0) (p := 55) (by decide +kernel) rfl kc_0 ?_
        exact fe_219_55 hd ih _ _ _ _ _ _ _ _ _ h
      · rw [if_neg c6] at h
        refine fs_icmp_ne_f (off := 29) (t := 54) (p := 28) (by decide +kernel) (by decide +kernel) rfl c6 ?_
        refine fs_aload_n (k := 0) (p := 29) (by decide +kernel) rfl rfl ?_
        refine fs_iconst (n := 1) (p := 30) (by decide +kernel) rfl kc_1 ?_
        refine fs_iload (k := 5) (p := 32) (by decide +kernel) rfl rfl ?_
        obtain ⟨q8, e7, h⟩ := fx_bd h
        refine fs_callV (idx := 199) (mj := 152) (ci := 10) (na := 2) (mx := 3) (p := 35) (args := [.ref 215, .int (1 : Int32), .int x5]) (rest := [.int x4]) (al2 := [some (.ref 215), some (.int (1 : Int32)), some (.int x5)]) (by decide +kernel) rfl (by decide +kernel) fo_215 rfl rfl rfl rfl rfl rfl rfl (by omega) (fun d' hd' => fe_152 (by omega) e7) rfl ?_
        refine fs_iload_n (k := 2) (p := 36) (by decide +kernel) rfl rfl ?_
        by_cases c9 : ¬ q8.1 = x2
        · rw [if_pos c9] at h
          refine fs_icmp_ne_t (off := 18) (t := 54) (by decide +kernel) (by decide +kernel) c9 ?_
          refine fs_iconst (n := 0) (p := 55) (by decide +kernel) rfl kc_0 ?_
          exact fe_219_55 hd ih _ _ _ _ _ _ _ _ _ h
        · rw [if_neg c9] at h
          refine fs_icmp_ne_f (off := 18) (t := 54) (p := 39) (by decide +kernel) (by decide +kernel) rfl c9 ?_
          refine fs_aload_n (k := 0) (p := 40) (by decide +kernel) rfl rfl ?_
          refine fs_iconst (n := 2) (p := 41) (by decide +kernel) rfl kc_2 ?_
          refine fs_iload (k := 5) (p := 43) (by decide +kernel) rfl rfl ?_
          obtain ⟨q11, e10, h⟩ := fx_bd h
          refine fs_callV (idx := 199) (mj := 152) (ci := 10) (na := 2) (mx := 3) (p := 46) (args := [.ref 215, .int (2 : Int32), .int x5]) (rest := [.int x4]) (al2 := [some (.ref 215), some (.int (2 : Int32)), some (.int x5)]) (by decide +kernel) rfl (by decide +kernel) fo_215 rfl rfl rfl rfl rfl rfl rfl (by omega) (fun d' hd' => fe_152 (by omega) e10) rfl ?_
          refine fs_iload_n (k := 3) (p := 47) (by decide +kernel) rfl rfl ?_
          by_cases c12 : ¬ q11.1 = x3
          · rw [if_pos c12] at h
            refine fs_icmp_ne_t (off := 7) (t := 54) (by decide +kernel) (by decide +kernel) c12 ?_
            refine fs_iconst (n := 0) (p := 55) (by decide +kernel) rfl kc_0 ?_
            exact fe_219_55 hd ih _ _ _ _ _ _ _ _ _ h
          · rw [if_neg c12] at h
            refine fs_icmp_ne_f (off := 7) (t := 54) (p := 50) (by decide +kernel) (by decide +kernel) rfl c12 ?_
            refine fs_iconst (n := 1) (p := 51) (by decide +kernel) rfl kc_1 ?_
            refine fs_goto (off := 4) (p := 55) (by decide +kernel) (by decide +kernel) ?_
            exact fe_219_55 hd ih _ _ _ _ _ _ _ _ _ h
def fm_219 (x1 : Int32) (x2 : Int32) (x3 : Int32) (σ : fx_S) : Option (Int32 × fx_S) :=
  fm_219_6 100000 x1 x2 x3 (0 : Int32) (0 : Int32) σ
theorem fe_219 {d : Nat} (hd : 1 ≤ d) {x1 : Int32} {x2 : Int32} {x3 : Int32} {σ : fx_S} {q : Int32 × fx_S} (h : fm_219 x1 x2 x3 σ = some q) : fx_E none 219 d 0 [some (.ref 215), some (.int x1), some (.int x2), some (.int x3), none, none] [] σ (some (.int q.1)) q.2 := by
  unfold fm_219 at h
  refine fs_iconst (n := 0) (p := 1) (by decide +kernel) rfl kc_0 ?_
  refine fs_istore (k := 4) (p := 3) (M := 6) (al' := [some (.ref 215), some (.int x1), some (.int x2), some (.int x3), some (.int (0 : Int32)), none]) (by decide +kernel) rfl mx_219 rfl rfl ?_
  refine fs_iconst (n := 0) (p := 4) (by decide +kernel) rfl kc_0 ?_
  refine fs_istore (k := 5) (p := 6) (M := 6) (al' := [some (.ref 215), some (.int x1), some (.int x2), some (.int x3), some (.int (0 : Int32)), some (.int (0 : Int32))]) (by decide +kernel) rfl mx_219 rfl rfl ?_
  exact fe_219_6 hd 100000 _ _ _ _ _ _ _ h

/-! ZoneSharesModel.piece(II)I -/
theorem mx_220 : iv_mx 220 = 8 := by decide +kernel
theorem rt_220 : iv_rt 220 = some .int := by decide +kernel
def fm_220_124 (k_31 : Int32 → Int32 → Int32 → Int32 → fx_S → Option (Int32 × fx_S)) (x1 : Int32) (x2 : Int32) (x4 : Int32) (s0 : Int32) (s1 : Int32) (σ : fx_S) : Option (Int32 × fx_S) :=
  (fm_131 s1 σ).bind fun q2 =>
  k_31 x1 x2 (s0 + q2.1) (x4 + (1 : Int32)) q2.2
theorem fe_220_124 {d : Nat} (hd : 2 ≤ d) {k_31 : Int32 → Int32 → Int32 → Int32 → fx_S → Option (Int32 × fx_S)} (hk_31 : ∀ (x1 : Int32) (x2 : Int32) (x3 : Int32) (x4 : Int32) (o5 : Option Value) (o6 : Option Value) (o7 : Option Value) (σ : fx_S) (q : Int32 × fx_S), k_31 x1 x2 x3 x4 σ = some q → fx_E none 220 d 31 [some (.ref 215), some (.int x1), some (.int x2), some (.int x3), some (.int x4), o5, o6, o7] [] σ (some (.int q.1)) q.2) (x1 : Int32) (x2 : Int32) (x4 : Int32) (s0 : Int32) (s1 : Int32) (o3 : Option Value) (o5 : Option Value) (o6 : Option Value) (o7 : Option Value) (σ : fx_S) (q : Int32 × fx_S) (h : fm_220_124 k_31  x1 x2 x4 s0 s1 σ = some q) : fx_E none 220 d 124 [some (.ref 215), some (.int x1), some (.int x2), o3, some (.int x4), o5, o6, o7] [.int s1, .int s0] σ (some (.int q.1)) q.2 := by
  unfold fm_220_124 at h
  obtain ⟨q2, e1, h⟩ := fx_bd h
  refine fs_callS (idx := 186) (mj := 131) (na := 1) (mx := 1) (p := 127) (args := [.int s1]) (rest := [.int s0]) (al2 := [some (.int s1)]) (by decide +kernel) rfl (by decide +kernel) rfl rfl rfl rfl rfl rfl rfl (by omega) (fun d' hd' => fe_131 (by omega) e1) rfl ?_
  refine fs_iadd (p := 128) (by decide +kernel) rfl ?_
  refine fs_istore_n (k := 3) (p := 129) (M := 8) (al' := [some (.ref 215), some (.int x1), some (.int x2), some (.int (s0 + q2.1)), some (.int x4), o5, o6, o7]) (by decide +kernel) rfl mx_220 rfl rfl ?_
  refine fs_iinc (k := 4) (n := 1) (p := 132) (M := 8) (al' := [some (.ref 215), some (.int x1), some (.int x2), some (.int (s0 + q2.1)), some (.int (x4 + (1 : Int32))), o5, o6, o7]) (by decide +kernel) rfl kc_1 mx_220 rfl rfl rfl ?_
  refine fs_goto (off := -101) (p := 31) (by decide +kernel) (by decide +kernel) ?_
  exact hk_31 _ _ _ _ _ _ _ _ _ h
def fm_220_113 (k_31 : Int32 → Int32 → Int32 → Int32 → fx_S → Option (Int32 × fx_S)) (x1 : Int32) (x2 : Int32) (x3 : Int32) (x4 : Int32) (x7 : Int32) (σ : fx_S) : Option (Int32 × fx_S) :=
  fm_220_124 k_31 x1 x2 x4 x3 (if x7 ≤ 0 then (0 : Int32) else (1 : Int32)) σ
theorem fe_220_113 {d : Nat} (hd : 2 ≤ d) {k_31 : Int32 → Int32 → Int32 → Int32 → fx_S → Option (Int32 × fx_S)} (hk_31 : ∀ (x1 : Int32) (x2 : Int32) (x3 : Int32) (x4 : Int32) (o5 : Option Value) (o6 : Option Value) (o7 : Option Value) (σ : fx_S) (q : Int32 × fx_S), k_31 x1 x2 x3 x4 σ = some q → fx_E none 220 d 31 [some (.ref 215), some (.int x1), some (.int x2), some (.int x3), some (.int x4), o5, o6, o7] [] σ (some (.int q.1)) q.2) (x1 : Int32) (x2 : Int32) (x3 : Int32) (x4 : Int32) (x7 : Int32) (o5 : Option Value) (o6 : Option Value) (σ : fx_S) (q : Int32 × fx_S) (h : fm_220_113 k_31  x1 x2 x3 x4 x7 σ = some q) : fx_E none 220 d 113 [some (.ref 215), some (.int x1), some (.int x2), some (.int x3), some (.int x4), o5, o6, some (.int x7)] [] σ (some (.int q.1)) q.2 := by
  unfold fm_220_113 at h
  refine fs_iload_n (k := 3) (p := 114) (by decide +kernel) rfl rfl ?_
  refine fs_iload (k := 7) (p := 116) (by decide +kernel) rfl rfl ?_
  by_cases c1 : x7 ≤ 0
  · rw [if_pos c1] at h
    refine fs_if_le_t (off := 7) (t := 123) (by decide +kernel) (by decide +kernel) c1 ?_
    refine fs_iconst (n := 0) (p := 124) (by decide +kernel) rfl kc_0 ?_
    exact fe_220_124 hd hk_31 _ _ _ _ _ _ _ _ _ _ _ h
  · rw [if_neg c1] at h
    refine fs_if_le_f (off := 7) (t := 123) (p := 119) (by decide +kernel) (by decide +kernel) rfl c1 ?_
    refine fs_iconst (n := 1) (p := 120) (by decide +kernel) rfl kc_1 ?_
    refine fs_goto (off := 4) (p := 124) (by decide +kernel) (by decide +kernel) ?_
    exact fe_220_124 hd hk_31 _ _ _ _ _ _ _ _ _ _ _ h
def fm_220_31 : Nat → Int32 → Int32 → Int32 → Int32 → fx_S → Option (Int32 × fx_S)
  | 0, _, _, _, _, _ => none
  | n + 1, x1, x2, x3, x4, σ =>
    if (288 : Int32) ≤ x4 then (
      if ¬ x1 = (-1 : Int32) then (
        some ((-1 : Int32), σ)) else (
        some (x3, σ))) else (
      (fm_219 (x4 / (36 : Int32)) ((x4 / (4 : Int32)) - (x4 / (4 : Int32)) / (9 : Int32) * (9 : Int32)) (x4 - x4 / (4 : Int32) * (4 : Int32)) σ).bind fun q4 =>
      if q4.1 ≤ 0 then (
        fm_220_113 (fm_220_31 n) x1 x2 x3 x4 q4.1 q4.2) else (
        if ¬ x3 = x1 then (
          fm_220_113 (fm_220_31 n) x1 x2 x3 x4 q4.1 q4.2) else (
          if ¬ x2 = 0 then (
            if ¬ x2 = (1 : Int32) then (
              if ¬ x2 = (2 : Int32) then (
                some (q4.1, q4.2)) else (
                some ((x4 - x4 / (4 : Int32) * (4 : Int32)), q4.2))) else (
              some (((x4 / (4 : Int32)) - (x4 / (4 : Int32)) / (9 : Int32) * (9 : Int32)), q4.2))) else (
            some ((x4 / (36 : Int32)), q4.2)))))
theorem fe_220_31 {d : Nat} (hd : 2 ≤ d) : ∀ (n : Nat) (x1 : Int32) (x2 : Int32) (x3 : Int32) (x4 : Int32) (o5 : Option Value) (o6 : Option Value) (o7 : Option Value) (σ : fx_S) (q : Int32 × fx_S), fm_220_31 n x1 x2 x3 x4 σ = some q → fx_E none 220 d 31 [some (.ref 215), some (.int x1), some (.int x2), some (.int x3), some (.int x4), o5, o6, o7] [] σ (some (.int q.1)) q.2 := by
  intro n
  induction n with
  | zero =>
    intro x1 x2 x3 x4 o5 o6 o7 σ q  h
    rw [fm_220_31] at h
    exact fx_no h
  | succ n ih =>
    intro x1 x2 x3 x4 o5 o6 o7 σ q  h
    rw [fm_220_31] at h
    refine fs_iload (k := 4) (p := 33) (by decide +kernel) rfl rfl ?_
    refine fs_sipush (n := 288) (p := 36) (by decide +kernel) rfl ks_288 ?_
    by_cases c1 : (288 : Int32) ≤ x4
    · rw [if_pos c1] at h
      refine fs_icmp_ge_t (off := 99) (t := 135) (by decide +kernel) (by decide +kernel) c1 ?_
      refine fs_iload_n (k := 1) (p := 136) (by decide +kernel) rfl rfl ?_
      refine fs_iconst (n := -1) (p := 137) (by decide +kernel) rfl kc_m1 ?_
      by_cases c2 : ¬ x1 = (-1 : Int32)
      · rw [if_pos c2] at h
        refine fs_icmp_ne_t (off := 7) (t := 144) (by decide +kernel) (by decide +kernel) c2 ?_
        refine fs_iconst (n := -1) (p := 145) (by decide +kernel) rfl kc_m1 ?_
        have h := Option.some.inj h
        subst h
        exact fs_iret (by decide +kernel) rt_220
      · rw [if_neg c2] at h
        refine fs_icmp_ne_f (off := 7) (t := 144) (p := 140) (by decide +kernel) (by decide +kernel) rfl c2 ?_
        refine fs_iload_n (k := 3) (p := 141) (by decide +kernel) rfl rfl ?_
        refine fs_goto (off := 4) (p := 145) (by decide +kernel) (by decide +kernel) ?_
        have h := Option.some.inj h
        subst h
        exact fs_iret (by decide +kernel) rt_220
    · rw [if_neg c1] at h
      refine fs_icmp_ge_f (off := 99) (t := 135) (p := 39) (by decide +kernel) (by decide +kernel) rfl c1 ?_
      refine fs_iload (k := 4) (p := 41) (by decide +kernel) rfl rfl ?_
      refine fs_bipush (n := 36) (p := 43) (by decide +kernel) rfl kb_36 ?_
      refine fs_idiv (p := 44) (by decide +kernel) rfl (by decide) ?_
      refine fs_istore (k := 5) (p := 46) (M := 8) (al' := [some (.ref 215), some (.int x1), some (.int x2), some (.int x3), some (.int x4), some (.int (x4 / (36 : Int32))), o6, o7]) (by decide +kernel) rfl mx_220 rfl rfl ?_
      refine fs_iload (k := 4) (p := 48) (by decide +kernel) rfl rfl ?_
      refine fs_iconst (n := 4) (p := 49) (by decide +kernel) rfl kc_4 ?_
      refine fs_idiv (p := 50) (by decide +kernel) rfl (by decide) ?_
      refine fs_bipush (n := 9) (p := 52) (by decide +kernel) rfl kb_9 ?_
      refine fs_irem (p := 53) (by decide +kernel) rfl (by decide) ?_
      refine fs_istore (k := 6) (p := 55) (M := 8) (al' := [some (.ref 215), some (.int x1), some (.int x2), some (.int x3), some (.int x4), some (.int (x4 / (36 : Int32))), some (.int ((x4 / (4 : Int32)) - (x4 / (4 : Int32)) / (9 : Int32) * (9 : Int32))), o7]) (by decide +kernel) rfl mx_220 rfl rfl ?_
      refine fs_aload_n (k := 0) (p := 56) (by decide +kernel) rfl rfl ?_
      refine fs_iload (k := 5) (p := 58) (by decide +kernel) rfl rfl ?_
      refine fs_iload (k := 6) (p := 60) (by decide +kernel) rfl rfl ?_
      refine fs_iload (k := 4) (p := 62) (by decide +kernel) rfl rfl ?_
      refine fs_iconst (n := 4) (p := 63) (by decide +kernel) rfl kc_4 ?_
      refine fs_irem (p := 64) (by decide +kernel) rfl (by decide) ?_
      obtain ⟨q4, e3, h⟩ := fx_bd h
      refine fs_callV (idx := 431) (mj := 219) (ci := 10) (na := 3) (mx := 6) (p := 67) (args := [.ref 215, .int (x4 / (36 : Int32)), .int ((x4 / (4 : Int32)) - (x4 / (4 : Int32)) / (9 : Int32) * (9 : Int32)), .int (x4 - x4 / (4 : Int32) * (4 : Int32))]) (rest := []) (al2 := [some (.ref 215), some (.int (x4 / (36 : Int32))), some (.int ((x4 / (4 : Int32)) - (x4 / (4 : Int32)) / (9 : Int32) * (9 : Int32))), some (.int (x4 - x4 / (4 : Int32) * (4 : Int32))), none, none]) (by decide +kernel) rfl (by decide +kernel) fo_215 rfl rfl rfl rfl rfl rfl rfl (by omega) (fun d' hd' => fe_219 (by omega) e3) rfl ?_
      refine fs_istore (k := 7) (p := 69) (M := 8) (al' := [some (.ref 215), some (.int x1), some (.int x2), some (.int x3), some (.int x4), some (.int (x4 / (36 : Int32))), some (.int ((x4 / (4 : Int32)) - (x4 / (4 : Int32)) / (9 : Int32) * (9 : Int32))), some (.int q4.1)]) (by decide +kernel) rfl mx_220 rfl rfl ?_
      refine fs_iload (k := 7) (p := 71) (by decide +kernel) rfl rfl ?_
      by_cases c5 : q4.1 ≤ 0
      · rw [if_pos c5] at h
        refine fs_if_le_t (off := 42) (t := 113) (by decide +kernel) (by decide +kernel) c5 ?_
        exact fe_220_113 hd ih _ _ _ _ _ _ _ _ _ h
      · rw [if_neg c5] at h
        refine fs_if_le_f (off := 42) (t := 113) (p := 74) (by decide +kernel) (by decide +kernel) rfl c5 ?_
        refine fs_iload_n (k := 3) (p := 75) (by decide +kernel) rfl rfl ?_
        refine fs_iload_n (k := 1) (p := 76) (by decide +kernel) rfl rfl ?_
        by_cases c6 : ¬ x3 = x1
        · rw [if_pos c6] at h
          refine fs_icmp_ne_t (off := 37) (t := 113) (by decide +kernel) (by decide +kernel) c6 ?_
          exact fe_220_113 hd ih _ _ _ _ _ _ _ _ _ h
        · rw [if_neg c6] at h
          refine fs_icmp_ne_f (off := 37) (t := 113) (p := 79) (by decide +kernel) (by decide +kernel) rfl c6 ?_
          refine fs_iload_n (k := 2) (p := 80) (by decide +kernel) rfl rfl ?_
          by_cases c7 : ¬ x2 = 0
          · rw [if_pos c7] at h
            refine fs_if_ne_t (off := 8) (t := 88) (by decide +kernel) (by decide +kernel) c7 ?_
            refine fs_iload_n (k := 2) (p := 89) (by decide +kernel) rfl rfl ?_
            refine fs_iconst (n := 1) (p := 90) (by decide +kernel) rfl kc_1 ?_
            by_cases c8 : ¬ x2 = (1 : Int32)
            · rw [if_pos c8] at h
              refine fs_icmp_ne_t (off := 8) (t := 98) (by decide +kernel) (by decide +kernel) c8 ?_
              refine fs_iload_n (k := 2) (p := 99) (by decide +kernel) rfl rfl ?_
              refine fs_iconst (n := 2) (p := 100) (by decide +kernel) rfl kc_2 ?_
              by_cases c9 : ¬ x2 = (2 : Int32)
              · rw [if_pos c9] at h
                refine fs_icmp_ne_t (off := 10) (t := 110) (by decide +kernel) (by decide +kernel) c9 ?_
                refine fs_iload (k := 7) (p := 112) (by decide +kernel) rfl rfl ?_
                have h := Option.some.inj h
                subst h
                exact fs_iret (by decide +kernel) rt_220
              · rw [if_neg c9] at h
                refine fs_icmp_ne_f (off := 10) (t := 110) (p := 103) (by decide +kernel) (by decide +kernel) rfl c9 ?_
                refine fs_iload (k := 4) (p := 105) (by decide +kernel) rfl rfl ?_
                refine fs_iconst (n := 4) (p := 106) (by decide +kernel) rfl kc_4 ?_
                refine fs_irem (p := 107) (by decide +kernel) rfl (by decide) ?_
                refine fs_goto (off := 5) (p := 112) (by decide +kernel) (by decide +kernel) ?_
                have h := Option.some.inj h
                subst h
                exact fs_iret (by decide +kernel) rt_220
            · rw [if_neg c8] at h
              refine fs_icmp_ne_f (off := 8) (t := 98) (p := 93) (by decide +kernel) (by decide +kernel) rfl c8 ?_
              refine fs_iload (k := 6) (p := 95) (by decide +kernel) rfl rfl ?_
              refine fs_goto (off := 17) (p := 112) (by decide +kernel) (by decide +kernel) ?_
              have h := Option.some.inj h
              subst h
              exact fs_iret (by decide +kernel) rt_220
          · rw [if_neg c7] at h
            refine fs_if_ne_f (off := 8) (t := 88) (p := 83) (by decide +kernel) (by decide +kernel) rfl c7 ?_
            refine fs_iload (k := 5) (p := 85) (by decide +kernel) rfl rfl ?_
            refine fs_goto (off := 27) (p := 112) (by decide +kernel) (by decide +kernel) ?_
            have h := Option.some.inj h
            subst h
            exact fs_iret (by decide +kernel) rt_220
def fm_220 (x1 : Int32) (x2 : Int32) (σ : fx_S) : Option (Int32 × fx_S) :=
  (fm_150 σ).bind fun q30 =>
  if (fx_b q30.1) = 0 then (
    some ((-1 : Int32), q30.2)) else (
    if x1 < (-1 : Int32) then (
      some ((-1 : Int32), q30.2)) else (
      (fm_130 (x2).toInt64 (0 : Int64) (3 : Int64) q30.2).bind fun q34 =>
      if ¬ (fx_b q34.1) = 0 then (
        fm_220_31 100000 x1 x2 (0 : Int32) (0 : Int32) q34.2) else (
        some ((-1 : Int32), q34.2))))
theorem fe_220 {d : Nat} (hd : 2 ≤ d) {x1 : Int32} {x2 : Int32} {σ : fx_S} {q : Int32 × fx_S} (h : fm_220 x1 x2 σ = some q) : fx_E none 220 d 0 [some (.ref 215), some (.int x1), some (.int x2), none, none, none, none, none] [] σ (some (.int q.1)) q.2 := by
  unfold fm_220 at h
  refine fs_aload_n (k := 0) (p := 1) (by decide +kernel) rfl rfl ?_
  obtain ⟨q30, e29, h⟩ := fx_bd h
  refine fs_callV (idx := 303) (mj := 150) (ci := 10) (na := 0) (mx := 1) (p := 4) (args := [.ref 215]) (rest := []) (al2 := [some (.ref 215)]) (by decide +kernel) rfl (by decide +kernel) fo_215 rfl rfl rfl rfl rfl rfl rfl (by omega) (fun d' hd' => fe_150 (by omega) e29) rfl ?_
  by_cases c31 : (fx_b q30.1) = 0
  · rw [if_pos c31] at h
    refine fs_if_eq_t (off := 20) (t := 24) (by decide +kernel) (by decide +kernel) c31 ?_
    refine fs_iconst (n := -1) (p := 25) (by decide +kernel) rfl kc_m1 ?_
    have h := Option.some.inj h
    subst h
    exact fs_iret (by decide +kernel) rt_220
  · rw [if_neg c31] at h
    refine fs_if_eq_f (off := 20) (t := 24) (p := 7) (by decide +kernel) (by decide +kernel) rfl c31 ?_
    refine fs_iload_n (k := 1) (p := 8) (by decide +kernel) rfl rfl ?_
    refine fs_iconst (n := -1) (p := 9) (by decide +kernel) rfl kc_m1 ?_
    by_cases c32 : x1 < (-1 : Int32)
    · rw [if_pos c32] at h
      refine fs_icmp_lt_t (off := 15) (t := 24) (by decide +kernel) (by decide +kernel) c32 ?_
      refine fs_iconst (n := -1) (p := 25) (by decide +kernel) rfl kc_m1 ?_
      have h := Option.some.inj h
      subst h
      exact fs_iret (by decide +kernel) rt_220
    · rw [if_neg c32] at h
      refine fs_icmp_lt_f (off := 15) (t := 24) (p := 12) (by decide +kernel) (by decide +kernel) rfl c32 ?_
      refine fs_iload_n (k := 2) (p := 13) (by decide +kernel) rfl rfl ?_
      refine fs_i2l (p := 14) (by decide +kernel) rfl ?_
      refine fs_lconst (n := 0) (p := 15) (by decide +kernel) rfl kl_0 ?_
      refine fs_ldc2 (idx := 327) (p := 18) (x := 3) (by decide +kernel) rfl (by decide +kernel) ?_
      obtain ⟨q34, e33, h⟩ := fx_bd h
      refine fs_callS (idx := 128) (mj := 130) (na := 3) (mx := 6) (p := 21) (args := [.long (x2).toInt64, .long (0 : Int64), .long (3 : Int64)]) (rest := []) (al2 := [some (.long (x2).toInt64), none, some (.long (0 : Int64)), none, some (.long (3 : Int64)), none]) (by decide +kernel) rfl (by decide +kernel) rfl rfl rfl rfl rfl rfl rfl (by omega) (fun d' hd' => fe_130 (by omega) e33) rfl ?_
      by_cases c35 : ¬ (fx_b q34.1) = 0
      · rw [if_pos c35] at h
        refine fs_if_ne_t (off := 5) (t := 26) (by decide +kernel) (by decide +kernel) c35 ?_
        refine fs_iconst (n := 0) (p := 27) (by decide +kernel) rfl kc_0 ?_
        refine fs_istore_n (k := 3) (p := 28) (M := 8) (al' := [some (.ref 215), some (.int x1), some (.int x2), some (.int (0 : Int32)), none, none, none, none]) (by decide +kernel) rfl mx_220 rfl rfl ?_
        refine fs_iconst (n := 0) (p := 29) (by decide +kernel) rfl kc_0 ?_
        refine fs_istore (k := 4) (p := 31) (M := 8) (al' := [some (.ref 215), some (.int x1), some (.int x2), some (.int (0 : Int32)), some (.int (0 : Int32)), none, none, none]) (by decide +kernel) rfl mx_220 rfl rfl ?_
        exact fe_220_31 hd 100000 _ _ _ _ _ _ _ _ _ h
      · rw [if_neg c35] at h
        refine fs_if_ne_f (off := 5) (t := 26) (p := 24) (by decide +kernel) (by decide +kernel) rfl c35 ?_
        refine fs_iconst (n := -1) (p := 25) (by decide +kernel) rfl kc_m1 ?_
        have h := Option.some.inj h
        subst h
        exact fs_iret (by decide +kernel) rt_220

/-! ZoneSharesModel.newSet(I)I -/
theorem mx_221 : iv_mx 221 = 4 := by decide +kernel
theorem rt_221 : iv_rt 221 = some .int := by decide +kernel
def fm_221_35 (k_4 : Int32 → Int32 → Int32 → fx_S → Option (Int32 × fx_S)) (x1 : Int32) (x3 : Int32) (s0 : Int32) (s1 : Int32) (σ : fx_S) : Option (Int32 × fx_S) :=
  k_4 x1 (s0 ||| s1) (x3 + (1 : Int32)) σ
theorem fe_221_35 {d : Nat} (hd : 1 ≤ d) {k_4 : Int32 → Int32 → Int32 → fx_S → Option (Int32 × fx_S)} (hk_4 : ∀ (x1 : Int32) (x2 : Int32) (x3 : Int32) (σ : fx_S) (q : Int32 × fx_S), k_4 x1 x2 x3 σ = some q → fx_E none 221 d 4 [some (.ref 215), some (.int x1), some (.int x2), some (.int x3)] [] σ (some (.int q.1)) q.2) (x1 : Int32) (x3 : Int32) (s0 : Int32) (s1 : Int32) (o2 : Option Value) (σ : fx_S) (q : Int32 × fx_S) (h : fm_221_35 k_4  x1 x3 s0 s1 σ = some q) : fx_E none 221 d 35 [some (.ref 215), some (.int x1), o2, some (.int x3)] [.int s1, .int s0] σ (some (.int q.1)) q.2 := by
  unfold fm_221_35 at h
  refine fs_ior (p := 36) (by decide +kernel) rfl ?_
  refine fs_istore_n (k := 2) (p := 37) (M := 4) (al' := [some (.ref 215), some (.int x1), some (.int (s0 ||| s1)), some (.int x3)]) (by decide +kernel) rfl mx_221 rfl rfl ?_
  refine fs_iinc (k := 3) (n := 1) (p := 40) (M := 4) (al' := [some (.ref 215), some (.int x1), some (.int (s0 ||| s1)), some (.int (x3 + (1 : Int32)))]) (by decide +kernel) rfl kc_1 mx_221 rfl rfl rfl ?_
  refine fs_goto (off := -36) (p := 4) (by decide +kernel) (by decide +kernel) ?_
  exact hk_4 _ _ _ _ _ h
def fm_221_4 : Nat → Int32 → Int32 → Int32 → fx_S → Option (Int32 × fx_S)
  | 0, _, _, _, _ => none
  | n + 1, x1, x2, x3, σ =>
    (fm_151 σ).bind fun q2 =>
    if q2.1 ≤ x3 then (
      some (x2, q2.2)) else (
      (fm_152 (0 : Int32) x3 q2.2).bind fun q5 =>
      if ¬ q5.1 = x1 then (
        fm_221_35 (fm_221_4 n) x1 x3 x2 (0 : Int32) q5.2) else (
        (fm_152 (1 : Int32) x3 q5.2).bind fun q8 =>
        fm_221_35 (fm_221_4 n) x1 x3 x2 ((1 : Int32) <<< (q8.1 &&& 31)) q8.2))
theorem fe_221_4 {d : Nat} (hd : 1 ≤ d) : ∀ (n : Nat) (x1 : Int32) (x2 : Int32) (x3 : Int32) (σ : fx_S) (q : Int32 × fx_S), fm_221_4 n x1 x2 x3 σ = some q → fx_E none 221 d 4 [some (.ref 215), some (.int x1), some (.int x2), some (.int x3)] [] σ (some (.int q.1)) q.2 := by
  intro n
  induction n with
  | zero =>
    intro x1 x2 x3 σ q  h
    rw [fm_221_4] at h
    exact fx_no h
  | succ n ih =>
    intro x1 x2 x3 σ q  h
    rw [fm_221_4] at h
    refine fs_iload_n (k := 3) (p := 5) (by decide +kernel) rfl rfl ?_
    refine fs_aload_n (k := 0) (p := 6) (by decide +kernel) rfl rfl ?_
    obtain ⟨q2, e1, h⟩ := fx_bd h
    refine fs_callV (idx := 196) (mj := 151) (ci := 10) (na := 0) (mx := 1) (p := 9) (args := [.ref 215]) (rest := [.int x3]) (al2 := [some (.ref 215)]) (by decide +kernel) rfl (by decide +kernel) fo_215 rfl rfl rfl rfl rfl rfl rfl (by omega) (fun d' hd' => fe_151 (by omega) e1) rfl ?_
    by_cases c3 : q2.1 ≤ x3
    · rw [if_pos c3] at h
      refine fs_icmp_ge_t (off := 34) (t := 43) (by decide +kernel) (by decide +kernel) c3 ?_
      refine fs_iload_n (k := 2) (p := 44) (by decide +kernel) rfl rfl ?_
      have h := Option.some.inj h
      subst h
      exact fs_iret (by decide +kernel) rt_221
    · rw [if_neg c3] at h
      refine fs_icmp_ge_f (off := 34) (t := 43) (p := 12) (by decide +kernel) (by decide +kernel) rfl c3 ?_
      refine fs_iload_n (k := 2) (p := 13) (by decide +kernel) rfl rfl ?_
      refine fs_aload_n (k := 0) (p := 14) (by decide +kernel) rfl rfl ?_
      refine fs_iconst (n := 0) (p := 15) (by decide +kernel) rfl kc_0 ?_
      refine fs_iload_n (k := 3) (p := 16) (by decide +kernel) rfl rfl ?_
      obtain ⟨q5, e4, h⟩ := fx_bd h
      refine fs_callV (idx := 199) (mj := 152) (ci := 10) (na := 2) (mx := 3) (p := 19) (args := [.ref 215, .int (0 : Int32), .int x3]) (rest := [.int x2]) (al2 := [some (.ref 215), some (.int (0 : Int32)), some (.int x3)]) (by decide +kernel) rfl (by decide +kernel) fo_215 rfl rfl rfl rfl rfl rfl rfl (by omega) (fun d' hd' => fe_152 (by omega) e4) rfl ?_
      refine fs_iload_n (k := 1) (p := 20) (by decide +kernel) rfl rfl ?_
      by_cases c6 : ¬ q5.1 = x1
      · rw [if_pos c6] at h
        refine fs_icmp_ne_t (off := 14) (t := 34) (by decide +kernel) (by decide +kernel) c6 ?_
        refine fs_iconst (n := 0) (p := 35) (by decide +kernel) rfl kc_0 ?_
        exact fe_221_35 hd ih _ _ _ _ _ _ _ h
      · rw [if_neg c6] at h
        refine fs_icmp_ne_f (off := 14) (t := 34) (p := 23) (by decide +kernel) (by decide +kernel) rfl c6 ?_
        refine fs_iconst (n := 1) (p := 24) (by decide +kernel) rfl kc_1 ?_
        refine fs_aload_n (k := 0) (p := 25) (by decide +kernel) rfl rfl ?_
        refine fs_iconst (n := 1) (p := 26) (by decide +kernel) rfl kc_1 ?_
        refine fs_iload_n (k := 3) (p := 27) (by decide +kernel) rfl rfl ?_
        obtain ⟨q8, e7, h⟩ := fx_bd h
        refine fs_callV (idx := 199) (mj := 152) (ci := 10) (na := 2) (mx := 3) (p := 30) (args := [.ref 215, .int (1 : Int32), .int x3]) (rest := [.int (1 : Int32), .int x2]) (al2 := [some (.ref 215), some (.int (1 : Int32)), some (.int x3)]) (by decide +kernel) rfl (by decide +kernel) fo_215 rfl rfl rfl rfl rfl rfl rfl (by omega) (fun d' hd' => fe_152 (by omega) e7) rfl ?_
        refine fs_ishl (p := 31) (by decide +kernel) rfl ?_
        refine fs_goto (off := 4) (p := 35) (by decide +kernel) (by decide +kernel) ?_
        exact fe_221_35 hd ih _ _ _ _ _ _ _ h
def fm_221 (x1 : Int32) (σ : fx_S) : Option (Int32 × fx_S) :=
  fm_221_4 100000 x1 (0 : Int32) (0 : Int32) σ
theorem fe_221 {d : Nat} (hd : 1 ≤ d) {x1 : Int32} {σ : fx_S} {q : Int32 × fx_S} (h : fm_221 x1 σ = some q) : fx_E none 221 d 0 [some (.ref 215), some (.int x1), none, none] [] σ (some (.int q.1)) q.2 := by
  unfold fm_221 at h
  refine fs_iconst (n := 0) (p := 1) (by decide +kernel) rfl kc_0 ?_
  refine fs_istore_n (k := 2) (p := 2) (M := 4) (al' := [some (.ref 215), some (.int x1), some (.int (0 : Int32)), none]) (by decide +kernel) rfl mx_221 rfl rfl ?_
  refine fs_iconst (n := 0) (p := 3) (by decide +kernel) rfl kc_0 ?_
  refine fs_istore_n (k := 3) (p := 4) (M := 4) (al' := [some (.ref 215), some (.int x1), some (.int (0 : Int32)), some (.int (0 : Int32))]) (by decide +kernel) rfl mx_221 rfl rfl ?_
  exact fe_221_4 hd 100000 _ _ _ _ _ h

/-! ZoneSharesModel.asideAll()I -/
theorem mx_225 : iv_mx 225 = 3 := by decide +kernel
theorem rt_225 : iv_rt 225 = some .int := by decide +kernel
def fm_225_30 (x1 : Int32) (σ : fx_S) : Option (Int32 × fx_S) :=
  some (x1, σ)
theorem fe_225_30 {d : Nat} (hd : 5 ≤ d) (x1 : Int32) (o0 : Option Value) (o2 : Option Value) (σ : fx_S) (q : Int32 × fx_S) (h : fm_225_30  x1 σ = some q) : fx_E none 225 d 30 [o0, some (.int x1), o2] [] σ (some (.int q.1)) q.2 := by
  unfold fm_225_30 at h
  refine fs_iload_n (k := 1) (p := 31) (by decide +kernel) rfl rfl ?_
  have h := Option.some.inj h
  subst h
  exact fs_iret (by decide +kernel) rt_225
def fm_225_4 : Nat → Int32 → Int32 → fx_S → Option (Int32 × fx_S)
  | 0, _, _, _ => none
  | n + 1, x1, x2, σ =>
    if (3 : Int32) ≤ x2 then (
      fm_225_30 x1 σ) else (
      (fm_150 σ).bind fun q3 =>
      if (fx_b q3.1) = 0 then (
        fm_225_30 x1 q3.2) else (
        (fm_176 x2 q3.2).bind fun q6 =>
        fm_225_4 n (x1 + q6.1) (x2 + (1 : Int32)) q6.2))
theorem fe_225_4 {d : Nat} (hd : 5 ≤ d) : ∀ (n : Nat) (x1 : Int32) (x2 : Int32) (σ : fx_S) (q : Int32 × fx_S), fm_225_4 n x1 x2 σ = some q → fx_E none 225 d 4 [some (.ref 215), some (.int x1), some (.int x2)] [] σ (some (.int q.1)) q.2 := by
  intro n
  induction n with
  | zero =>
    intro x1 x2 σ q  h
    rw [fm_225_4] at h
    exact fx_no h
  | succ n ih =>
    intro x1 x2 σ q  h
    rw [fm_225_4] at h
    refine fs_iload_n (k := 2) (p := 5) (by decide +kernel) rfl rfl ?_
    refine fs_iconst (n := 3) (p := 6) (by decide +kernel) rfl kc_3 ?_
    by_cases c1 : (3 : Int32) ≤ x2
    · rw [if_pos c1] at h
      refine fs_icmp_ge_t (off := 24) (t := 30) (by decide +kernel) (by decide +kernel) c1 ?_
      exact fe_225_30 hd _ _ _ _ _ h
    · rw [if_neg c1] at h
      refine fs_icmp_ge_f (off := 24) (t := 30) (p := 9) (by decide +kernel) (by decide +kernel) rfl c1 ?_
      refine fs_aload_n (k := 0) (p := 10) (by decide +kernel) rfl rfl ?_
      obtain ⟨q3, e2, h⟩ := fx_bd h
      refine fs_callV (idx := 303) (mj := 150) (ci := 10) (na := 0) (mx := 1) (p := 13) (args := [.ref 215]) (rest := []) (al2 := [some (.ref 215)]) (by decide +kernel) rfl (by decide +kernel) fo_215 rfl rfl rfl rfl rfl rfl rfl (by omega) (fun d' hd' => fe_150 (by omega) e2) rfl ?_
      by_cases c4 : (fx_b q3.1) = 0
      · rw [if_pos c4] at h
        refine fs_if_eq_t (off := 17) (t := 30) (by decide +kernel) (by decide +kernel) c4 ?_
        exact fe_225_30 hd _ _ _ _ _ h
      · rw [if_neg c4] at h
        refine fs_if_eq_f (off := 17) (t := 30) (p := 16) (by decide +kernel) (by decide +kernel) rfl c4 ?_
        refine fs_iload_n (k := 1) (p := 17) (by decide +kernel) rfl rfl ?_
        refine fs_aload_n (k := 0) (p := 18) (by decide +kernel) rfl rfl ?_
        refine fs_iload_n (k := 2) (p := 19) (by decide +kernel) rfl rfl ?_
        obtain ⟨q6, e5, h⟩ := fx_bd h
        refine fs_callV (idx := 284) (mj := 176) (ci := 10) (na := 1) (mx := 2) (p := 22) (args := [.ref 215, .int x2]) (rest := [.int x1]) (al2 := [some (.ref 215), some (.int x2)]) (by decide +kernel) rfl (by decide +kernel) fo_215 rfl rfl rfl rfl rfl rfl rfl (by omega) (fun d' hd' => fe_176 (by omega) e5) rfl ?_
        refine fs_iadd (p := 23) (by decide +kernel) rfl ?_
        refine fs_istore_n (k := 1) (p := 24) (M := 3) (al' := [some (.ref 215), some (.int (x1 + q6.1)), some (.int x2)]) (by decide +kernel) rfl mx_225 rfl rfl ?_
        refine fs_iinc (k := 2) (n := 1) (p := 27) (M := 3) (al' := [some (.ref 215), some (.int (x1 + q6.1)), some (.int (x2 + (1 : Int32)))]) (by decide +kernel) rfl kc_1 mx_225 rfl rfl rfl ?_
        refine fs_goto (off := -23) (p := 4) (by decide +kernel) (by decide +kernel) ?_
        exact ih _ _ _ _ h
def fm_225 (σ : fx_S) : Option (Int32 × fx_S) :=
  fm_225_4 100000 (0 : Int32) (0 : Int32) σ
theorem fe_225 {d : Nat} (hd : 5 ≤ d) {σ : fx_S} {q : Int32 × fx_S} (h : fm_225 σ = some q) : fx_E none 225 d 0 [some (.ref 215), none, none] [] σ (some (.int q.1)) q.2 := by
  unfold fm_225 at h
  refine fs_iconst (n := 0) (p := 1) (by decide +kernel) rfl kc_0 ?_
  refine fs_istore_n (k := 1) (p := 2) (M := 3) (al' := [some (.ref 215), some (.int (0 : Int32)), none]) (by decide +kernel) rfl mx_225 rfl rfl ?_
  refine fs_iconst (n := 0) (p := 3) (by decide +kernel) rfl kc_0 ?_
  refine fs_istore_n (k := 2) (p := 4) (M := 3) (al' := [some (.ref 215), some (.int (0 : Int32)), some (.int (0 : Int32))]) (by decide +kernel) rfl mx_225 rfl rfl ?_
  exact fe_225_4 hd 100000 _ _ _ _ h

/-! ZoneSharesModel.weight(II)I -/
theorem mx_227 : iv_mx 227 = 3 := by decide +kernel
theorem rt_227 : iv_rt 227 = some .int := by decide +kernel
def fm_227 (x1 : Int32) (x2 : Int32) (σ : fx_S) : Option (Int32 × fx_S) :=
  (fm_148 x1 σ).bind fun q10 =>
  if (fx_b q10.1) = 0 then (
    some ((-1 : Int32), q10.2)) else (
    (fm_130 (x2).toInt64 (0 : Int64) (3 : Int64) q10.2).bind fun q13 =>
    if (fx_b q13.1) = 0 then (
      some ((-1 : Int32), q13.2)) else (
      (fx_ld q13.2 216 (((32 : Int32) + ((4 : Int32) * x1)) + x2)).bind fun v15 =>
      some (v15, q13.2)))
theorem fe_227 {d : Nat} (hd : 2 ≤ d) {x1 : Int32} {x2 : Int32} {σ : fx_S} {q : Int32 × fx_S} (h : fm_227 x1 x2 σ = some q) : fx_E none 227 d 0 [some (.ref 215), some (.int x1), some (.int x2)] [] σ (some (.int q.1)) q.2 := by
  unfold fm_227 at h
  refine fs_iload_n (k := 1) (p := 1) (by decide +kernel) rfl rfl ?_
  obtain ⟨q10, e9, h⟩ := fx_bd h
  refine fs_callS (idx := 190) (mj := 148) (na := 1) (mx := 1) (p := 4) (args := [.int x1]) (rest := []) (al2 := [some (.int x1)]) (by decide +kernel) rfl (by decide +kernel) rfl rfl rfl rfl rfl rfl rfl (by omega) (fun d' hd' => fe_148 (by omega) e9) rfl ?_
  by_cases c11 : (fx_b q10.1) = 0
  · rw [if_pos c11] at h
    refine fs_if_eq_t (off := 31) (t := 35) (by decide +kernel) (by decide +kernel) c11 ?_
    refine fs_iconst (n := -1) (p := 36) (by decide +kernel) rfl kc_m1 ?_
    have h := Option.some.inj h
    subst h
    exact fs_iret (by decide +kernel) rt_227
  · rw [if_neg c11] at h
    refine fs_if_eq_f (off := 31) (t := 35) (p := 7) (by decide +kernel) (by decide +kernel) rfl c11 ?_
    refine fs_iload_n (k := 2) (p := 8) (by decide +kernel) rfl rfl ?_
    refine fs_i2l (p := 9) (by decide +kernel) rfl ?_
    refine fs_lconst (n := 0) (p := 10) (by decide +kernel) rfl kl_0 ?_
    refine fs_ldc2 (idx := 327) (p := 13) (x := 3) (by decide +kernel) rfl (by decide +kernel) ?_
    obtain ⟨q13, e12, h⟩ := fx_bd h
    refine fs_callS (idx := 128) (mj := 130) (na := 3) (mx := 6) (p := 16) (args := [.long (x2).toInt64, .long (0 : Int64), .long (3 : Int64)]) (rest := []) (al2 := [some (.long (x2).toInt64), none, some (.long (0 : Int64)), none, some (.long (3 : Int64)), none]) (by decide +kernel) rfl (by decide +kernel) rfl rfl rfl rfl rfl rfl rfl (by omega) (fun d' hd' => fe_130 (by omega) e12) rfl ?_
    by_cases c14 : (fx_b q13.1) = 0
    · rw [if_pos c14] at h
      refine fs_if_eq_t (off := 19) (t := 35) (by decide +kernel) (by decide +kernel) c14 ?_
      refine fs_iconst (n := -1) (p := 36) (by decide +kernel) rfl kc_m1 ?_
      have h := Option.some.inj h
      subst h
      exact fs_iret (by decide +kernel) rt_227
    · rw [if_neg c14] at h
      refine fs_if_eq_f (off := 19) (t := 35) (p := 19) (by decide +kernel) (by decide +kernel) rfl c14 ?_
      refine fs_aload_n (k := 0) (p := 20) (by decide +kernel) rfl rfl ?_
      refine fs_gfr (idx := 9) (ci := 10) (j := 0) (p := 23) (by decide +kernel) rfl (by decide +kernel) fo_215 (fr_a215_0) ?_
      refine fs_bipush (n := 32) (p := 25) (by decide +kernel) rfl kb_32 ?_
      refine fs_iconst (n := 4) (p := 26) (by decide +kernel) rfl kc_4 ?_
      refine fs_iload_n (k := 1) (p := 27) (by decide +kernel) rfl rfl ?_
      refine fs_imul (p := 28) (by decide +kernel) rfl ?_
      refine fs_iadd (p := 29) (by decide +kernel) rfl ?_
      refine fs_iload_n (k := 2) (p := 30) (by decide +kernel) rfl rfl ?_
      refine fs_iadd (p := 31) (by decide +kernel) rfl ?_
      obtain ⟨v15, e16, h⟩ := fx_bd h
      refine fs_iaload (p := 32) (by decide +kernel) rfl e16 ?_
      refine fs_goto (off := 4) (p := 36) (by decide +kernel) (by decide +kernel) ?_
      have h := Option.some.inj h
      subst h
      exact fs_iret (by decide +kernel) rt_227

/-! ZoneSharesModel.districtOf(I)I -/
theorem mx_228 : iv_mx 228 = 2 := by decide +kernel
theorem rt_228 : iv_rt 228 = some .int := by decide +kernel
def fm_228 (x1 : Int32) (σ : fx_S) : Option (Int32 × fx_S) :=
  (fm_130 (x1).toInt64 (0 : Int64) (7 : Int64) σ).bind fun q7 =>
  if (fx_b q7.1) = 0 then (
    some ((-1 : Int32), q7.2)) else (
    (fx_ld q7.2 216 ((44 : Int32) + x1)).bind fun v9 =>
    some (v9, q7.2))
theorem fe_228 {d : Nat} (hd : 1 ≤ d) {x1 : Int32} {σ : fx_S} {q : Int32 × fx_S} (h : fm_228 x1 σ = some q) : fx_E none 228 d 0 [some (.ref 215), some (.int x1)] [] σ (some (.int q.1)) q.2 := by
  unfold fm_228 at h
  refine fs_iload_n (k := 1) (p := 1) (by decide +kernel) rfl rfl ?_
  refine fs_i2l (p := 2) (by decide +kernel) rfl ?_
  refine fs_lconst (n := 0) (p := 3) (by decide +kernel) rfl kl_0 ?_
  refine fs_ldc2 (idx := 308) (p := 6) (x := 7) (by decide +kernel) rfl (by decide +kernel) ?_
  obtain ⟨q7, e6, h⟩ := fx_bd h
  refine fs_callS (idx := 128) (mj := 130) (na := 3) (mx := 6) (p := 9) (args := [.long (x1).toInt64, .long (0 : Int64), .long (7 : Int64)]) (rest := []) (al2 := [some (.long (x1).toInt64), none, some (.long (0 : Int64)), none, some (.long (7 : Int64)), none]) (by decide +kernel) rfl (by decide +kernel) rfl rfl rfl rfl rfl rfl rfl (by omega) (fun d' hd' => fe_130 (by omega) e6) rfl ?_
  by_cases c8 : (fx_b q7.1) = 0
  · rw [if_pos c8] at h
    refine fs_if_eq_t (off := 15) (t := 24) (by decide +kernel) (by decide +kernel) c8 ?_
    refine fs_iconst (n := -1) (p := 25) (by decide +kernel) rfl kc_m1 ?_
    have h := Option.some.inj h
    subst h
    exact fs_iret (by decide +kernel) rt_228
  · rw [if_neg c8] at h
    refine fs_if_eq_f (off := 15) (t := 24) (p := 12) (by decide +kernel) (by decide +kernel) rfl c8 ?_
    refine fs_aload_n (k := 0) (p := 13) (by decide +kernel) rfl rfl ?_
    refine fs_gfr (idx := 9) (ci := 10) (j := 0) (p := 16) (by decide +kernel) rfl (by decide +kernel) fo_215 (fr_a215_0) ?_
    refine fs_bipush (n := 44) (p := 18) (by decide +kernel) rfl kb_44 ?_
    refine fs_iload_n (k := 1) (p := 19) (by decide +kernel) rfl rfl ?_
    refine fs_iadd (p := 20) (by decide +kernel) rfl ?_
    obtain ⟨v9, e10, h⟩ := fx_bd h
    refine fs_iaload (p := 21) (by decide +kernel) rfl e10 ?_
    refine fs_goto (off := 4) (p := 25) (by decide +kernel) (by decide +kernel) ?_
    have h := Option.some.inj h
    subst h
    exact fs_iret (by decide +kernel) rt_228

/-! java/lang/Integer.numberOfTrailingZeros(I)I -/
theorem mx_229 : iv_mx 229 = 2 := by decide +kernel
theorem rt_229 : iv_rt 229 = some .int := by decide +kernel
def fm_229_74 (x0 : Int32) (x1 : Int32) (σ : fx_S) : Option (Int32 × fx_S) :=
  some ((x1 + ((x0).toUInt32 >>> (((1 : Int32)).toUInt32 &&& Int32.toUInt32 31)).toInt32), σ)
theorem fe_229_74 {d : Nat} (hd : 0 ≤ d) (x0 : Int32) (x1 : Int32) (σ : fx_S) (q : Int32 × fx_S) (h : fm_229_74  x0 x1 σ = some q) : fx_E none 229 d 74 [some (.int x0), some (.int x1)] [] σ (some (.int q.1)) q.2 := by
  unfold fm_229_74 at h
  refine fs_iload_n (k := 1) (p := 75) (by decide +kernel) rfl rfl ?_
  refine fs_iload_n (k := 0) (p := 76) (by decide +kernel) rfl rfl ?_
  refine fs_iconst (n := 1) (p := 77) (by decide +kernel) rfl kc_1 ?_
  refine fs_iushr (p := 78) (by decide +kernel) rfl ?_
  refine fs_iadd (p := 79) (by decide +kernel) rfl ?_
  have h := Option.some.inj h
  subst h
  exact fs_iret (by decide +kernel) rt_229
def fm_229_62 (x0 : Int32) (x1 : Int32) (σ : fx_S) : Option (Int32 × fx_S) :=
  if x0 ≤ (4 : Int32) then (
    fm_229_74 x0 x1 σ) else (
    fm_229_74 (((x0).toUInt32 >>> (((2 : Int32)).toUInt32 &&& Int32.toUInt32 31)).toInt32) (x1 + (2 : Int32)) σ)
theorem fe_229_62 {d : Nat} (hd : 0 ≤ d) (x0 : Int32) (x1 : Int32) (σ : fx_S) (q : Int32 × fx_S) (h : fm_229_62  x0 x1 σ = some q) : fx_E none 229 d 62 [some (.int x0), some (.int x1)] [] σ (some (.int q.1)) q.2 := by
  unfold fm_229_62 at h
  refine fs_iload_n (k := 0) (p := 63) (by decide +kernel) rfl rfl ?_
  refine fs_iconst (n := 4) (p := 64) (by decide +kernel) rfl kc_4 ?_
  by_cases c1 : x0 ≤ (4 : Int32)
  · rw [if_pos c1] at h
    refine fs_icmp_le_t (off := 10) (t := 74) (by decide +kernel) (by decide +kernel) c1 ?_
    exact fe_229_74 hd _ _ _ _ h
  · rw [if_neg c1] at h
    refine fs_icmp_le_f (off := 10) (t := 74) (p := 67) (by decide +kernel) (by decide +kernel) rfl c1 ?_
    refine fs_iinc (k := 1) (n := 2) (p := 70) (M := 2) (al' := [some (.int x0), some (.int (x1 + (2 : Int32)))]) (by decide +kernel) rfl kc_2 mx_229 rfl rfl rfl ?_
    refine fs_iload_n (k := 0) (p := 71) (by decide +kernel) rfl rfl ?_
    refine fs_iconst (n := 2) (p := 72) (by decide +kernel) rfl kc_2 ?_
    refine fs_iushr (p := 73) (by decide +kernel) rfl ?_
    refine fs_istore_n (k := 0) (p := 74) (M := 2) (al' := [some (.int ((x0).toUInt32 >>> (((2 : Int32)).toUInt32 &&& Int32.toUInt32 31)).toInt32), some (.int (x1 + (2 : Int32)))]) (by decide +kernel) rfl mx_229 rfl rfl ?_
    exact fe_229_74 hd _ _ _ _ h
def fm_229_49 (x0 : Int32) (x1 : Int32) (σ : fx_S) : Option (Int32 × fx_S) :=
  if x0 ≤ (16 : Int32) then (
    fm_229_62 x0 x1 σ) else (
    fm_229_62 (((x0).toUInt32 >>> (((4 : Int32)).toUInt32 &&& Int32.toUInt32 31)).toInt32) (x1 + (4 : Int32)) σ)
theorem fe_229_49 {d : Nat} (hd : 0 ≤ d) (x0 : Int32) (x1 : Int32) (σ : fx_S) (q : Int32 × fx_S) (h : fm_229_49  x0 x1 σ = some q) : fx_E none 229 d 49 [some (.int x0), some (.int x1)] [] σ (some (.int q.1)) q.2 := by
  unfold fm_229_49 at h
  refine fs_iload_n (k := 0) (p := 50) (by decide +kernel) rfl rfl ?_
  refine fs_bipush (n := 16) (p := 52) (by decide +kernel) rfl kb_16 ?_
  by_cases c1 : x0 ≤ (16 : Int32)
  · rw [if_pos c1] at h
    refine fs_icmp_le_t (off := 10) (t := 62) (by decide +kernel) (by decide +kernel) c1 ?_
    exact fe_229_62 hd _ _ _ _ h
  · rw [if_neg c1] at h
    refine fs_icmp_le_f (off := 10) (t := 62) (p := 55) (by decide +kernel) (by decide +kernel) rfl c1 ?_
    refine fs_iinc (k := 1) (n := 4) (p := 58) (M := 2) (al' := [some (.int x0), some (.int (x1 + (4 : Int32)))]) (by decide +kernel) rfl kc_4 mx_229 rfl rfl rfl ?_
    refine fs_iload_n (k := 0) (p := 59) (by decide +kernel) rfl rfl ?_
    refine fs_iconst (n := 4) (p := 60) (by decide +kernel) rfl kc_4 ?_
    refine fs_iushr (p := 61) (by decide +kernel) rfl ?_
    refine fs_istore_n (k := 0) (p := 62) (M := 2) (al' := [some (.int ((x0).toUInt32 >>> (((4 : Int32)).toUInt32 &&& Int32.toUInt32 31)).toInt32), some (.int (x1 + (4 : Int32)))]) (by decide +kernel) rfl mx_229 rfl rfl ?_
    exact fe_229_62 hd _ _ _ _ h
def fm_229_34 (x0 : Int32) (x1 : Int32) (σ : fx_S) : Option (Int32 × fx_S) :=
  if x0 ≤ (256 : Int32) then (
    fm_229_49 x0 x1 σ) else (
    fm_229_49 (((x0).toUInt32 >>> (((8 : Int32)).toUInt32 &&& Int32.toUInt32 31)).toInt32) (x1 + (8 : Int32)) σ)
theorem fe_229_34 {d : Nat} (hd : 0 ≤ d) (x0 : Int32) (x1 : Int32) (σ : fx_S) (q : Int32 × fx_S) (h : fm_229_34  x0 x1 σ = some q) : fx_E none 229 d 34 [some (.int x0), some (.int x1)] [] σ (some (.int q.1)) q.2 := by
  unfold fm_229_34 at h
  refine fs_iload_n (k := 0) (p := 35) (by decide +kernel) rfl rfl ?_
  refine fs_sipush (n := 256) (p := 38) (by decide +kernel) rfl ks_256 ?_
  by_cases c1 : x0 ≤ (256 : Int32)
  · rw [if_pos c1] at h
    refine fs_icmp_le_t (off := 11) (t := 49) (by decide +kernel) (by decide +kernel) c1 ?_
    exact fe_229_49 hd _ _ _ _ h
  · rw [if_neg c1] at h
    refine fs_icmp_le_f (off := 11) (t := 49) (p := 41) (by decide +kernel) (by decide +kernel) rfl c1 ?_
    refine fs_iinc (k := 1) (n := 8) (p := 44) (M := 2) (al' := [some (.int x0), some (.int (x1 + (8 : Int32)))]) (by decide +kernel) rfl kc_8 mx_229 rfl rfl rfl ?_
    refine fs_iload_n (k := 0) (p := 45) (by decide +kernel) rfl rfl ?_
    refine fs_bipush (n := 8) (p := 47) (by decide +kernel) rfl kb_8 ?_
    refine fs_iushr (p := 48) (by decide +kernel) rfl ?_
    refine fs_istore_n (k := 0) (p := 49) (M := 2) (al' := [some (.int ((x0).toUInt32 >>> (((8 : Int32)).toUInt32 &&& Int32.toUInt32 31)).toInt32), some (.int (x1 + (8 : Int32)))]) (by decide +kernel) rfl mx_229 rfl rfl ?_
    exact fe_229_49 hd _ _ _ _ h
def fm_229 (x0 : Int32) (σ : fx_S) : Option (Int32 × fx_S) :=
  if 0 < ((x0 ^^^ (-1 : Int32)) &&& (x0 - (1 : Int32))) then (
    if ((x0 ^^^ (-1 : Int32)) &&& (x0 - (1 : Int32))) ≤ (65536 : Int32) then (
      fm_229_34 ((x0 ^^^ (-1 : Int32)) &&& (x0 - (1 : Int32))) (1 : Int32) σ) else (
      fm_229_34 (((((x0 ^^^ (-1 : Int32)) &&& (x0 - (1 : Int32)))).toUInt32 >>> (((16 : Int32)).toUInt32 &&& Int32.toUInt32 31)).toInt32) ((1 : Int32) + (16 : Int32)) σ)) else (
    some ((((x0 ^^^ (-1 : Int32)) &&& (x0 - (1 : Int32))) &&& (32 : Int32)), σ))
theorem fe_229 {d : Nat} (hd : 0 ≤ d) {x0 : Int32} {σ : fx_S} {q : Int32 × fx_S} (h : fm_229 x0 σ = some q) : fx_E none 229 d 0 [some (.int x0), none] [] σ (some (.int q.1)) q.2 := by
  unfold fm_229 at h
  refine fs_iload_n (k := 0) (p := 1) (by decide +kernel) rfl rfl ?_
  refine fs_iconst (n := -1) (p := 2) (by decide +kernel) rfl kc_m1 ?_
  refine fs_ixor (p := 3) (by decide +kernel) rfl ?_
  refine fs_iload_n (k := 0) (p := 4) (by decide +kernel) rfl rfl ?_
  refine fs_iconst (n := 1) (p := 5) (by decide +kernel) rfl kc_1 ?_
  refine fs_isub (p := 6) (by decide +kernel) rfl ?_
  refine fs_iand (p := 7) (by decide +kernel) rfl ?_
  refine fs_istore_n (k := 0) (p := 8) (M := 2) (al' := [some (.int ((x0 ^^^ (-1 : Int32)) &&& (x0 - (1 : Int32)))), none]) (by decide +kernel) rfl mx_229 rfl rfl ?_
  refine fs_iload_n (k := 0) (p := 9) (by decide +kernel) rfl rfl ?_
  by_cases c6 : 0 < ((x0 ^^^ (-1 : Int32)) &&& (x0 - (1 : Int32)))
  · rw [if_pos c6] at h
    refine fs_if_gt_t (off := 8) (t := 17) (by decide +kernel) (by decide +kernel) c6 ?_
    refine fs_iconst (n := 1) (p := 18) (by decide +kernel) rfl kc_1 ?_
    refine fs_istore_n (k := 1) (p := 19) (M := 2) (al' := [some (.int ((x0 ^^^ (-1 : Int32)) &&& (x0 - (1 : Int32)))), some (.int (1 : Int32))]) (by decide +kernel) rfl mx_229 rfl rfl ?_
    refine fs_iload_n (k := 0) (p := 20) (by decide +kernel) rfl rfl ?_
    refine fs_ldcw (idx := 264) (p := 23) (x := 65536) (by decide +kernel) rfl (by decide +kernel) ?_
    by_cases c7 : ((x0 ^^^ (-1 : Int32)) &&& (x0 - (1 : Int32))) ≤ (65536 : Int32)
    · rw [if_pos c7] at h
      refine fs_icmp_le_t (off := 11) (t := 34) (by decide +kernel) (by decide +kernel) c7 ?_
      exact fe_229_34 hd _ _ _ _ h
    · rw [if_neg c7] at h
      refine fs_icmp_le_f (off := 11) (t := 34) (p := 26) (by decide +kernel) (by decide +kernel) rfl c7 ?_
      refine fs_iinc (k := 1) (n := 16) (p := 29) (M := 2) (al' := [some (.int ((x0 ^^^ (-1 : Int32)) &&& (x0 - (1 : Int32)))), some (.int ((1 : Int32) + (16 : Int32)))]) (by decide +kernel) rfl kc_16 mx_229 rfl rfl rfl ?_
      refine fs_iload_n (k := 0) (p := 30) (by decide +kernel) rfl rfl ?_
      refine fs_bipush (n := 16) (p := 32) (by decide +kernel) rfl kb_16 ?_
      refine fs_iushr (p := 33) (by decide +kernel) rfl ?_
      refine fs_istore_n (k := 0) (p := 34) (M := 2) (al' := [some (.int ((((x0 ^^^ (-1 : Int32)) &&& (x0 - (1 : Int32)))).toUInt32 >>> (((16 : Int32)).toUInt32 &&& Int32.toUInt32 31)).toInt32), some (.int ((1 : Int32) + (16 : Int32)))]) (by decide +kernel) rfl mx_229 rfl rfl ?_
      exact fe_229_34 hd _ _ _ _ h
  · rw [if_neg c6] at h
    refine fs_if_gt_f (off := 8) (t := 17) (p := 12) (by decide +kernel) (by decide +kernel) rfl c6 ?_
    refine fs_iload_n (k := 0) (p := 13) (by decide +kernel) rfl rfl ?_
    refine fs_bipush (n := 32) (p := 15) (by decide +kernel) rfl kb_32 ?_
    refine fs_iand (p := 16) (by decide +kernel) rfl ?_
    have h := Option.some.inj h
    subst h
    exact fs_iret (by decide +kernel) rt_229

/-! java/lang/Integer.bitCount(I)I -/
theorem mx_230 : iv_mx 230 = 1 := by decide +kernel
theorem rt_230 : iv_rt 230 = some .int := by decide +kernel
def fm_230 (x0 : Int32) (σ : fx_S) : Option (Int32 × fx_S) :=
  some (((((((((x0 - (((x0).toUInt32 >>> (((1 : Int32)).toUInt32 &&& Int32.toUInt32 31)).toInt32 &&& (1431655765 : Int32))) &&& (858993459 : Int32)) + ((((x0 - (((x0).toUInt32 >>> (((1 : Int32)).toUInt32 &&& Int32.toUInt32 31)).toInt32 &&& (1431655765 : Int32)))).toUInt32 >>> (((2 : Int32)).toUInt32 &&& Int32.toUInt32 31)).toInt32 &&& (858993459 : Int32))) + (((((x0 - (((x0).toUInt32 >>> (((1 : Int32)).toUInt32 &&& Int32.toUInt32 31)).toInt32 &&& (1431655765 : Int32))) &&& (858993459 : Int32)) + ((((x0 - (((x0).toUInt32 >>> (((1 : Int32)).toUInt32 &&& Int32.toUInt32 31)).toInt32 &&& (1431655765 : Int32)))).toUInt32 >>> (((2 : Int32)).toUInt32 &&& Int32.toUInt32 31)).toInt32 &&& (858993459 : Int32)))).toUInt32 >>> (((4 : Int32)).toUInt32 &&& Int32.toUInt32 31)).toInt32) &&& (252645135 : Int32)) + (((((((x0 - (((x0).toUInt32 >>> (((1 : Int32)).toUInt32 &&& Int32.toUInt32 31)).toInt32 &&& (1431655765 : Int32))) &&& (858993459 : Int32)) + ((((x0 - (((x0).toUInt32 >>> (((1 : Int32)).toUInt32 &&& Int32.toUInt32 31)).toInt32 &&& (1431655765 : Int32)))).toUInt32 >>> (((2 : Int32)).toUInt32 &&& Int32.toUInt32 31)).toInt32 &&& (858993459 : Int32))) + (((((x0 - (((x0).toUInt32 >>> (((1 : Int32)).toUInt32 &&& Int32.toUInt32 31)).toInt32 &&& (1431655765 : Int32))) &&& (858993459 : Int32)) + ((((x0 - (((x0).toUInt32 >>> (((1 : Int32)).toUInt32 &&& Int32.toUInt32 31)).toInt32 &&& (1431655765 : Int32)))).toUInt32 >>> (((2 : Int32)).toUInt32 &&& Int32.toUInt32 31)).toInt32 &&& (858993459 : Int32)))).toUInt32 >>> (((4 : Int32)).toUInt32 &&& Int32.toUInt32 31)).toInt32) &&& (252645135 : Int32))).toUInt32 >>> (((8 : Int32)).toUInt32 &&& Int32.toUInt32 31)).toInt32) + ((((((((x0 - (((x0).toUInt32 >>> (((1 : Int32)).toUInt32 &&& Int32.toUInt32 31)).toInt32 &&& (1431655765 : Int32))) &&& (858993459 : Int32)) + ((((x0 - (((x0).toUInt32 >>> (((1 : Int32)).toUInt32 &&& Int32.toUInt32 31)).toInt32 &&& (1431655765 : Int32)))).toUInt32 >>> (((2 : Int32)).toUInt32 &&& Int32.toUInt32 31)).toInt32 &&& (858993459 : Int32))) + (((((x0 - (((x0).toUInt32 >>> (((1 : Int32)).toUInt32 &&& Int32.toUInt32 31)).toInt32 &&& (1431655765 : Int32))) &&& (858993459 : Int32)) + ((((x0 - (((x0).toUInt32 >>> (((1 : Int32)).toUInt32 &&& Int32.toUInt32 31)).toInt32 &&& (1431655765 : Int32)))).toUInt32 >>> (((2 : Int32)).toUInt32 &&& Int32.toUInt32 31)).toInt32 &&& (858993459 : Int32)))).toUInt32 >>> (((4 : Int32)).toUInt32 &&& Int32.toUInt32 31)).toInt32) &&& (252645135 : Int32)) + (((((((x0 - (((x0).toUInt32 >>> (((1 : Int32)).toUInt32 &&& Int32.toUInt32 31)).toInt32 &&& (1431655765 : Int32))) &&& (858993459 : Int32)) + ((((x0 - (((x0).toUInt32 >>> (((1 : Int32)).toUInt32 &&& Int32.toUInt32 31)).toInt32 &&& (1431655765 : Int32)))).toUInt32 >>> (((2 : Int32)).toUInt32 &&& Int32.toUInt32 31)).toInt32 &&& (858993459 : Int32))) + (((((x0 - (((x0).toUInt32 >>> (((1 : Int32)).toUInt32 &&& Int32.toUInt32 31)).toInt32 &&& (1431655765 : Int32))) &&& (858993459 : Int32)) + ((((x0 - (((x0).toUInt32 >>> (((1 : Int32)).toUInt32 &&& Int32.toUInt32 31)).toInt32 &&& (1431655765 : Int32)))).toUInt32 >>> (((2 : Int32)).toUInt32 &&& Int32.toUInt32 31)).toInt32 &&& (858993459 : Int32)))).toUInt32 >>> (((4 : Int32)).toUInt32 &&& Int32.toUInt32 31)).toInt32) &&& (252645135 : Int32))).toUInt32 >>> (((8 : Int32)).toUInt32 &&& Int32.toUInt32 31)).toInt32)).toUInt32 >>> (((16 : Int32)).toUInt32 &&& Int32.toUInt32 31)).toInt32) &&& (63 : Int32)), σ)
theorem fe_230 {d : Nat} (hd : 0 ≤ d) {x0 : Int32} {σ : fx_S} {q : Int32 × fx_S} (h : fm_230 x0 σ = some q) : fx_E none 230 d 0 [some (.int x0)] [] σ (some (.int q.1)) q.2 := by
  unfold fm_230 at h
  refine fs_iload_n (k := 0) (p := 1) (by decide +kernel) rfl rfl ?_
  refine fs_iload_n (k := 0) (p := 2) (by decide +kernel) rfl rfl ?_
  refine fs_iconst (n := 1) (p := 3) (by decide +kernel) rfl kc_1 ?_
  refine fs_iushr (p := 4) (by decide +kernel) rfl ?_
  refine fs_ldcw (idx := 265) (p := 7) (x := 1431655765) (by decide +kernel) rfl (by decide +kernel) ?_
  refine fs_iand (p := 8) (by decide +kernel) rfl ?_
  refine fs_isub (p := 9) (by decide +kernel) rfl ?_
  refine fs_istore_n (k := 0) (p := 10) (M := 1) (al' := [some (.int (x0 - (((x0).toUInt32 >>> (((1 : Int32)).toUInt32 &&& Int32.toUInt32 31)).toInt32 &&& (1431655765 : Int32))))]) (by decide +kernel) rfl mx_230 rfl rfl ?_
  refine fs_iload_n (k := 0) (p := 11) (by decide +kernel) rfl rfl ?_
  refine fs_ldcw (idx := 266) (p := 14) (x := 858993459) (by decide +kernel) rfl (by decide +kernel) ?_
  refine fs_iand (p := 15) (by decide +kernel) rfl ?_
  refine fs_iload_n (k := 0) (p := 16) (by decide +kernel) rfl rfl ?_
  refine fs_iconst (n := 2) (p := 17) (by decide +kernel) rfl kc_2 ?_
  refine fs_iushr (p := 18) (by decide +kernel) rfl ?_
  refine fs_ldcw (idx := 266) (p := 21) (x := 858993459) (by decide +kernel) rfl (by decide +kernel) ?_
  refine fs_iand (p := 22) (by decide +kernel) rfl ?_
  refine fs_iadd (p := 23) (by decide +kernel) rfl ?_
  refine fs_istore_n (k := 0) (p := 24) (M := 1) (al' := [some (.int (((x0 - (((x0).toUInt32 >>> (((1 : Int32)).toUInt32 &&& Int32.toUInt32 31)).toInt32 &&& (1431655765 : Int32))) &&& (858993459 : Int32)) + ((((x0 - (((x0).toUInt32 >>> (((1 : Int32)).toUInt32 &&& Int32.toUInt32 31)).toInt32 &&& (1431655765 : Int32)))).toUInt32 >>> (((2 : Int32)).toUInt32 &&& Int32.toUInt32 31)).toInt32 &&& (858993459 : Int32))))]) (by decide +kernel) rfl mx_230 rfl rfl ?_
  refine fs_iload_n (k := 0) (p := 25) (by decide +kernel) rfl rfl ?_
  refine fs_iload_n (k := 0) (p := 26) (by decide +kernel) rfl rfl ?_
  refine fs_iconst (n := 4) (p := 27) (by decide +kernel) rfl kc_4 ?_
  refine fs_iushr (p := 28) (by decide +kernel) rfl ?_
  refine fs_iadd (p := 29) (by decide +kernel) rfl ?_
  refine fs_ldcw (idx := 267) (p := 32) (x := 252645135) (by decide +kernel) rfl (by decide +kernel) ?_
  refine fs_iand (p := 33) (by decide +kernel) rfl ?_
  refine fs_istore_n (k := 0) (p := 34) (M := 1) (al' := [some (.int (((((x0 - (((x0).toUInt32 >>> (((1 : Int32)).toUInt32 &&& Int32.toUInt32 31)).toInt32 &&& (1431655765 : Int32))) &&& (858993459 : Int32)) + ((((x0 - (((x0).toUInt32 >>> (((1 : Int32)).toUInt32 &&& Int32.toUInt32 31)).toInt32 &&& (1431655765 : Int32)))).toUInt32 >>> (((2 : Int32)).toUInt32 &&& Int32.toUInt32 31)).toInt32 &&& (858993459 : Int32))) + (((((x0 - (((x0).toUInt32 >>> (((1 : Int32)).toUInt32 &&& Int32.toUInt32 31)).toInt32 &&& (1431655765 : Int32))) &&& (858993459 : Int32)) + ((((x0 - (((x0).toUInt32 >>> (((1 : Int32)).toUInt32 &&& Int32.toUInt32 31)).toInt32 &&& (1431655765 : Int32)))).toUInt32 >>> (((2 : Int32)).toUInt32 &&& Int32.toUInt32 31)).toInt32 &&& (858993459 : Int32)))).toUInt32 >>> (((4 : Int32)).toUInt32 &&& Int32.toUInt32 31)).toInt32) &&& (252645135 : Int32)))]) (by decide +kernel) rfl mx_230 rfl rfl ?_
  refine fs_iload_n (k := 0) (p := 35) (by decide +kernel) rfl rfl ?_
  refine fs_iload_n (k := 0) (p := 36) (by decide +kernel) rfl rfl ?_
  refine fs_bipush (n := 8) (p := 38) (by decide +kernel) rfl kb_8 ?_
  refine fs_iushr (p := 39) (by decide +kernel) rfl ?_
  refine fs_iadd (p := 40) (by decide +kernel) rfl ?_
  refine fs_istore_n (k := 0) (p := 41) (M := 1) (al' := [some (.int ((((((x0 - (((x0).toUInt32 >>> (((1 : Int32)).toUInt32 &&& Int32.toUInt32 31)).toInt32 &&& (1431655765 : Int32))) &&& (858993459 : Int32)) + ((((x0 - (((x0).toUInt32 >>> (((1 : Int32)).toUInt32 &&& Int32.toUInt32 31)).toInt32 &&& (1431655765 : Int32)))).toUInt32 >>> (((2 : Int32)).toUInt32 &&& Int32.toUInt32 31)).toInt32 &&& (858993459 : Int32))) + (((((x0 - (((x0).toUInt32 >>> (((1 : Int32)).toUInt32 &&& Int32.toUInt32 31)).toInt32 &&& (1431655765 : Int32))) &&& (858993459 : Int32)) + ((((x0 - (((x0).toUInt32 >>> (((1 : Int32)).toUInt32 &&& Int32.toUInt32 31)).toInt32 &&& (1431655765 : Int32)))).toUInt32 >>> (((2 : Int32)).toUInt32 &&& Int32.toUInt32 31)).toInt32 &&& (858993459 : Int32)))).toUInt32 >>> (((4 : Int32)).toUInt32 &&& Int32.toUInt32 31)).toInt32) &&& (252645135 : Int32)) + (((((((x0 - (((x0).toUInt32 >>> (((1 : Int32)).toUInt32 &&& Int32.toUInt32 31)).toInt32 &&& (1431655765 : Int32))) &&& (858993459 : Int32)) + ((((x0 - (((x0).toUInt32 >>> (((1 : Int32)).toUInt32 &&& Int32.toUInt32 31)).toInt32 &&& (1431655765 : Int32)))).toUInt32 >>> (((2 : Int32)).toUInt32 &&& Int32.toUInt32 31)).toInt32 &&& (858993459 : Int32))) + (((((x0 - (((x0).toUInt32 >>> (((1 : Int32)).toUInt32 &&& Int32.toUInt32 31)).toInt32 &&& (1431655765 : Int32))) &&& (858993459 : Int32)) + ((((x0 - (((x0).toUInt32 >>> (((1 : Int32)).toUInt32 &&& Int32.toUInt32 31)).toInt32 &&& (1431655765 : Int32)))).toUInt32 >>> (((2 : Int32)).toUInt32 &&& Int32.toUInt32 31)).toInt32 &&& (858993459 : Int32)))).toUInt32 >>> (((4 : Int32)).toUInt32 &&& Int32.toUInt32 31)).toInt32) &&& (252645135 : Int32))).toUInt32 >>> (((8 : Int32)).toUInt32 &&& Int32.toUInt32 31)).toInt32))]) (by decide +kernel) rfl mx_230 rfl rfl ?_
  refine fs_iload_n (k := 0) (p := 42) (by decide +kernel) rfl rfl ?_
  refine fs_iload_n (k := 0) (p := 43) (by decide +kernel) rfl rfl ?_
  refine fs_bipush (n := 16) (p := 45) (by decide +kernel) rfl kb_16 ?_
  refine fs_iushr (p := 46) (by decide +kernel) rfl ?_
  refine fs_iadd (p := 47) (by decide +kernel) rfl ?_
  refine fs_istore_n (k := 0) (p := 48) (M := 1) (al' := [some (.int (((((((x0 - (((x0).toUInt32 >>> (((1 : Int32)).toUInt32 &&& Int32.toUInt32 31)).toInt32 &&& (1431655765 : Int32))) &&& (858993459 : Int32)) + ((((x0 - (((x0).toUInt32 >>> (((1 : Int32)).toUInt32 &&& Int32.toUInt32 31)).toInt32 &&& (1431655765 : Int32)))).toUInt32 >>> (((2 : Int32)).toUInt32 &&& Int32.toUInt32 31)).toInt32 &&& (858993459 : Int32))) + (((((x0 - (((x0).toUInt32 >>> (((1 : Int32)).toUInt32 &&& Int32.toUInt32 31)).toInt32 &&& (1431655765 : Int32))) &&& (858993459 : Int32)) + ((((x0 - (((x0).toUInt32 >>> (((1 : Int32)).toUInt32 &&& Int32.toUInt32 31)).toInt32 &&& (1431655765 : Int32)))).toUInt32 >>> (((2 : Int32)).toUInt32 &&& Int32.toUInt32 31)).toInt32 &&& (858993459 : Int32)))).toUInt32 >>> (((4 : Int32)).toUInt32 &&& Int32.toUInt32 31)).toInt32) &&& (252645135 : Int32)) + (((((((x0 - (((x0).toUInt32 >>> (((1 : Int32)).toUInt32 &&& Int32.toUInt32 31)).toInt32 &&& (1431655765 : Int32))) &&& (858993459 : Int32)) + ((((x0 - (((x0).toUInt32 >>> (((1 : Int32)).toUInt32 &&& Int32.toUInt32 31)).toInt32 &&& (1431655765 : Int32)))).toUInt32 >>> (((2 : Int32)).toUInt32 &&& Int32.toUInt32 31)).toInt32 &&& (858993459 : Int32))) + (((((x0 - (((x0).toUInt32 >>> (((1 : Int32)).toUInt32 &&& Int32.toUInt32 31)).toInt32 &&& (1431655765 : Int32))) &&& (858993459 : Int32)) + ((((x0 - (((x0).toUInt32 >>> (((1 : Int32)).toUInt32 &&& Int32.toUInt32 31)).toInt32 &&& (1431655765 : Int32)))).toUInt32 >>> (((2 : Int32)).toUInt32 &&& Int32.toUInt32 31)).toInt32 &&& (858993459 : Int32)))).toUInt32 >>> (((4 : Int32)).toUInt32 &&& Int32.toUInt32 31)).toInt32) &&& (252645135 : Int32))).toUInt32 >>> (((8 : Int32)).toUInt32 &&& Int32.toUInt32 31)).toInt32) + ((((((((x0 - (((x0).toUInt32 >>> (((1 : Int32)).toUInt32 &&& Int32.toUInt32 31)).toInt32 &&& (1431655765 : Int32))) &&& (858993459 : Int32)) + ((((x0 - (((x0).toUInt32 >>> (((1 : Int32)).toUInt32 &&& Int32.toUInt32 31)).toInt32 &&& (1431655765 : Int32)))).toUInt32 >>> (((2 : Int32)).toUInt32 &&& Int32.toUInt32 31)).toInt32 &&& (858993459 : Int32))) + (((((x0 - (((x0).toUInt32 >>> (((1 : Int32)).toUInt32 &&& Int32.toUInt32 31)).toInt32 &&& (1431655765 : Int32))) &&& (858993459 : Int32)) + ((((x0 - (((x0).toUInt32 >>> (((1 : Int32)).toUInt32 &&& Int32.toUInt32 31)).toInt32 &&& (1431655765 : Int32)))).toUInt32 >>> (((2 : Int32)).toUInt32 &&& Int32.toUInt32 31)).toInt32 &&& (858993459 : Int32)))).toUInt32 >>> (((4 : Int32)).toUInt32 &&& Int32.toUInt32 31)).toInt32) &&& (252645135 : Int32)) + (((((((x0 - (((x0).toUInt32 >>> (((1 : Int32)).toUInt32 &&& Int32.toUInt32 31)).toInt32 &&& (1431655765 : Int32))) &&& (858993459 : Int32)) + ((((x0 - (((x0).toUInt32 >>> (((1 : Int32)).toUInt32 &&& Int32.toUInt32 31)).toInt32 &&& (1431655765 : Int32)))).toUInt32 >>> (((2 : Int32)).toUInt32 &&& Int32.toUInt32 31)).toInt32 &&& (858993459 : Int32))) + (((((x0 - (((x0).toUInt32 >>> (((1 : Int32)).toUInt32 &&& Int32.toUInt32 31)).toInt32 &&& (1431655765 : Int32))) &&& (858993459 : Int32)) + ((((x0 - (((x0).toUInt32 >>> (((1 : Int32)).toUInt32 &&& Int32.toUInt32 31)).toInt32 &&& (1431655765 : Int32)))).toUInt32 >>> (((2 : Int32)).toUInt32 &&& Int32.toUInt32 31)).toInt32 &&& (858993459 : Int32)))).toUInt32 >>> (((4 : Int32)).toUInt32 &&& Int32.toUInt32 31)).toInt32) &&& (252645135 : Int32))).toUInt32 >>> (((8 : Int32)).toUInt32 &&& Int32.toUInt32 31)).toInt32)).toUInt32 >>> (((16 : Int32)).toUInt32 &&& Int32.toUInt32 31)).toInt32))]) (by decide +kernel) rfl mx_230 rfl rfl ?_
  refine fs_iload_n (k := 0) (p := 49) (by decide +kernel) rfl rfl ?_
  refine fs_bipush (n := 63) (p := 51) (by decide +kernel) rfl kb_63 ?_
  refine fs_iand (p := 52) (by decide +kernel) rfl ?_
  have h := Option.some.inj h
  subst h
  exact fs_iret (by decide +kernel) rt_230

/-! java/lang/Math.abs(I)I -/
theorem mx_231 : iv_mx 231 = 1 := by decide +kernel
theorem rt_231 : iv_rt 231 = some .int := by decide +kernel
def fm_231 (x0 : Int32) (σ : fx_S) : Option (Int32 × fx_S) :=
  if 0 ≤ x0 then (
    some (x0, σ)) else (
    some ((-x0), σ))
theorem fe_231 {d : Nat} (hd : 0 ≤ d) {x0 : Int32} {σ : fx_S} {q : Int32 × fx_S} (h : fm_231 x0 σ = some q) : fx_E none 231 d 0 [some (.int x0)] [] σ (some (.int q.1)) q.2 := by
  unfold fm_231 at h
  refine fs_iload_n (k := 0) (p := 1) (by decide +kernel) rfl rfl ?_
  by_cases c2 : 0 ≤ x0
  · rw [if_pos c2] at h
    refine fs_if_ge_t (off := 8) (t := 9) (by decide +kernel) (by decide +kernel) c2 ?_
    refine fs_iload_n (k := 0) (p := 10) (by decide +kernel) rfl rfl ?_
    have h := Option.some.inj h
    subst h
    exact fs_iret (by decide +kernel) rt_231
  · rw [if_neg c2] at h
    refine fs_if_ge_f (off := 8) (t := 9) (p := 4) (by decide +kernel) (by decide +kernel) rfl c2 ?_
    refine fs_iload_n (k := 0) (p := 5) (by decide +kernel) rfl rfl ?_
    refine fs_ineg (p := 6) (by decide +kernel) rfl ?_
    refine fs_goto (off := 4) (p := 10) (by decide +kernel) (by decide +kernel) ?_
    have h := Option.some.inj h
    subst h
    exact fs_iret (by decide +kernel) rt_231

/-! java/lang/Math.abs(J)J -/
theorem mx_232 : iv_mx 232 = 2 := by decide +kernel
theorem rt_232 : iv_rt 232 = some .long := by decide +kernel
def fm_232 (x0 : Int64) (σ : fx_S) : Option (Int64 × fx_S) :=
  if (0 : Int64) ≤ x0 then (
    some (x0, σ)) else (
    some ((-x0), σ))
theorem fe_232 {d : Nat} (hd : 0 ≤ d) {x0 : Int64} {σ : fx_S} {q : Int64 × fx_S} (h : fm_232 x0 σ = some q) : fx_E none 232 d 0 [some (.long x0), none] [] σ (some (.long q.1)) q.2 := by
  unfold fm_232 at h
  refine fs_lload_n (k := 0) (p := 1) (by decide +kernel) rfl rfl ?_
  refine fs_lconst (n := 0) (p := 2) (by decide +kernel) rfl kl_0 ?_
  by_cases c2 : (0 : Int64) ≤ x0
  · rw [if_pos c2] at h
    refine fs_lcmp_ge_t (off := 8) (t := 11) (by decide +kernel) (by decide +kernel) (by decide +kernel) c2 ?_
    refine fs_lload_n (k := 0) (p := 12) (by decide +kernel) rfl rfl ?_
    have h := Option.some.inj h
    subst h
    exact fs_lret (by decide +kernel) rt_232
  · rw [if_neg c2] at h
    refine fs_lcmp_ge_f (off := 8) (t := 11) (p := 6) (by decide +kernel) (by decide +kernel) (by decide +kernel) rfl c2 ?_
    refine fs_lload_n (k := 0) (p := 7) (by decide +kernel) rfl rfl ?_
    refine fs_lneg (p := 8) (by decide +kernel) rfl ?_
    refine fs_goto (off := 4) (p := 12) (by decide +kernel) (by decide +kernel) ?_
    have h := Option.some.inj h
    subst h
    exact fs_lret (by decide +kernel) rt_232

/-! java/lang/Math.max(II)I -/
theorem mx_233 : iv_mx 233 = 2 := by decide +kernel
theorem rt_233 : iv_rt 233 = some .int := by decide +kernel
def fm_233 (x0 : Int32) (x1 : Int32) (σ : fx_S) : Option (Int32 × fx_S) :=
  if x0 < x1 then (
    some (x1, σ)) else (
    some (x0, σ))
theorem fe_233 {d : Nat} (hd : 0 ≤ d) {x0 : Int32} {x1 : Int32} {σ : fx_S} {q : Int32 × fx_S} (h : fm_233 x0 x1 σ = some q) : fx_E none 233 d 0 [some (.int x0), some (.int x1)] [] σ (some (.int q.1)) q.2 := by
  unfold fm_233 at h
  refine fs_iload_n (k := 0) (p := 1) (by decide +kernel) rfl rfl ?_
  refine fs_iload_n (k := 1) (p := 2) (by decide +kernel) rfl rfl ?_
  by_cases c2 : x0 < x1
  · rw [if_pos c2] at h
    refine fs_icmp_lt_t (off := 7) (t := 9) (by decide +kernel) (by decide +kernel) c2 ?_
    refine fs_iload_n (k := 1) (p := 10) (by decide +kernel) rfl rfl ?_
    have h := Option.some.inj h
    subst h
    exact fs_iret (by decide +kernel) rt_233
  · rw [if_neg c2] at h
    refine fs_icmp_lt_f (off := 7) (t := 9) (p := 5) (by decide +kernel) (by decide +kernel) rfl c2 ?_
    refine fs_iload_n (k := 0) (p := 6) (by decide +kernel) rfl rfl ?_
    refine fs_goto (off := 4) (p := 10) (by decide +kernel) (by decide +kernel) ?_
    have h := Option.some.inj h
    subst h
    exact fs_iret (by decide +kernel) rt_233

/-! java/lang/Math.min(II)I -/
theorem mx_234 : iv_mx 234 = 2 := by decide +kernel
theorem rt_234 : iv_rt 234 = some .int := by decide +kernel
def fm_234 (x0 : Int32) (x1 : Int32) (σ : fx_S) : Option (Int32 × fx_S) :=
  if x1 < x0 then (
    some (x1, σ)) else (
    some (x0, σ))
theorem fe_234 {d : Nat} (hd : 0 ≤ d) {x0 : Int32} {x1 : Int32} {σ : fx_S} {q : Int32 × fx_S} (h : fm_234 x0 x1 σ = some q) : fx_E none 234 d 0 [some (.int x0), some (.int x1)] [] σ (some (.int q.1)) q.2 := by
  unfold fm_234 at h
  refine fs_iload_n (k := 0) (p := 1) (by decide +kernel) rfl rfl ?_
  refine fs_iload_n (k := 1) (p := 2) (by decide +kernel) rfl rfl ?_
  by_cases c2 : x1 < x0
  · rw [if_pos c2] at h
    refine fs_icmp_gt_t (off := 7) (t := 9) (by decide +kernel) (by decide +kernel) c2 ?_
    refine fs_iload_n (k := 1) (p := 10) (by decide +kernel) rfl rfl ?_
    have h := Option.some.inj h
    subst h
    exact fs_iret (by decide +kernel) rt_234
  · rw [if_neg c2] at h
    refine fs_icmp_gt_f (off := 7) (t := 9) (p := 5) (by decide +kernel) (by decide +kernel) rfl c2 ?_
    refine fs_iload_n (k := 0) (p := 6) (by decide +kernel) rfl rfl ?_
    refine fs_goto (off := 4) (p := 10) (by decide +kernel) (by decide +kernel) ?_
    have h := Option.some.inj h
    subst h
    exact fs_iret (by decide +kernel) rt_234

/-! java/util/Arrays.fill([II)V -/
theorem mx_235 : iv_mx 235 = 4 := by decide +kernel
theorem rt_235 : iv_rt 235 = none := by decide +kernel
def fm_235_5 : Nat → Nat → Int32 → Int32 → Int32 → fx_S → Option (fx_S)
  | 0, _, _, _, _, _ => none
  | n + 1, x0, x1, x2, x3, σ =>
    if x3 ≤ x2 then (
      some σ) else (
      (fx_st σ x0 x2 x1).bind fun t2 =>
      fm_235_5 n x0 x1 (x2 + (1 : Int32)) x3 t2)
theorem fe_235_5 {d : Nat} (hd : 0 ≤ d) : ∀ (n : Nat) (x0 : Nat) (x1 : Int32) (x2 : Int32) (x3 : Int32) (σ : fx_S) (q : fx_S), fm_235_5 n x0 x1 x2 x3 σ = some q → fx_E none 235 d 5 [some (.ref x0), some (.int x1), some (.int x2), some (.int x3)] [] σ none q := by
  intro n
  induction n with
  | zero =>
    intro x0 x1 x2 x3 σ q  h
    rw [fm_235_5] at h
    exact fx_no h
  | succ n ih =>
    intro x0 x1 x2 x3 σ q  h
    rw [fm_235_5] at h
    refine fs_iload_n (k := 2) (p := 6) (by decide +kernel) rfl rfl ?_
    refine fs_iload_n (k := 3) (p := 7) (by decide +kernel) rfl rfl ?_
    by_cases c1 : x3 ≤ x2
    · rw [if_pos c1] at h
      refine fs_icmp_ge_t (off := 13) (t := 20) (by decide +kernel) (by decide +kernel) c1 ?_
      have h := Option.some.inj h
      subst h
      exact fs_ret (by decide +kernel) rt_235
    · rw [if_neg c1] at h
      refine fs_icmp_ge_f (off := 13) (t := 20) (p := 10) (by decide +kernel) (by decide +kernel) rfl c1 ?_
      refine fs_aload_n (k := 0) (p := 11) (by decide +kernel) rfl rfl ?_
      refine fs_iload_n (k := 2) (p := 12) (by decide +kernel) rfl rfl ?_
      refine fs_iload_n (k := 1) (p := 13) (by decide +kernel) rfl rfl ?_
      obtain ⟨t2, e3, h⟩ := fx_bd h
      refine fs_iastore (p := 14) (by decide +kernel) rfl e3 ?_
      refine fs_iinc (k := 2) (n := 1) (p := 17) (M := 4) (al' := [some (.ref x0), some (.int x1), some (.int (x2 + (1 : Int32))), some (.int x3)]) (by decide +kernel) rfl kc_1 mx_235 rfl rfl rfl ?_
      refine fs_goto (off := -12) (p := 5) (by decide +kernel) (by decide +kernel) ?_
      exact ih _ _ _ _ _ _ h
def fm_235 (x0 : Nat) (x1 : Int32) (σ : fx_S) : Option (fx_S) :=
  if fx_ok (fx_sh x0).1 x0 0 = true ∧ fx_sh x0 = (0, (fx_sh x0).2) then (
  fm_235_5 100000 x0 x1 (0 : Int32) (fx_len x0) σ) else none
theorem fe_235 {d : Nat} (hd : 0 ≤ d) {x0 : Nat} {x1 : Int32} {σ : fx_S} {q : fx_S} (h : fm_235 x0 x1 σ = some q) : fx_E none 235 d 0 [some (.ref x0), some (.int x1), none, none] [] σ none q := by
  unfold fm_235 at h
  refine fs_iconst (n := 0) (p := 1) (by decide +kernel) rfl kc_0 ?_
  refine fs_istore_n (k := 2) (p := 2) (M := 4) (al' := [some (.ref x0), some (.int x1), some (.int (0 : Int32)), none]) (by decide +kernel) rfl mx_235 rfl rfl ?_
  refine fs_aload_n (k := 0) (p := 3) (by decide +kernel) rfl rfl ?_
  obtain ⟨z6, h⟩ := fx_gd h
  refine fs_alen (p := 4) (by decide +kernel) rfl z6.1 z6.2 ?_
  refine fs_istore_n (k := 3) (p := 5) (M := 4) (al' := [some (.ref x0), some (.int x1), some (.int (0 : Int32)), some (.int (fx_len x0))]) (by decide +kernel) rfl mx_235 rfl rfl ?_
  exact fe_235_5 hd 100000 _ _ _ _ _ _ h

/-! ZoneShares$CountsText.number(LZoneShares$Tape;)I -/
theorem mx_6 : iv_mx 6 = 3 := by decide +kernel
theorem rt_6 : iv_rt 6 = some .int := by decide +kernel
def fm_6_63 (x2 : Int32) (σ : fx_S) : Option (Int32 × fx_S) :=
  some (x2, σ)
theorem fe_6_63 {d : Nat} (hd : 1 ≤ d) (x2 : Int32) (o0 : Option Value) (o1 : Option Value) (σ : fx_S) (q : Int32 × fx_S) (h : fm_6_63  x2 σ = some q) : fx_E none 6 d 63 [o0, o1, some (.int x2)] [] σ (some (.int q.1)) q.2 := by
  unfold fm_6_63 at h
  refine fs_iload_n (k := 2) (p := 64) (by decide +kernel) rfl rfl ?_
  have h := Option.some.inj h
  subst h
  exact fs_iret (by decide +kernel) rt_6
def fm_6_2 : Nat → Int32 → fx_S → Option (Int32 × fx_S)
  | 0, _, _ => none
  | n + 1, x2, σ =>
    if (σ.1 14 1) ≤ (σ.1 60 2) then (
      fm_6_63 x2 σ) else (
      (fm_83 (σ.1 60 2) σ).bind fun q3 =>
      (fm_8 q3.1 q3.2).bind fun q5 =>
      if (fx_b q5.1) = 0 then (
        fm_6_63 x2 q5.2) else (
        (fm_83 (q5.2.1 60 2) q5.2).bind fun q8 =>
        (fm_234 (10000 : Int32) (((x2 * (10 : Int32)) + q8.1) - (48 : Int32)) q8.2).bind fun q10 =>
        fm_6_2 n q10.1 (fx_w1 q10.2 60 2 ((q10.2.1 60 2) + (1 : Int32)))))
theorem fe_6_2 {d : Nat} (hd : 1 ≤ d) : ∀ (n : Nat) (x2 : Int32) (σ : fx_S) (q : Int32 × fx_S), fm_6_2 n x2 σ = some q → fx_E none 6 d 2 [some (.ref 60), some (.ref 14), some (.int x2)] [] σ (some (.int q.1)) q.2 := by
  intro n
  induction n with
  | zero =>
    intro x2 σ q  h
    rw [fm_6_2] at h
    exact fx_no h
  | succ n ih =>
    intro x2 σ q  h
    rw [fm_6_2] at h
    refine fs_aload_n (k := 0) (p := 3) (by decide +kernel) rfl rfl ?_
    refine fs_gfi (idx := 25) (ci := 0) (j := 2) (p := 6) (by decide +kernel) rfl (by decide +kernel) fo_60 ?_
    refine fs_aload_n (k := 1) (p := 7) (by decide +kernel) rfl rfl ?_
    refine fs_gfi (idx := 28) (ci := 8) (j := 1) (p := 10) (by decide +kernel) rfl (by decide +kernel) fo_14 ?_
    by_cases c1 : (σ.1 14 1) ≤ (σ.1 60 2)
    · rw [if_pos c1] at h
      refine fs_icmp_ge_t (off := 53) (t := 63) (by decide +kernel) (by decide +kernel) c1 ?_
      exact fe_6_63 hd _ _ _ _ _ h
    · rw [if_neg c1] at h
      refine fs_icmp_ge_f (off := 53) (t := 63) (p := 13) (by decide +kernel) (by decide +kernel) rfl c1 ?_
      refine fs_aload_n (k := 1) (p := 14) (by decide +kernel) rfl rfl ?_
      refine fs_aload_n (k := 0) (p := 15) (by decide +kernel) rfl rfl ?_
      refine fs_gfi (idx := 25) (ci := 0) (j := 2) (p := 18) (by decide +kernel) rfl (by decide +kernel) fo_60 ?_
      obtain ⟨q3, e2, h⟩ := fx_bd h
      refine fs_callV (idx := 37) (mj := 83) (ci := 8) (na := 1) (mx := 2) (p := 21) (args := [.ref 14, .int (σ.1 60 2)]) (rest := []) (al2 := [some (.ref 14), some (.int (σ.1 60 2))]) (by decide +kernel) rfl (by decide +kernel) fo_14 rfl rfl rfl rfl rfl rfl rfl (by omega) (fun d' hd' => fe_83 (by omega) e2) rfl ?_
      obtain ⟨q5, e4, h⟩ := fx_bd h
      refine fs_callS (idx := 44) (mj := 8) (na := 1) (mx := 1) (p := 24) (args := [.int q3.1]) (rest := []) (al2 := [some (.int q3.1)]) (by decide +kernel) rfl (by decide +kernel) rfl rfl rfl rfl rfl rfl rfl (by omega) (fun d' hd' => fe_8 (by omega) e4) rfl ?_
      by_cases c6 : (fx_b q5.1) = 0
      · rw [if_pos c6] at h
        refine fs_if_eq_t (off := 39) (t := 63) (by decide +kernel) (by decide +kernel) c6 ?_
        exact fe_6_63 hd _ _ _ _ _ h
      · rw [if_neg c6] at h
        refine fs_if_eq_f (off := 39) (t := 63) (p := 27) (by decide +kernel) (by decide +kernel) rfl c6 ?_
        refine fs_sipush (n := 10000) (p := 30) (by decide +kernel) rfl ks_10000 ?_
        refine fs_iload_n (k := 2) (p := 31) (by decide +kernel) rfl rfl ?_
        refine fs_bipush (n := 10) (p := 33) (by decide +kernel) rfl kb_10 ?_
        refine fs_imul (p := 34) (by decide +kernel) rfl ?_
        refine fs_aload_n (k := 1) (p := 35) (by decide +kernel) rfl rfl ?_
        refine fs_aload_n (k := 0) (p := 36) (by decide +kernel) rfl rfl ?_
        refine fs_gfi (idx := 25) (ci := 0) (j := 2) (p := 39) (by decide +kernel) rfl (by decide +kernel) fo_60 ?_
        obtain ⟨q8, e7, h⟩ := fx_bd h
        refine fs_callV (idx := 37) (mj := 83) (ci := 8) (na := 1) (mx := 2) (p := 42) (args := [.ref 14, .int (q5.2.1 60 2)]) (rest := [.int (x2 * (10 : Int32)), .int (10000 : Int32)]) (al2 := [some (.ref 14), some (.int (q5.2.1 60 2))]) (by decide +kernel) rfl (by decide +kernel) fo_14 rfl rfl rfl rfl rfl rfl rfl (by omega) (fun d' hd' => fe_83 (by omega) e7) rfl ?_
        refine fs_iadd (p := 43) (by decide +kernel) rfl ?_
        refine fs_bipush (n := 48) (p := 45) (by decide +kernel) rfl kb_48 ?_
        refine fs_isub (p := 46) (by decide +kernel) rfl ?_
        obtain ⟨q10, e9, h⟩ := fx_bd h
        refine fs_callS (idx := 51) (mj := 234) (na := 2) (mx := 2) (p := 49) (args := [.int (10000 : Int32), .int (((x2 * (10 : Int32)) + q8.1) - (48 : Int32))]) (rest := []) (al2 := [some (.int (10000 : Int32)), some (.int (((x2 * (10 : Int32)) + q8.1) - (48 : Int32)))]) (by decide +kernel) rfl (by decide +kernel) rfl rfl rfl rfl rfl rfl rfl (by omega) (fun d' hd' => fe_234 (by omega) e9) rfl ?_
        refine fs_istore_n (k := 2) (p := 50) (M := 3) (al' := [some (.ref 60), some (.ref 14), some (.int q10.1)]) (by decide +kernel) rfl mx_6 rfl rfl ?_
        refine fs_aload_n (k := 0) (p := 51) (by decide +kernel) rfl rfl ?_
        refine fs_dup (p := 52) (by decide +kernel) rfl rfl ?_
        refine fs_gfi (idx := 25) (ci := 0) (j := 2) (p := 55) (by decide +kernel) rfl (by decide +kernel) fo_60 ?_
        refine fs_iconst (n := 1) (p := 56) (by decide +kernel) rfl kc_1 ?_
        refine fs_iadd (p := 57) (by decide +kernel) rfl ?_
        refine fs_pfi (idx := 25) (ci := 0) (j := 2) (p := 60) (by decide +kernel) rfl (by decide +kernel) (by decide +kernel) fo_60 (fx_oki _ (by decide +kernel)) ?_
        refine fs_goto (off := -58) (p := 2) (by decide +kernel) (by decide +kernel) ?_
        exact ih _ _ _ h
def fm_6 (σ : fx_S) : Option (Int32 × fx_S) :=
  fm_6_2 100000 (0 : Int32) σ
theorem fe_6 {d : Nat} (hd : 1 ≤ d) {σ : fx_S} {q : Int32 × fx_S} (h : fm_6 σ = some q) : fx_E none 6 d 0 [some (.ref 60), some (.ref 14), none] [] σ (some (.int q.1)) q.2 := by
  unfold fm_6 at h
  refine fs_iconst (n := 0) (p := 1) (by decide +kernel) rfl kc_0 ?_
  refine fs_istore_n (k := 2) (p := 2) (M := 3) (al' := [some (.ref 60), some (.ref 14), some (.int (0 : Int32))]) (by decide +kernel) rfl mx_6 rfl rfl ?_
  exact fe_6_2 hd 100000 _ _ _ h

/-! ZoneShares$Fitter.countCells(LZoneShares$State;I)V -/
theorem mx_11 : iv_mx 11 = 6 := by decide +kernel
theorem rt_11 : iv_rt 11 = none := by decide +kernel
def fm_11_63 (k_8 : Nat → Int32 → Int32 → Int32 → fx_S → Option (fx_S)) (x1 : Nat) (x2 : Int32) (x3 : Int32) (x4 : Int32) (σ : fx_S) : Option (fx_S) :=
  k_8 x1 x2 x3 (x4 + (1 : Int32)) σ
theorem fe_11_63 {d : Nat} (hd : 1 ≤ d) {k_8 : Nat → Int32 → Int32 → Int32 → fx_S → Option (fx_S)} (hk_8 : ∀ (x1 : Nat) (x2 : Int32) (x3 : Int32) (x4 : Int32) (o5 : Option Value) (σ : fx_S) (q : fx_S) (g1 : fx_oc x1 6 = true), k_8 x1 x2 x3 x4 σ = some q → fx_E none 11 d 8 [some (.ref 62), some (.ref x1), some (.int x2), some (.int x3), some (.int x4), o5] [] σ none q) (x1 : Nat) (x2 : Int32) (x3 : Int32) (x4 : Int32) (o5 : Option Value) (σ : fx_S) (q : fx_S) (g1 : fx_oc x1 6 = true) (h : fm_11_63 k_8  x1 x2 x3 x4 σ = some q) : fx_E none 11 d 63 [some (.ref 62), some (.ref x1), some (.int x2), some (.int x3), some (.int x4), o5] [] σ none q := by
  unfold fm_11_63 at h
  refine fs_iinc (k := 4) (n := 1) (p := 66) (M := 6) (al' := [some (.ref 62), some (.ref x1), some (.int x2), some (.int x3), some (.int (x4 + (1 : Int32))), o5]) (by decide +kernel) rfl kc_1 mx_11 rfl rfl rfl ?_
  refine fs_goto (off := -58) (p := 8) (by decide +kernel) (by decide +kernel) ?_
  exact hk_8 _ _ _ _ _ _ _ g1 h
def fm_11_8 : Nat → Nat → Int32 → Int32 → Int32 → fx_S → Option (fx_S)
  | 0, _, _, _, _, _ => none
  | n + 1, x1, x2, x3, x4, σ =>
    if x3 ≤ x4 then (
      some σ) else (
      (fm_60 x1 (0 : Int32) x4 σ).bind fun q3 =>
      if ¬ q3.1 = x2 then (
        fm_11_63 (fm_11_8 n) x1 x2 x3 x4 q3.2) else (
        (fm_60 x1 (2 : Int32) x4 q3.2).bind fun q6 =>
        (fx_ld q6.2 65 (((q6.2.1 62 2) * (4 : Int32)) + q6.1)).bind fun v7 =>
        (fx_st q6.2 65 (((q6.2.1 62 2) * (4 : Int32)) + q6.1) (v7 + (1 : Int32))).bind fun t9 =>
        (fx_ld t9 66 q6.1).bind fun v11 =>
        (fx_st t9 66 q6.1 (v11 + (1 : Int32))).bind fun t13 =>
        fm_11_63 (fm_11_8 n) x1 x2 x3 x4 t13))
theorem fe_11_8 {d : Nat} (hd : 1 ≤ d) : ∀ (n : Nat) (x1 : Nat) (x2 : Int32) (x3 : Int32) (x4 : Int32) (o5 : Option Value) (σ : fx_S) (q : fx_S) (g1 : fx_oc x1 6 = true), fm_11_8 n x1 x2 x3 x4 σ = some q → fx_E none 11 d 8 [some (.ref 62), some (.ref x1), some (.int x2), some (.int x3), some (.int x4), o5] [] σ none q := by
  intro n
  induction n with
  | zero =>
    intro x1 x2 x3 x4 o5 σ q g1 h
    rw [fm_11_8] at h
    exact fx_no h
  | succ n ih =>
    intro x1 x2 x3 x4 o5 σ q g1 h
    rw [fm_11_8] at h
    refine fs_iload (k := 4) (p := 10) (by decide +kernel) rfl rfl ?_
    refine fs_iload_n (k := 3) (p := 11) (by decide +kernel) rfl rfl ?_
    by_cases c1 : x3 ≤ x4
    · rw [if_pos c1] at h
      refine fs_icmp_ge_t (off := 58) (t := 69) (by decide +kernel) (by decide +kernel) c1 ?_
      have h := Option.some.inj h
      subst h
      exact fs_ret (by decide +kernel) rt_11
    · rw [if_neg c1] at h
      refine fs_icmp_ge_f (off := 58) (t := 69) (p := 14) (by decide +kernel) (by decide +kernel) rfl c1 ?_
      refine fs_aload_n (k := 1) (p := 15) (by decide +kernel) rfl rfl ?_
      refine fs_iconst (n := 0) (p := 16) (by decide +kernel) rfl kc_0 ?_
      refine fs_iload (k := 4) (p := 18) (by decide +kernel) rfl rfl ?_
      obtain ⟨q3, e2, h⟩ := fx_bd h
      refine fs_callV (idx := 67) (mj := 60) (ci := 6) (na := 2) (mx := 3) (p := 21) (args := [.ref x1, .int (0 : Int32), .int x4]) (rest := []) (al2 := [some (.ref x1), some (.int (0 : Int32)), some (.int x4)]) (by decide +kernel) rfl (by decide +kernel) g1 rfl rfl rfl rfl rfl rfl rfl (by omega) (fun d' hd' => fe_60 (by omega) e2) rfl ?_
      refine fs_iload_n (k := 2) (p := 22) (by decide +kernel) rfl rfl ?_
      by_cases c4 : ¬ q3.1 = x2
      · rw [if_pos c4] at h
        refine fs_icmp_ne_t (off := 41) (t := 63) (by decide +kernel) (by decide +kernel) c4 ?_
        exact fe_11_63 hd ih _ _ _ _ _ _ _ g1 h
      · rw [if_neg c4] at h
        refine fs_icmp_ne_f (off := 41) (t := 63) (p := 25) (by decide +kernel) (by decide +kernel) rfl c4 ?_
        refine fs_aload_n (k := 1) (p := 26) (by decide +kernel) rfl rfl ?_
        refine fs_iconst (n := 2) (p := 27) (by decide +kernel) rfl kc_2 ?_
        refine fs_iload (k := 4) (p := 29) (by decide +kernel) rfl rfl ?_
        obtain ⟨q6, e5, h⟩ := fx_bd h
        refine fs_callV (idx := 67) (mj := 60) (ci := 6) (na := 2) (mx := 3) (p := 32) (args := [.ref x1, .int (2 : Int32), .int x4]) (rest := []) (al2 := [some (.ref x1), some (.int (2 : Int32)), some (.int x4)]) (by decide +kernel) rfl (by decide +kernel) g1 rfl rfl rfl rfl rfl rfl rfl (by omega) (fun d' hd' => fe_60 (by omega) e5) rfl ?_
        refine fs_istore (k := 5) (p := 34) (M := 6) (al' := [some (.ref 62), some (.ref x1), some (.int x2), some (.int x3), some (.int x4), some (.int q6.1)]) (by decide +kernel) rfl mx_11 rfl rfl ?_
        refine fs_aload_n (k := 0) (p := 35) (by decide +kernel) rfl rfl ?_
        refine fs_gfr (idx := 18) (ci := 1) (j := 4) (p := 38) (by decide +kernel) rfl (by decide +kernel) fo_62 (fr_a62_4) ?_
        refine fs_aload_n (k := 0) (p := 39) (by decide +kernel) rfl rfl ?_
        refine fs_gfi (idx := 36) (ci := 1) (j := 2) (p := 42) (by decide +kernel) rfl (by decide +kernel) fo_62 ?_
        refine fs_iconst (n := 4) (p := 43) (by decide +kernel) rfl kc_4 ?_
        refine fs_imul (p := 44) (by decide +kernel) rfl ?_
        refine fs_iload (k := 5) (p := 46) (by decide +kernel) rfl rfl ?_
        refine fs_iadd (p := 47) (by decide +kernel) rfl ?_
        refine fs_dup2 (p := 48) (by decide +kernel) rfl rfl rfl ?_
        obtain ⟨v7, e8, h⟩ := fx_bd h
        refine fs_iaload (p := 49) (by decide +kernel) rfl e8 ?_
        refine fs_iconst (n := 1) (p := 50) (by decide +kernel) rfl kc_1 ?_
        refine fs_iadd (p := 51) (by decide +kernel) rfl ?_
        obtain ⟨t9, e10, h⟩ := fx_bd h
        refine fs_iastore (p := 52) (by decide +kernel) rfl e10 ?_
        refine fs_aload_n (k := 0) (p := 53) (by decide +kernel) rfl rfl ?_
        refine fs_gfr (idx := 21) (ci := 1) (j := 5) (p := 56) (by decide +kernel) rfl (by decide +kernel) fo_62 (fr_a62_5) ?_
        refine fs_iload (k := 5) (p := 58) (by decide +kernel) rfl rfl ?_
        refine fs_dup2 (p := 59) (by decide +kernel) rfl rfl rfl ?_
        obtain ⟨v11, e12, h⟩ := fx_bd h
        refine fs_iaload (p := 60) (by decide +kernel) rfl e12 ?_
        refine fs_iconst (n := 1) (p := 61) (by decide +kernel) rfl kc_1 ?_
        refine fs_iadd (p := 62) (by decide +kernel) rfl ?_
        obtain ⟨t13, e14, h⟩ := fx_bd h
        refine fs_iastore (p := 63) (by decide +kernel) rfl e14 ?_
        exact fe_11_63 hd ih _ _ _ _ _ _ _ g1 h
def fm_11 (x1 : Nat) (x2 : Int32) (σ : fx_S) : Option (fx_S) :=
  if fx_oc x1 6 = true then (
  (fm_58 x1 σ).bind fun q32 =>
  fm_11_8 100000 x1 x2 q32.1 (0 : Int32) q32.2) else none
theorem fe_11 {d : Nat} (hd : 1 ≤ d) {x1 : Nat} {x2 : Int32} {σ : fx_S} {q : fx_S} (h : fm_11 x1 x2 σ = some q) : fx_E none 11 d 0 [some (.ref 62), some (.ref x1), some (.int x2), none, none, none] [] σ none q := by
  unfold fm_11 at h
  obtain ⟨g1, h⟩ := fx_gd h
  refine fs_aload_n (k := 1) (p := 1) (by decide +kernel) rfl rfl ?_
  obtain ⟨q32, e31, h⟩ := fx_bd h
  refine fs_callV (idx := 64) (mj := 58) (ci := 6) (na := 0) (mx := 1) (p := 4) (args := [.ref x1]) (rest := []) (al2 := [some (.ref x1)]) (by decide +kernel) rfl (by decide +kernel) g1 rfl rfl rfl rfl rfl rfl rfl (by omega) (fun d' hd' => fe_58 (by omega) e31) rfl ?_
  refine fs_istore_n (k := 3) (p := 5) (M := 6) (al' := [some (.ref 62), some (.ref x1), some (.int x2), some (.int q32.1), none, none]) (by decide +kernel) rfl mx_11 rfl rfl ?_
  refine fs_iconst (n := 0) (p := 6) (by decide +kernel) rfl kc_0 ?_
  refine fs_istore (k := 4) (p := 8) (M := 6) (al' := [some (.ref 62), some (.ref x1), some (.int x2), some (.int q32.1), some (.int (0 : Int32)), none]) (by decide +kernel) rfl mx_11 rfl rfl ?_
  exact fe_11_8 hd 100000 _ _ _ _ _ _ _ g1 h

/-! ZoneShares$Fitter.load([II)J -/
theorem mx_12 : iv_mx 12 = 4 := by decide +kernel
theorem rt_12 : iv_rt 12 = some .long := by decide +kernel
def fm_12_15 : Nat → Nat → Int32 → Int32 → fx_S → Option (Int64 × fx_S)
  | 0, _, _, _, _ => none
  | n + 1, x1, x2, x3, σ =>
    if (4 : Int32) ≤ x3 then (
      some ((σ.2 62 8), σ)) else (
      (fx_ld σ x1 (x2 + x3)).bind fun v2 =>
      (fm_13 x3 v2 σ).bind fun q5 =>
      fm_12_15 n x1 x2 (x3 + (1 : Int32)) q5)
theorem fe_12_15 {d : Nat} (hd : 1 ≤ d) : ∀ (n : Nat) (x1 : Nat) (x2 : Int32) (x3 : Int32) (σ : fx_S) (q : Int64 × fx_S), fm_12_15 n x1 x2 x3 σ = some q → fx_E none 12 d 15 [some (.ref 62), some (.ref x1), some (.int x2), some (.int x3)] [] σ (some (.long q.1)) q.2 := by
  intro n
  induction n with
  | zero =>
    intro x1 x2 x3 σ q  h
    rw [fm_12_15] at h
    exact fx_no h
  | succ n ih =>
    intro x1 x2 x3 σ q  h
    rw [fm_12_15] at h
    refine fs_iload_n (k := 3) (p := 16) (by decide +kernel) rfl rfl ?_
    refine fs_iconst (n := 4) (p := 17) (by decide +kernel) rfl kc_4 ?_
    by_cases c1 : (4 : Int32) ≤ x3
    · rw [if_pos c1] at h
      refine fs_icmp_ge_t (off := 19) (t := 36) (by decide +kernel) (by decide +kernel) c1 ?_
      refine fs_aload_n (k := 0) (p := 37) (by decide +kernel) rfl rfl ?_
      refine fs_gfl (idx := 70) (ci := 1) (j := 8) (p := 40) (by decide +kernel) rfl (by decide +kernel) fo_62 ?_
      have h := Option.some.inj h
      subst h
      exact fs_lret (by decide +kernel) rt_12
    · rw [if_neg c1] at h
      refine fs_icmp_ge_f (off := 19) (t := 36) (p := 20) (by decide +kernel) (by decide +kernel) rfl c1 ?_
      refine fs_aload_n (k := 0) (p := 21) (by decide +kernel) rfl rfl ?_
      refine fs_iload_n (k := 3) (p := 22) (by decide +kernel) rfl rfl ?_
      refine fs_aload_n (k := 1) (p := 23) (by decide +kernel) rfl rfl ?_
      refine fs_iload_n (k := 2) (p := 24) (by decide +kernel) rfl rfl ?_
      refine fs_iload_n (k := 3) (p := 25) (by decide +kernel) rfl rfl ?_
      refine fs_iadd (p := 26) (by decide +kernel) rfl ?_
      obtain ⟨v2, e3, h⟩ := fx_bd h
      refine fs_iaload (p := 27) (by decide +kernel) rfl e3 ?_
      obtain ⟨q5, e4, h⟩ := fx_bd h
      refine fs_callV (idx := 73) (mj := 13) (ci := 1) (na := 2) (mx := 4) (p := 30) (args := [.ref 62, .int x3, .int v2]) (rest := []) (al2 := [some (.ref 62), some (.int x3), some (.int v2), none]) (by decide +kernel) rfl (by decide +kernel) fo_62 rfl rfl rfl rfl rfl rfl rfl (by omega) (fun d' hd' => fe_13 (by omega) e4) rfl ?_
      refine fs_iinc (k := 3) (n := 1) (p := 33) (M := 4) (al' := [some (.ref 62), some (.ref x1), some (.int x2), some (.int (x3 + (1 : Int32)))]) (by decide +kernel) rfl kc_1 mx_12 rfl rfl rfl ?_
      refine fs_goto (off := -18) (p := 15) (by decide +kernel) (by decide +kernel) ?_
      exact ih _ _ _ _ _ h
def fm_12 (x1 : Nat) (x2 : Int32) (σ : fx_S) : Option (Int64 × fx_S) :=
  (fm_235 68 (0 : Int32) σ).bind fun q9 =>
  fm_12_15 100000 x1 x2 (0 : Int32) (fx_w2 q9 62 8 (0 : Int64))
theorem fe_12 {d : Nat} (hd : 1 ≤ d) {x1 : Nat} {x2 : Int32} {σ : fx_S} {q : Int64 × fx_S} (h : fm_12 x1 x2 σ = some q) : fx_E none 12 d 0 [some (.ref 62), some (.ref x1), some (.int x2), none] [] σ (some (.long q.1)) q.2 := by
  unfold fm_12 at h
  refine fs_aload_n (k := 0) (p := 1) (by decide +kernel) rfl rfl ?_
  refine fs_gfr (idx := 27) (ci := 1) (j := 7) (p := 4) (by decide +kernel) rfl (by decide +kernel) fo_62 (fr_a62_7) ?_
  refine fs_iconst (n := 0) (p := 5) (by decide +kernel) rfl kc_0 ?_
  obtain ⟨q9, e8, h⟩ := fx_bd h
  refine fs_callS (idx := 30) (mj := 235) (na := 2) (mx := 4) (p := 8) (args := [.ref 68, .int (0 : Int32)]) (rest := []) (al2 := [some (.ref 68), some (.int (0 : Int32)), none, none]) (by decide +kernel) rfl (by decide +kernel) rfl rfl rfl rfl rfl rfl rfl (by omega) (fun d' hd' => fe_235 (by omega) e8) rfl ?_
  refine fs_aload_n (k := 0) (p := 9) (by decide +kernel) rfl rfl ?_
  refine fs_lconst (n := 0) (p := 10) (by decide +kernel) rfl kl_0 ?_
  refine fs_pfl (idx := 70) (ci := 1) (j := 8) (p := 13) (by decide +kernel) rfl (by decide +kernel) (by decide +kernel) fo_62 ?_
  refine fs_iconst (n := 0) (p := 14) (by decide +kernel) rfl kc_0 ?_
  refine fs_istore_n (k := 3) (p := 15) (M := 4) (al' := [some (.ref 62), some (.ref x1), some (.int x2), some (.int (0 : Int32))]) (by decide +kernel) rfl mx_12 rfl rfl ?_
  exact fe_12_15 hd 100000 _ _ _ _ _ h

/-! ZoneShares$Fitter.missed()J -/
theorem mx_14 : iv_mx 14 = 4 := by decide +kernel
theorem rt_14 : iv_rt 14 = some .long := by decide +kernel
def fm_14_4 : Nat → Int64 → Int32 → fx_S → Option (Int64 × fx_S)
  | 0, _, _, _ => none
  | n + 1, x1, x3, σ =>
    if (σ.1 62 2) ≤ x3 then (
      some (x1, σ)) else (
      (fx_ld σ 64 x3).bind fun v2 =>
      (fx_ld σ 68 x3).bind fun v4 =>
      (fm_232 (((v2).toInt64 * (σ.2 62 8)) - ((σ.2 62 1) * (v4).toInt64)) σ).bind fun q7 =>
      fm_14_4 n (x1 + q7.1) (x3 + (1 : Int32)) q7.2)
theorem fe_14_4 {d : Nat} (hd : 1 ≤ d) : ∀ (n : Nat) (x1 : Int64) (x3 : Int32) (σ : fx_S) (q : Int64 × fx_S), fm_14_4 n x1 x3 σ = some q → fx_E none 14 d 4 [some (.ref 62), some (.long x1), none, some (.int x3)] [] σ (some (.long q.1)) q.2 := by
  intro n
  induction n with
  | zero =>
    intro x1 x3 σ q  h
    rw [fm_14_4] at h
    exact fx_no h
  | succ n ih =>
    intro x1 x3 σ q  h
    rw [fm_14_4] at h
    refine fs_iload_n (k := 3) (p := 5) (by decide +kernel) rfl rfl ?_
    refine fs_aload_n (k := 0) (p := 6) (by decide +kernel) rfl rfl ?_
    refine fs_gfi (idx := 36) (ci := 1) (j := 2) (p := 9) (by decide +kernel) rfl (by decide +kernel) fo_62 ?_
    by_cases c1 : (σ.1 62 2) ≤ x3
    · rw [if_pos c1] at h
      refine fs_icmp_ge_t (off := 40) (t := 49) (by decide +kernel) (by decide +kernel) c1 ?_
      refine fs_lload_n (k := 1) (p := 50) (by decide +kernel) rfl rfl ?_
      have h := Option.some.inj h
      subst h
      exact fs_lret (by decide +kernel) rt_14
    · rw [if_neg c1] at h
      refine fs_icmp_ge_f (off := 40) (t := 49) (p := 12) (by decide +kernel) (by decide +kernel) rfl c1 ?_
      refine fs_lload_n (k := 1) (p := 13) (by decide +kernel) rfl rfl ?_
      refine fs_aload_n (k := 0) (p := 14) (by decide +kernel) rfl rfl ?_
      refine fs_gfr (idx := 15) (ci := 1) (j := 3) (p := 17) (by decide +kernel) rfl (by decide +kernel) fo_62 (fr_a62_3) ?_
      refine fs_iload_n (k := 3) (p := 18) (by decide +kernel) rfl rfl ?_
      obtain ⟨v2, e3, h⟩ := fx_bd h
      refine fs_iaload (p := 19) (by decide +kernel) rfl e3 ?_
      refine fs_i2l (p := 20) (by decide +kernel) rfl ?_
      refine fs_aload_n (k := 0) (p := 21) (by decide +kernel) rfl rfl ?_
      refine fs_gfl (idx := 70) (ci := 1) (j := 8) (p := 24) (by decide +kernel) rfl (by decide +kernel) fo_62 ?_
      refine fs_lmul (p := 25) (by decide +kernel) rfl ?_
      refine fs_aload_n (k := 0) (p := 26) (by decide +kernel) rfl rfl ?_
      refine fs_gfl (idx := 40) (ci := 1) (j := 1) (p := 29) (by decide +kernel) rfl (by decide +kernel) fo_62 ?_
      refine fs_aload_n (k := 0) (p := 30) (by decide +kernel) rfl rfl ?_
      refine fs_gfr (idx := 27) (ci := 1) (j := 7) (p := 33) (by decide +kernel) rfl (by decide +kernel) fo_62 (fr_a62_7) ?_
      refine fs_iload_n (k := 3) (p := 34) (by decide +kernel) rfl rfl ?_
      obtain ⟨v4, e5, h⟩ := fx_bd h
      refine fs_iaload (p := 35) (by decide +kernel) rfl e5 ?_
      refine fs_i2l (p := 36) (by decide +kernel) rfl ?_
      refine fs_lmul (p := 37) (by decide +kernel) rfl ?_
      refine fs_lsub (p := 38) (by decide +kernel) rfl ?_
      obtain ⟨q7, e6, h⟩ := fx_bd h
      refine fs_callS (idx := 77) (mj := 232) (na := 1) (mx := 2) (p := 41) (args := [.long (((v2).toInt64 * (σ.2 62 8)) - ((σ.2 62 1) * (v4).toInt64))]) (rest := [.long x1]) (al2 := [some (.long (((v2).toInt64 * (σ.2 62 8)) - ((σ.2 62 1) * (v4).toInt64))), none]) (by decide +kernel) rfl (by decide +kernel) rfl rfl rfl rfl rfl rfl rfl (by omega) (fun d' hd' => fe_232 (by omega) e6) rfl ?_
      refine fs_ladd (p := 42) (by decide +kernel) rfl ?_
      refine fs_lstore_n (k := 1) (p := 43) (M := 4) (al' := [some (.ref 62), some (.long (x1 + q7.1)), none, some (.int x3)]) (by decide +kernel) rfl mx_14 rfl rfl ?_
      refine fs_iinc (k := 3) (n := 1) (p := 46) (M := 4) (al' := [some (.ref 62), some (.long (x1 + q7.1)), none, some (.int (x3 + (1 : Int32)))]) (by decide +kernel) rfl kc_1 mx_14 rfl rfl rfl ?_
      refine fs_goto (off := -42) (p := 4) (by decide +kernel) (by decide +kernel) ?_
      exact ih _ _ _ _ h
def fm_14 (σ : fx_S) : Option (Int64 × fx_S) :=
  fm_14_4 100000 (0 : Int64) (0 : Int32) σ
theorem fe_14 {d : Nat} (hd : 1 ≤ d) {σ : fx_S} {q : Int64 × fx_S} (h : fm_14 σ = some q) : fx_E none 14 d 0 [some (.ref 62), none, none, none] [] σ (some (.long q.1)) q.2 := by
  unfold fm_14 at h
  refine fs_lconst (n := 0) (p := 1) (by decide +kernel) rfl kl_0 ?_
  refine fs_lstore_n (k := 1) (p := 2) (M := 4) (al' := [some (.ref 62), some (.long (0 : Int64)), none, none]) (by decide +kernel) rfl mx_14 rfl rfl ?_
  refine fs_iconst (n := 0) (p := 3) (by decide +kernel) rfl kc_0 ?_
  refine fs_istore_n (k := 3) (p := 4) (M := 4) (al' := [some (.ref 62), some (.long (0 : Int64)), none, some (.int (0 : Int32))]) (by decide +kernel) rfl mx_14 rfl rfl ?_
  exact fe_14_4 hd 100000 _ _ _ _ h

/-! ZoneShares$Fitter.tryRow()V -/
theorem mx_16 : iv_mx 16 = 3 := by decide +kernel
theorem rt_16 : iv_rt 16 = none := by decide +kernel
def fm_16_33 (x1 : Int64) (σ : fx_S) : Option (fx_S) :=
  (fx_cpy (fx_w2 (fx_w2 σ 62 9 x1) 62 10 ((fx_w2 σ 62 9 x1).2 62 8)) 67 (0 : Int32) 63 (0 : Int32) (4 : Int32)).bind fun t1 =>
  some t1
theorem fe_16_33 {d : Nat} (hd : 2 ≤ d) (x1 : Int64) (σ : fx_S) (q : fx_S) (h : fm_16_33  x1 σ = some q) : fx_E none 16 d 33 [some (.ref 62), some (.long x1), none] [] σ none q := by
  unfold fm_16_33 at h
  refine fs_aload_n (k := 0) (p := 34) (by decide +kernel) rfl rfl ?_
  refine fs_lload_n (k := 1) (p := 35) (by decide +kernel) rfl rfl ?_
  refine fs_pfl (idx := 90) (ci := 1) (j := 9) (p := 38) (by decide +kernel) rfl (by decide +kernel) (by decide +kernel) fo_62 ?_
  refine fs_aload_n (k := 0) (p := 39) (by decide +kernel) rfl rfl ?_
  refine fs_aload_n (k := 0) (p := 40) (by decide +kernel) rfl rfl ?_
  refine fs_gfl (idx := 70) (ci := 1) (j := 8) (p := 43) (by decide +kernel) rfl (by decide +kernel) fo_62 ?_
  refine fs_pfl (idx := 87) (ci := 1) (j := 10) (p := 46) (by decide +kernel) rfl (by decide +kernel) (by decide +kernel) fo_62 ?_
  refine fs_aload_n (k := 0) (p := 47) (by decide +kernel) rfl rfl ?_
  refine fs_gfr (idx := 24) (ci := 1) (j := 6) (p := 50) (by decide +kernel) rfl (by decide +kernel) fo_62 (fr_a62_6) ?_
  refine fs_iconst (n := 0) (p := 51) (by decide +kernel) rfl kc_0 ?_
  refine fs_aload_n (k := 0) (p := 52) (by decide +kernel) rfl rfl ?_
  refine fs_gfr (idx := 9) (ci := 1) (j := 0) (p := 55) (by decide +kernel) rfl (by decide +kernel) fo_62 (fr_a62_0) ?_
  refine fs_iconst (n := 0) (p := 56) (by decide +kernel) rfl kc_0 ?_
  refine fs_iconst (n := 4) (p := 57) (by decide +kernel) rfl kc_4 ?_
  obtain ⟨t1, e2, h⟩ := fx_bd h
  refine fs_cpy (idx := 58) (p := 60) (by decide +kernel) rfl (by decide +kernel) rfl e2 ?_
  have h := Option.some.inj h
  subst h
  exact fs_ret (by decide +kernel) rt_16
def fm_16 (σ : fx_S) : Option (fx_S) :=
  (fm_14 σ).bind fun q8 =>
  if (q8.2.2 62 10) = (0 : Int64) then (
    fm_16_33 q8.1 q8.2) else (
    if ((q8.2.2 62 9) * (q8.2.2 62 8)) ≤ (q8.1 * (q8.2.2 62 10)) then (
      some q8.2) else (
      fm_16_33 q8.1 q8.2))
theorem fe_16 {d : Nat} (hd : 2 ≤ d) {σ : fx_S} {q : fx_S} (h : fm_16 σ = some q) : fx_E none 16 d 0 [some (.ref 62), none, none] [] σ none q := by
  unfold fm_16 at h
  refine fs_aload_n (k := 0) (p := 1) (by decide +kernel) rfl rfl ?_
  obtain ⟨q8, e7, h⟩ := fx_bd h
  refine fs_callV (idx := 99) (mj := 14) (ci := 1) (na := 0) (mx := 4) (p := 4) (args := [.ref 62]) (rest := []) (al2 := [some (.ref 62), none, none, none]) (by decide +kernel) rfl (by decide +kernel) fo_62 rfl rfl rfl rfl rfl rfl rfl (by omega) (fun d' hd' => fe_14 (by omega) e7) rfl ?_
  refine fs_lstore_n (k := 1) (p := 5) (M := 3) (al' := [some (.ref 62), some (.long q8.1), none]) (by decide +kernel) rfl mx_16 rfl rfl ?_
  refine fs_aload_n (k := 0) (p := 6) (by decide +kernel) rfl rfl ?_
  refine fs_gfl (idx := 87) (ci := 1) (j := 10) (p := 9) (by decide +kernel) rfl (by decide +kernel) fo_62 ?_
  refine fs_lconst (n := 0) (p := 10) (by decide +kernel) rfl kl_0 ?_
  by_cases c9 : (q8.2.2 62 10) = (0 : Int64)
  · rw [if_pos c9] at h
    refine fs_lcmp_eq_t (off := 22) (t := 33) (by decide +kernel) (by decide +kernel) (by decide +kernel) c9 ?_
    exact fe_16_33 hd _ _ _ h
  · rw [if_neg c9] at h
    refine fs_lcmp_eq_f (off := 22) (t := 33) (p := 14) (by decide +kernel) (by decide +kernel) (by decide +kernel) rfl c9 ?_
    refine fs_lload_n (k := 1) (p := 15) (by decide +kernel) rfl rfl ?_
    refine fs_aload_n (k := 0) (p := 16) (by decide +kernel) rfl rfl ?_
    refine fs_gfl (idx := 87) (ci := 1) (j := 10) (p := 19) (by decide +kernel) rfl (by decide +kernel) fo_62 ?_
    refine fs_lmul (p := 20) (by decide +kernel) rfl ?_
    refine fs_aload_n (k := 0) (p := 21) (by decide +kernel) rfl rfl ?_
    refine fs_gfl (idx := 90) (ci := 1) (j := 9) (p := 24) (by decide +kernel) rfl (by decide +kernel) fo_62 ?_
    refine fs_aload_n (k := 0) (p := 25) (by decide +kernel) rfl rfl ?_
    refine fs_gfl (idx := 70) (ci := 1) (j := 8) (p := 28) (by decide +kernel) rfl (by decide +kernel) fo_62 ?_
    refine fs_lmul (p := 29) (by decide +kernel) rfl ?_
    by_cases c10 : ((q8.2.2 62 9) * (q8.2.2 62 8)) ≤ (q8.1 * (q8.2.2 62 10))
    · rw [if_pos c10] at h
      refine fs_lcmp_ge_t (off := 30) (t := 60) (by decide +kernel) (by decide +kernel) (by decide +kernel) c10 ?_
      have h := Option.some.inj h
      subst h
      exact fs_ret (by decide +kernel) rt_16
    · rw [if_neg c10] at h
      refine fs_lcmp_ge_f (off := 30) (t := 60) (p := 33) (by decide +kernel) (by decide +kernel) (by decide +kernel) rfl c10 ?_
      exact fe_16_33 hd _ _ _ h

/-! ZoneShares$Group.topOf(I)I -/
theorem mx_27 : iv_mx 27 = 4 := by decide +kernel
theorem rt_27 : iv_rt 27 = some .int := by decide +kernel
def fm_27_47 (x0 : Nat) (x2 : Int32) (s0 : Int32) (σ : fx_S) : Option (Int32 × fx_S) :=
  (fx_ld σ (x0 + 1) x2).bind fun v1 =>
  some ((v1 * s0), σ)
theorem fe_27_47 {d : Nat} (hd : 2 ≤ d) (x0 : Nat) (x2 : Int32) (s0 : Int32) (o1 : Option Value) (σ : fx_S) (q : Int32 × fx_S) (g0 : fx_oc x0 2 = true) (h : fm_27_47  x0 x2 s0 σ = some q) : fx_E none 27 d 47 [some (.ref x0), o1, some (.int x2), none] [.int s0] σ (some (.int q.1)) q.2 := by
  unfold fm_27_47 at h
  refine fs_istore_n (k := 3) (p := 48) (M := 4) (al' := [some (.ref x0), o1, some (.int x2), some (.int s0)]) (by decide +kernel) rfl mx_27 rfl rfl ?_
  refine fs_aload_n (k := 0) (p := 49) (by decide +kernel) rfl rfl ?_
  refine fs_gfr (idx := 9) (ci := 2) (j := 0) (p := 52) (by decide +kernel) rfl (by decide +kernel) g0 (fr_2_0 g0) ?_
  refine fs_iload_n (k := 2) (p := 53) (by decide +kernel) rfl rfl ?_
  obtain ⟨v1, e2, h⟩ := fx_bd h
  refine fs_iaload (p := 54) (by decide +kernel) rfl e2 ?_
  refine fs_iload_n (k := 3) (p := 55) (by decide +kernel) rfl rfl ?_
  refine fs_imul (p := 56) (by decide +kernel) rfl ?_
  have h := Option.some.inj h
  subst h
  exact fs_iret (by decide +kernel) rt_27
def fm_27 (x0 : Nat) (x1 : Int32) (σ : fx_S) : Option (Int32 × fx_S) :=
  if fx_oc x0 2 = true then (
  (fm_60 1 (0 : Int32) x1 σ).bind fun q12 =>
  if q12.1 < (8 : Int32) then (
    (fx_ld q12.2 ((x0 + 3) + 3) q12.1).bind fun v14 =>
    if ¬ v14 = (1 : Int32) then (
      (fm_61 1 (q12.2.1 x0 9) x1 q12.2).bind fun q18 =>
      fm_27_47 x0 q12.1 q18.1 q18.2) else (
      fm_27_47 x0 q12.1 (1 : Int32) q12.2)) else (
    some ((0 : Int32), q12.2))) else none
theorem fe_27 {d : Nat} (hd : 2 ≤ d) {x0 : Nat} {x1 : Int32} {σ : fx_S} {q : Int32 × fx_S} (h : fm_27 x0 x1 σ = some q) : fx_E none 27 d 0 [some (.ref x0), some (.int x1), none, none] [] σ (some (.int q.1)) q.2 := by
  unfold fm_27 at h
  obtain ⟨g0, h⟩ := fx_gd h
  refine fs_aload_n (k := 0) (p := 1) (by decide +kernel) rfl rfl ?_
  refine fs_gfr (idx := 41) (ci := 2) (j := 10) (p := 4) (by decide +kernel) rfl (by decide +kernel) g0 (fr_2_10 g0) ?_
  refine fs_iconst (n := 0) (p := 5) (by decide +kernel) rfl kc_0 ?_
  refine fs_iload_n (k := 1) (p := 6) (by decide +kernel) rfl rfl ?_
  obtain ⟨q12, e11, h⟩ := fx_bd h
  refine fs_callV (idx := 136) (mj := 60) (ci := 6) (na := 2) (mx := 3) (p := 9) (args := [.ref 1, .int (0 : Int32), .int x1]) (rest := []) (al2 := [some (.ref 1), some (.int (0 : Int32)), some (.int x1)]) (by decide +kernel) rfl (by decide +kernel) fo_1 rfl rfl rfl rfl rfl rfl rfl (by omega) (fun d' hd' => fe_60 (by omega) e11) rfl ?_
  refine fs_istore_n (k := 2) (p := 10) (M := 4) (al' := [some (.ref x0), some (.int x1), some (.int q12.1), none]) (by decide +kernel) rfl mx_27 rfl rfl ?_
  refine fs_iload_n (k := 2) (p := 11) (by decide +kernel) rfl rfl ?_
  refine fs_bipush (n := 8) (p := 13) (by decide +kernel) rfl kb_8 ?_
  by_cases c13 : q12.1 < (8 : Int32)
  · rw [if_pos c13] at h
    refine fs_icmp_lt_t (off := 5) (t := 18) (by decide +kernel) (by decide +kernel) c13 ?_
    refine fs_aload_n (k := 0) (p := 19) (by decide +kernel) rfl rfl ?_
    refine fs_gfr (idx := 21) (ci := 2) (j := 2) (p := 22) (by decide +kernel) rfl (by decide +kernel) g0 (fr_2_2 g0) ?_
    refine fs_gfr (idx := 148) (ci := 7) (j := 2) (p := 25) (by decide +kernel) rfl (by decide +kernel) (fg_2_2 g0) (fr_7_2 (fg_2_2 g0)) ?_
    refine fs_iload_n (k := 2) (p := 26) (by decide +kernel) rfl rfl ?_
    obtain ⟨v14, e15, h⟩ := fx_bd h
    refine fs_iaload (p := 27) (by decide +kernel) rfl e15 ?_
    refine fs_iconst (n := 1) (p := 28) (by decide +kernel) rfl kc_1 ?_
    by_cases c16 : ¬ v14 = (1 : Int32)
    · rw [if_pos c16] at h
      refine fs_icmp_ne_t (off := 7) (t := 35) (by decide +kernel) (by decide +kernel) c16 ?_
      refine fs_aload_n (k := 0) (p := 36) (by decide +kernel) rfl rfl ?_
      refine fs_gfr (idx := 41) (ci := 2) (j := 10) (p := 39) (by decide +kernel) rfl (by decide +kernel) g0 (fr_2_10 g0) ?_
      refine fs_aload_n (k := 0) (p := 40) (by decide +kernel) rfl rfl ?_
      refine fs_gfi (idx := 37) (ci := 2) (j := 9) (p := 43) (by decide +kernel) rfl (by decide +kernel) g0 ?_
      refine fs_iload_n (k := 1) (p := 44) (by decide +kernel) rfl rfl ?_
      obtain ⟨q18, e17, h⟩ := fx_bd h
      refine fs_callV (idx := 139) (mj := 61) (ci := 6) (na := 2) (mx := 3) (p := 47) (args := [.ref 1, .int (q12.2.1 x0 9), .int x1]) (rest := []) (al2 := [some (.ref 1), some (.int (q12.2.1 x0 9)), some (.int x1)]) (by decide +kernel) rfl (by decide +kernel) fo_1 rfl rfl rfl rfl rfl rfl rfl (by omega) (fun d' hd' => fe_61 (by omega) e17) rfl ?_
      exact fe_27_47 hd _ _ _ _ _ _ g0 h
    · rw [if_neg c16] at h
      refine fs_icmp_ne_f (off := 7) (t := 35) (p := 31) (by decide +kernel) (by decide +kernel) rfl c16 ?_
      refine fs_iconst (n := 1) (p := 32) (by decide +kernel) rfl kc_1 ?_
      refine fs_goto (off := 15) (p := 47) (by decide +kernel) (by decide +kernel) ?_
      exact fe_27_47 hd _ _ _ _ _ _ g0 h
  · rw [if_neg c13] at h
    refine fs_icmp_lt_f (off := 5) (t := 18) (p := 16) (by decide +kernel) (by decide +kernel) rfl c13 ?_
    refine fs_iconst (n := 0) (p := 17) (by decide +kernel) rfl kc_0 ?_
    have h := Option.some.inj h
    subst h
    exact fs_iret (by decide +kernel) rt_27

/-! ZoneShares$Group.underOf(I)I -/
theorem mx_28 : iv_mx 28 = 3 := by decide +kernel
theorem rt_28 : iv_rt 28 = some .int := by decide +kernel
def fm_28 (x0 : Nat) (x1 : Int32) (σ : fx_S) : Option (Int32 × fx_S) :=
  if fx_oc x0 2 = true then (
  (fm_60 1 (0 : Int32) x1 σ).bind fun q7 =>
  if (8 : Int32) ≤ q7.1 then (
    some ((1 : Int32), q7.2)) else (
    (fx_ld q7.2 ((x0 + 3) + 2) q7.1).bind fun v9 =>
    some (v9, q7.2))) else none
theorem fe_28 {d : Nat} (hd : 1 ≤ d) {x0 : Nat} {x1 : Int32} {σ : fx_S} {q : Int32 × fx_S} (h : fm_28 x0 x1 σ = some q) : fx_E none 28 d 0 [some (.ref x0), some (.int x1), none] [] σ (some (.int q.1)) q.2 := by
  unfold fm_28 at h
  obtain ⟨g0, h⟩ := fx_gd h
  refine fs_aload_n (k := 0) (p := 1) (by decide +kernel) rfl rfl ?_
  refine fs_gfr (idx := 41) (ci := 2) (j := 10) (p := 4) (by decide +kernel) rfl (by decide +kernel) g0 (fr_2_10 g0) ?_
  refine fs_iconst (n := 0) (p := 5) (by decide +kernel) rfl kc_0 ?_
  refine fs_iload_n (k := 1) (p := 6) (by decide +kernel) rfl rfl ?_
  obtain ⟨q7, e6, h⟩ := fx_bd h
  refine fs_callV (idx := 136) (mj := 60) (ci := 6) (na := 2) (mx := 3) (p := 9) (args := [.ref 1, .int (0 : Int32), .int x1]) (rest := []) (al2 := [some (.ref 1), some (.int (0 : Int32)), some (.int x1)]) (by decide +kernel) rfl (by decide +kernel) fo_1 rfl rfl rfl rfl rfl rfl rfl (by omega) (fun d' hd' => fe_60 (by omega) e6) rfl ?_
  refine fs_istore_n (k := 2) (p := 10) (M := 3) (al' := [some (.ref x0), some (.int x1), some (.int q7.1)]) (by decide +kernel) rfl mx_28 rfl rfl ?_
  refine fs_iload_n (k := 2) (p := 11) (by decide +kernel) rfl rfl ?_
  refine fs_bipush (n := 8) (p := 13) (by decide +kernel) rfl kb_8 ?_
  by_cases c8 : (8 : Int32) ≤ q7.1
  · rw [if_pos c8] at h
    refine fs_icmp_ge_t (off := 15) (t := 28) (by decide +kernel) (by decide +kernel) c8 ?_
    refine fs_iconst (n := 1) (p := 29) (by decide +kernel) rfl kc_1 ?_
    have h := Option.some.inj h
    subst h
    exact fs_iret (by decide +kernel) rt_28
  · rw [if_neg c8] at h
    refine fs_icmp_ge_f (off := 15) (t := 28) (p := 16) (by decide +kernel) (by decide +kernel) rfl c8 ?_
    refine fs_aload_n (k := 0) (p := 17) (by decide +kernel) rfl rfl ?_
    refine fs_gfr (idx := 21) (ci := 2) (j := 2) (p := 20) (by decide +kernel) rfl (by decide +kernel) g0 (fr_2_2 g0) ?_
    refine fs_gfr (idx := 151) (ci := 7) (j := 1) (p := 23) (by decide +kernel) rfl (by decide +kernel) (fg_2_2 g0) (fr_7_1 (fg_2_2 g0)) ?_
    refine fs_iload_n (k := 2) (p := 24) (by decide +kernel) rfl rfl ?_
    obtain ⟨v9, e10, h⟩ := fx_bd h
    refine fs_iaload (p := 25) (by decide +kernel) rfl e10 ?_
    refine fs_goto (off := 4) (p := 29) (by decide +kernel) (by decide +kernel) ?_
    have h := Option.some.inj h
    subst h
    exact fs_iret (by decide +kernel) rt_28

/-! ZoneShares$Group.sortCells()V -/
theorem mx_29 : iv_mx 29 = 8 := by decide +kernel
theorem rt_29 : iv_rt 29 = none := by decide +kernel
def fm_29_97 (k_10 : Nat → Int32 → Int32 → fx_S → Option (fx_S)) (x0 : Nat) (x1 : Int32) (x2 : Int32) (x7 : Int32) (σ : fx_S) : Option (fx_S) :=
  (fx_st σ (x0 + 2) x7 x2).bind fun t1 =>
  k_10 x0 x1 (x2 + (1 : Int32)) t1
theorem fe_29_97 {d : Nat} (hd : 3 ≤ d) {k_10 : Nat → Int32 → Int32 → fx_S → Option (fx_S)} (hk_10 : ∀ (x0 : Nat) (x1 : Int32) (x2 : Int32) (o3 : Option Value) (o5 : Option Value) (o7 : Option Value) (σ : fx_S) (q : fx_S) (g0 : fx_oc x0 2 = true), k_10 x0 x1 x2 σ = some q → fx_E none 29 d 10 [some (.ref x0), some (.int x1), some (.int x2), o3, none, o5, none, o7] [] σ none q) (x0 : Nat) (x1 : Int32) (x2 : Int32) (x7 : Int32) (o3 : Option Value) (o5 : Option Value) (σ : fx_S) (q : fx_S) (g0 : fx_oc x0 2 = true) (h : fm_29_97 k_10  x0 x1 x2 x7 σ = some q) : fx_E none 29 d 97 [some (.ref x0), some (.int x1), some (.int x2), o3, none, o5, none, some (.int x7)] [] σ none q := by
  unfold fm_29_97 at h
  refine fs_aload_n (k := 0) (p := 98) (by decide +kernel) rfl rfl ?_
  refine fs_gfr (idx := 15) (ci := 2) (j := 1) (p := 101) (by decide +kernel) rfl (by decide +kernel) g0 (fr_2_1 g0) ?_
  refine fs_iload (k := 7) (p := 103) (by decide +kernel) rfl rfl ?_
  refine fs_iload_n (k := 2) (p := 104) (by decide +kernel) rfl rfl ?_
  obtain ⟨t1, e2, h⟩ := fx_bd h
  refine fs_iastore (p := 105) (by decide +kernel) rfl e2 ?_
  refine fs_iinc (k := 2) (n := 1) (p := 108) (M := 8) (al' := [some (.ref x0), some (.int x1), some (.int (x2 + (1 : Int32))), o3, none, o5, none, some (.int x7)]) (by decide +kernel) rfl kc_1 mx_29 rfl rfl rfl ?_
  refine fs_goto (off := -98) (p := 10) (by decide +kernel) (by decide +kernel) ?_
  exact hk_10 _ _ _ _ _ _ _ _ g0 h
def fm_29_33 (k_10 : Nat → Int32 → Int32 → fx_S → Option (fx_S)) : Nat → Nat → Int32 → Int32 → Int64 → Int64 → Int32 → fx_S → Option (fx_S)
  | 0, _, _, _, _, _, _, _ => none
  | n + 1, x0, x1, x2, x3, x5, x7, σ =>
    if x7 ≤ 0 then (
      fm_29_97 k_10 x0 x1 x2 x7 σ) else (
      (fx_ld σ (x0 + 2) (x7 - (1 : Int32))).bind fun v2 =>
      (fm_28 x0 v2 σ).bind fun q5 =>
      (fx_ld q5.2 (x0 + 2) (x7 - (1 : Int32))).bind fun v6 =>
      (fm_27 x0 v6 q5.2).bind fun q9 =>
      if (x3 * (q5.1).toInt64) ≤ ((q9.1).toInt64 * x5) then (
        fm_29_97 k_10 x0 x1 x2 x7 q9.2) else (
        (fx_ld q9.2 (x0 + 2) (x7 - (1 : Int32))).bind fun v11 =>
        (fx_st q9.2 (x0 + 2) x7 v11).bind fun t13 =>
        fm_29_33 k_10 n x0 x1 x2 x3 x5 (x7 + (-1 : Int32)) t13))
theorem fe_29_33 {d : Nat} (hd : 3 ≤ d) {k_10 : Nat → Int32 → Int32 → fx_S → Option (fx_S)} (hk_10 : ∀ (x0 : Nat) (x1 : Int32) (x2 : Int32) (o3 : Option Value) (o5 : Option Value) (o7 : Option Value) (σ : fx_S) (q : fx_S) (g0 : fx_oc x0 2 = true), k_10 x0 x1 x2 σ = some q → fx_E none 29 d 10 [some (.ref x0), some (.int x1), some (.int x2), o3, none, o5, none, o7] [] σ none q) : ∀ (n : Nat) (x0 : Nat) (x1 : Int32) (x2 : Int32) (x3 : Int64) (x5 : Int64) (x7 : Int32) (σ : fx_S) (q : fx_S) (g0 : fx_oc x0 2 = true), fm_29_33 k_10 n x0 x1 x2 x3 x5 x7 σ = some q → fx_E none 29 d 33 [some (.ref x0), some (.int x1), some (.int x2), some (.long x3), none, some (.long x5), none, some (.int x7)] [] σ none q := by
  intro n
  induction n with
  | zero =>
    intro x0 x1 x2 x3 x5 x7 σ q g0 h
    rw [fm_29_33] at h
    exact fx_no h
  | succ n ih =>
    intro x0 x1 x2 x3 x5 x7 σ q g0 h
    rw [fm_29_33] at h
    refine fs_iload (k := 7) (p := 35) (by decide +kernel) rfl rfl ?_
    by_cases c1 : x7 ≤ 0
    · rw [if_pos c1] at h
      refine fs_if_le_t (off := 62) (t := 97) (by decide +kernel) (by decide +kernel) c1 ?_
      exact fe_29_97 hd hk_10 _ _ _ _ _ _ _ _ g0 h
    · rw [if_neg c1] at h
      refine fs_if_le_f (off := 62) (t := 97) (p := 38) (by decide +kernel) (by decide +kernel) rfl c1 ?_
      refine fs_lload_n (k := 3) (p := 39) (by decide +kernel) rfl rfl ?_
      refine fs_aload_n (k := 0) (p := 40) (by decide +kernel) rfl rfl ?_
      refine fs_aload_n (k := 0) (p := 41) (by decide +kernel) rfl rfl ?_
      refine fs_gfr (idx := 15) (ci := 2) (j := 1) (p := 44) (by decide +kernel) rfl (by decide +kernel) g0 (fr_2_1 g0) ?_
      refine fs_iload (k := 7) (p := 46) (by decide +kernel) rfl rfl ?_
      refine fs_iconst (n := 1) (p := 47) (by decide +kernel) rfl kc_1 ?_
      refine fs_isub (p := 48) (by decide +kernel) rfl ?_
      obtain ⟨v2, e3, h⟩ := fx_bd h
      refine fs_iaload (p := 49) (by decide +kernel) rfl e3 ?_
      obtain ⟨q5, e4, h⟩ := fx_bd h
      refine fs_callV (idx := 157) (mj := 28) (ci := 2) (na := 1) (mx := 3) (p := 52) (args := [.ref x0, .int v2]) (rest := [.long x3]) (al2 := [some (.ref x0), some (.int v2), none]) (by decide +kernel) rfl (by decide +kernel) g0 rfl rfl rfl rfl rfl rfl rfl (by omega) (fun d' hd' => fe_28 (by omega) e4) rfl ?_
      refine fs_i2l (p := 53) (by decide +kernel) rfl ?_
      refine fs_lmul (p := 54) (by decide +kernel) rfl ?_
      refine fs_aload_n (k := 0) (p := 55) (by decide +kernel) rfl rfl ?_
      refine fs_aload_n (k := 0) (p := 56) (by decide +kernel) rfl rfl ?_
      refine fs_gfr (idx := 15) (ci := 2) (j := 1) (p := 59) (by decide +kernel) rfl (by decide +kernel) g0 (fr_2_1 g0) ?_
      refine fs_iload (k := 7) (p := 61) (by decide +kernel) rfl rfl ?_
      refine fs_iconst (n := 1) (p := 62) (by decide +kernel) rfl kc_1 ?_
      refine fs_isub (p := 63) (by decide +kernel) rfl ?_
      obtain ⟨v6, e7, h⟩ := fx_bd h
      refine fs_iaload (p := 64) (by decide +kernel) rfl e7 ?_
      obtain ⟨q9, e8, h⟩ := fx_bd h
      refine fs_callV (idx := 154) (mj := 27) (ci := 2) (na := 1) (mx := 4) (p := 67) (args := [.ref x0, .int v6]) (rest := [.long (x3 * (q5.1).toInt64)]) (al2 := [some (.ref x0), some (.int v6), none, none]) (by decide +kernel) rfl (by decide +kernel) g0 rfl rfl rfl rfl rfl rfl rfl (by omega) (fun d' hd' => fe_27 (by omega) e8) rfl ?_
      refine fs_i2l (p := 68) (by decide +kernel) rfl ?_
      refine fs_lload (k := 5) (p := 70) (by decide +kernel) rfl rfl ?_
      refine fs_lmul (p := 71) (by decide +kernel) rfl ?_
      by_cases c10 : (x3 * (q5.1).toInt64) ≤ ((q9.1).toInt64 * x5)
      · rw [if_pos c10] at h
        refine fs_lcmp_le_t (off := 25) (t := 97) (by decide +kernel) (by decide +kernel) (by decide +kernel) c10 ?_
        exact fe_29_97 hd hk_10 _ _ _ _ _ _ _ _ g0 h
      · rw [if_neg c10] at h
        refine fs_lcmp_le_f (off := 25) (t := 97) (p := 75) (by decide +kernel) (by decide +kernel) (by decide +kernel) rfl c10 ?_
        refine fs_aload_n (k := 0) (p := 76) (by decide +kernel) rfl rfl ?_
        refine fs_gfr (idx := 15) (ci := 2) (j := 1) (p := 79) (by decide +kernel) rfl (by decide +kernel) g0 (fr_2_1 g0) ?_
        refine fs_iload (k := 7) (p := 81) (by decide +kernel) rfl rfl ?_
        refine fs_aload_n (k := 0) (p := 82) (by decide +kernel) rfl rfl ?_
        refine fs_gfr (idx := 15) (ci := 2) (j := 1) (p := 85) (by decide +kernel) rfl (by decide +kernel) g0 (fr_2_1 g0) ?_
        refine fs_iload (k := 7) (p := 87) (by decide +kernel) rfl rfl ?_
        refine fs_iconst (n := 1) (p := 88) (by decide +kernel) rfl kc_1 ?_
        refine fs_isub (p := 89) (by decide +kernel) rfl ?_
        obtain ⟨v11, e12, h⟩ := fx_bd h
        refine fs_iaload (p := 90) (by decide +kernel) rfl e12 ?_
        obtain ⟨t13, e14, h⟩ := fx_bd h
        refine fs_iastore (p := 91) (by decide +kernel) rfl e14 ?_
        refine fs_iinc (k := 7) (n := -1) (p := 94) (M := 8) (al' := [some (.ref x0), some (.int x1), some (.int x2), some (.long x3), none, some (.long x5), none, some (.int (x7 + (-1 : Int32)))]) (by decide +kernel) rfl kc_m1 mx_29 rfl rfl rfl ?_
        refine fs_goto (off := -61) (p := 33) (by decide +kernel) (by decide +kernel) ?_
        exact ih _ _ _ _ _ _ _ _ g0 h
def fm_29_10 : Nat → Nat → Int32 → Int32 → fx_S → Option (fx_S)
  | 0, _, _, _, _ => none
  | n + 1, x0, x1, x2, σ =>
    if x1 ≤ x2 then (
      some σ) else (
      (fm_27 x0 x2 σ).bind fun q3 =>
      (fm_28 x0 x2 q3.2).bind fun q5 =>
      fm_29_33 (fm_29_10 n) 100000 x0 x1 x2 ((q3.1).toInt64) ((q5.1).toInt64) x2 q5.2)
theorem fe_29_10 {d : Nat} (hd : 3 ≤ d) : ∀ (n : Nat) (x0 : Nat) (x1 : Int32) (x2 : Int32) (o3 : Option Value) (o5 : Option Value) (o7 : Option Value) (σ : fx_S) (q : fx_S) (g0 : fx_oc x0 2 = true), fm_29_10 n x0 x1 x2 σ = some q → fx_E none 29 d 10 [some (.ref x0), some (.int x1), some (.int x2), o3, none, o5, none, o7] [] σ none q := by
  intro n
  induction n with
  | zero =>
    intro x0 x1 x2 o3 o5 o7 σ q g0 h
    rw [fm_29_10] at h
    exact fx_no h
  | succ n ih =>
    intro x0 x1 x2 o3 o5 o7 σ q g0 h
    rw [fm_29_10] at h
    refine fs_iload_n (k := 2) (p := 11) (by decide +kernel) rfl rfl ?_
    refine fs_iload_n (k := 1) (p := 12) (by decide +kernel) rfl rfl ?_
    by_cases c1 : x1 ≤ x2
    · rw [if_pos c1] at h
      refine fs_icmp_ge_t (off := 99) (t := 111) (by decide +kernel) (by decide +kernel) c1 ?_
      have h := Option.some.inj h
      subst h
      exact fs_ret (by decide +kernel) rt_29
    · rw [if_neg c1] at h
      refine fs_icmp_ge_f (off := 99) (t := 111) (p := 15) (by decide +kernel) (by decide +kernel) rfl c1 ?_
      refine fs_aload_n (k := 0) (p := 16) (by decide +kernel) rfl rfl ?_
      refine fs_iload_n (k := 2) (p := 17) (by decide +kernel) rfl rfl ?_
      obtain ⟨q3, e2, h⟩ := fx_bd h
      refine fs_callV (idx := 154) (mj := 27) (ci := 2) (na := 1) (mx := 4) (p := 20) (args := [.ref x0, .int x2]) (rest := []) (al2 := [some (.ref x0), some (.int x2), none, none]) (by decide +kernel) rfl (by decide +kernel) g0 rfl rfl rfl rfl rfl rfl rfl (by omega) (fun d' hd' => fe_27 (by omega) e2) rfl ?_
      refine fs_i2l (p := 21) (by decide +kernel) rfl ?_
      refine fs_lstore_n (k := 3) (p := 22) (M := 8) (al' := [some (.ref x0), some (.int x1), some (.int x2), some (.long (q3.1).toInt64), none, o5, none, o7]) (by decide +kernel) rfl mx_29 rfl rfl ?_
      refine fs_aload_n (k := 0) (p := 23) (by decide +kernel) rfl rfl ?_
      refine fs_iload_n (k := 2) (p := 24) (by decide +kernel) rfl rfl ?_
      obtain ⟨q5, e4, h⟩ := fx_bd h
      refine fs_callV (idx := 157) (mj := 28) (ci := 2) (na := 1) (mx := 3) (p := 27) (args := [.ref x0, .int x2]) (rest := []) (al2 := [some (.ref x0), some (.int x2), none]) (by decide +kernel) rfl (by decide +kernel) g0 rfl rfl rfl rfl rfl rfl rfl (by omega) (fun d' hd' => fe_28 (by omega) e4) rfl ?_
      refine fs_i2l (p := 28) (by decide +kernel) rfl ?_
      refine fs_lstore (k := 5) (p := 30) (M := 8) (al' := [some (.ref x0), some (.int x1), some (.int x2), some (.long (q3.1).toInt64), none, some (.long (q5.1).toInt64), none, o7]) (by decide +kernel) rfl mx_29 rfl rfl ?_
      refine fs_iload_n (k := 2) (p := 31) (by decide +kernel) rfl rfl ?_
      refine fs_istore (k := 7) (p := 33) (M := 8) (al' := [some (.ref x0), some (.int x1), some (.int x2), some (.long (q3.1).toInt64), none, some (.long (q5.1).toInt64), none, some (.int x2)]) (by decide +kernel) rfl mx_29 rfl rfl ?_
      exact fe_29_33 hd ih 100000 _ _ _ _ _ _ _ _ g0 h
def fm_29 (x0 : Nat) (σ : fx_S) : Option (fx_S) :=
  if fx_oc x0 2 = true then (
  (fm_58 1 σ).bind fun q30 =>
  fm_29_10 100000 x0 q30.1 (0 : Int32) q30.2) else none
theorem fe_29 {d : Nat} (hd : 3 ≤ d) {x0 : Nat} {σ : fx_S} {q : fx_S} (h : fm_29 x0 σ = some q) : fx_E none 29 d 0 [some (.ref x0), none, none, none, none, none, none, none] [] σ none q := by
  unfold fm_29 at h
  obtain ⟨g0, h⟩ := fx_gd h
  refine fs_aload_n (k := 0) (p := 1) (by decide +kernel) rfl rfl ?_
  refine fs_gfr (idx := 41) (ci := 2) (j := 10) (p := 4) (by decide +kernel) rfl (by decide +kernel) g0 (fr_2_10 g0) ?_
  obtain ⟨q30, e29, h⟩ := fx_bd h
  refine fs_callV (idx := 132) (mj := 58) (ci := 6) (na := 0) (mx := 1) (p := 7) (args := [.ref 1]) (rest := []) (al2 := [some (.ref 1)]) (by decide +kernel) rfl (by decide +kernel) fo_1 rfl rfl rfl rfl rfl rfl rfl (by omega) (fun d' hd' => fe_58 (by omega) e29) rfl ?_
  refine fs_istore_n (k := 1) (p := 8) (M := 8) (al' := [some (.ref x0), some (.int q30.1), none, none, none, none, none, none]) (by decide +kernel) rfl mx_29 rfl rfl ?_
  refine fs_iconst (n := 0) (p := 9) (by decide +kernel) rfl kc_0 ?_
  refine fs_istore_n (k := 2) (p := 10) (M := 8) (al' := [some (.ref x0), some (.int q30.1), some (.int (0 : Int32)), none, none, none, none, none]) (by decide +kernel) rfl mx_29 rfl rfl ?_
  exact fe_29_10 hd 100000 _ _ _ _ _ _ _ _ g0 h

/-! ZoneShares$History.keep(LZoneShares$State;)V -/
theorem mx_31 : iv_mx 31 = 2 := by decide +kernel
theorem rt_31 : iv_rt 31 = none := by decide +kernel
def fm_31 (x1 : Nat) (σ : fx_S) : Option (fx_S) :=
  if fx_oc x1 6 = true then (
  (fx_ldr 5 17 (σ.1 16 1)).bind fun v8 =>
  (fm_54 v8 x1 σ).bind fun q12 =>
  (fm_234 (8 : Int32) (((fx_w1 q12 16 1 (((q12.1 16 1) + (1 : Int32)) - ((q12.1 16 1) + (1 : Int32)) / (8 : Int32) * (8 : Int32))).1 16 2) + (1 : Int32)) (fx_w1 q12 16 1 (((q12.1 16 1) + (1 : Int32)) - ((q12.1 16 1) + (1 : Int32)) / (8 : Int32) * (8 : Int32)))).bind fun q14 =>
  some (fx_w1 q14.2 16 2 q14.1)) else none
theorem fe_31 {d : Nat} (hd : 1 ≤ d) {x1 : Nat} {σ : fx_S} {q : fx_S} (h : fm_31 x1 σ = some q) : fx_E none 31 d 0 [some (.ref 16), some (.ref x1)] [] σ none q := by
  unfold fm_31 at h
  obtain ⟨g1, h⟩ := fx_gd h
  refine fs_aload_n (k := 0) (p := 1) (by decide +kernel) rfl rfl ?_
  refine fs_gfr (idx := 11) (ci := 3) (j := 0) (p := 4) (by decide +kernel) rfl (by decide +kernel) fo_16 (fr_a16_0) ?_
  refine fs_aload_n (k := 0) (p := 5) (by decide +kernel) rfl rfl ?_
  refine fs_gfi (idx := 18) (ci := 3) (j := 1) (p := 8) (by decide +kernel) rfl (by decide +kernel) fo_16 ?_
  obtain ⟨v8, e9, h⟩ := fx_bd h
  have g10 := fa_17 e9
  refine fs_aaload (t := 5) (p := 9) (by decide +kernel) rfl (by decide +kernel) e9 ?_
  refine fs_aload_n (k := 1) (p := 10) (by decide +kernel) rfl rfl ?_
  obtain ⟨q12, e11, h⟩ := fx_bd h
  refine fs_callV (idx := 22) (mj := 54) (ci := 6) (na := 1) (mx := 2) (p := 13) (args := [.ref v8, .ref x1]) (rest := []) (al2 := [some (.ref v8), some (.ref x1)]) (by decide +kernel) rfl (by decide +kernel) g10 rfl rfl rfl rfl rfl rfl rfl (by omega) (fun d' hd' => fe_54 (by omega) e11) rfl ?_
  refine fs_aload_n (k := 0) (p := 14) (by decide +kernel) rfl rfl ?_
  refine fs_aload_n (k := 0) (p := 15) (by decide +kernel) rfl rfl ?_
  refine fs_gfi (idx := 18) (ci := 3) (j := 1) (p := 18) (by decide +kernel) rfl (by decide +kernel) fo_16 ?_
  refine fs_iconst (n := 1) (p := 19) (by decide +kernel) rfl kc_1 ?_
  refine fs_iadd (p := 20) (by decide +kernel) rfl ?_
  refine fs_bipush (n := 8) (p := 22) (by decide +kernel) rfl kb_8 ?_
  refine fs_irem (p := 23) (by decide +kernel) rfl (by decide) ?_
  refine fs_pfi (idx := 18) (ci := 3) (j := 1) (p := 26) (by decide +kernel) rfl (by decide +kernel) (by decide +kernel) fo_16 (fx_oki _ (by decide +kernel)) ?_
  refine fs_aload_n (k := 0) (p := 27) (by decide +kernel) rfl rfl ?_
  refine fs_bipush (n := 8) (p := 29) (by decide +kernel) rfl kb_8 ?_
  refine fs_aload_n (k := 0) (p := 30) (by decide +kernel) rfl rfl ?_
  refine fs_gfi (idx := 26) (ci := 3) (j := 2) (p := 33) (by decide +kernel) rfl (by decide +kernel) fo_16 ?_
  refine fs_iconst (n := 1) (p := 34) (by decide +kernel) rfl kc_1 ?_
  refine fs_iadd (p := 35) (by decide +kernel) rfl ?_
  obtain ⟨q14, e13, h⟩ := fx_bd h
  refine fs_callS (idx := 29) (mj := 234) (na := 2) (mx := 2) (p := 38) (args := [.int (8 : Int32), .int (((fx_w1 q12 16 1 (((q12.1 16 1) + (1 : Int32)) - ((q12.1 16 1) + (1 : Int32)) / (8 : Int32) * (8 : Int32))).1 16 2) + (1 : Int32))]) (rest := [.ref 16]) (al2 := [some (.int (8 : Int32)), some (.int (((fx_w1 q12 16 1 (((q12.1 16 1) + (1 : Int32)) - ((q12.1 16 1) + (1 : Int32)) / (8 : Int32) * (8 : Int32))).1 16 2) + (1 : Int32)))]) (by decide +kernel) rfl (by decide +kernel) rfl rfl rfl rfl rfl rfl rfl (by omega) (fun d' hd' => fe_234 (by omega) e13) rfl ?_
  refine fs_pfi (idx := 26) (ci := 3) (j := 2) (p := 41) (by decide +kernel) rfl (by decide +kernel) (by decide +kernel) fo_16 (fx_oki _ (by decide +kernel)) ?_
  have h := Option.some.inj h
  subst h
  exact fs_ret (by decide +kernel) rt_31

/-! ZoneShares$History.bringBack(LZoneShares$State;)V -/
theorem mx_32 : iv_mx 32 = 2 := by decide +kernel
theorem rt_32 : iv_rt 32 = none := by decide +kernel
def fm_32 (x1 : Nat) (σ : fx_S) : Option (fx_S) :=
  if fx_oc x1 6 = true then (
  (fx_ldr 5 17 ((fx_w1 σ 16 1 ((((σ.1 16 1) + (8 : Int32)) - (1 : Int32)) - (((σ.1 16 1) + (8 : Int32)) - (1 : Int32)) / (8 : Int32) * (8 : Int32))).1 16 1)).bind fun v6 =>
  (fm_54 x1 v6 (fx_w1 σ 16 1 ((((σ.1 16 1) + (8 : Int32)) - (1 : Int32)) - (((σ.1 16 1) + (8 : Int32)) - (1 : Int32)) / (8 : Int32) * (8 : Int32)))).bind fun q10 =>
  some (fx_w1 q10 16 2 ((q10.1 16 2) - (1 : Int32)))) else none
theorem fe_32 {d : Nat} (hd : 1 ≤ d) {x1 : Nat} {σ : fx_S} {q : fx_S} (h : fm_32 x1 σ = some q) : fx_E none 32 d 0 [some (.ref 16), some (.ref x1)] [] σ none q := by
  unfold fm_32 at h
  obtain ⟨g1, h⟩ := fx_gd h
  refine fs_aload_n (k := 0) (p := 1) (by decide +kernel) rfl rfl ?_
  refine fs_aload_n (k := 0) (p := 2) (by decide +kernel) rfl rfl ?_
  refine fs_gfi (idx := 18) (ci := 3) (j := 1) (p := 5) (by decide +kernel) rfl (by decide +kernel) fo_16 ?_
  refine fs_bipush (n := 8) (p := 7) (by decide +kernel) rfl kb_8 ?_
  refine fs_iadd (p := 8) (by decide +kernel) rfl ?_
  refine fs_iconst (n := 1) (p := 9) (by decide +kernel) rfl kc_1 ?_
  refine fs_isub (p := 10) (by decide +kernel) rfl ?_
  refine fs_bipush (n := 8) (p := 12) (by decide +kernel) rfl kb_8 ?_
  refine fs_irem (p := 13) (by decide +kernel) rfl (by decide) ?_
  refine fs_pfi (idx := 18) (ci := 3) (j := 1) (p := 16) (by decide +kernel) rfl (by decide +kernel) (by decide +kernel) fo_16 (fx_oki _ (by decide +kernel)) ?_
  refine fs_aload_n (k := 1) (p := 17) (by decide +kernel) rfl rfl ?_
  refine fs_aload_n (k := 0) (p := 18) (by decide +kernel) rfl rfl ?_
  refine fs_gfr (idx := 11) (ci := 3) (j := 0) (p := 21) (by decide +kernel) rfl (by decide +kernel) fo_16 (fr_a16_0) ?_
  refine fs_aload_n (k := 0) (p := 22) (by decide +kernel) rfl rfl ?_
  refine fs_gfi (idx := 18) (ci := 3) (j := 1) (p := 25) (by decide +kernel) rfl (by decide +kernel) fo_16 ?_
  obtain ⟨v6, e7, h⟩ := fx_bd h
  have g8 := fa_17 e7
  refine fs_aaload (t := 5) (p := 26) (by decide +kernel) rfl (by decide +kernel) e7 ?_
  obtain ⟨q10, e9, h⟩ := fx_bd h
  refine fs_callV (idx := 22) (mj := 54) (ci := 6) (na := 1) (mx := 2) (p := 29) (args := [.ref x1, .ref v6]) (rest := []) (al2 := [some (.ref x1), some (.ref v6)]) (by decide +kernel) rfl (by decide +kernel) g1 rfl rfl rfl rfl rfl rfl rfl (by omega) (fun d' hd' => fe_54 (by omega) e9) rfl ?_
  refine fs_aload_n (k := 0) (p := 30) (by decide +kernel) rfl rfl ?_
  refine fs_dup (p := 31) (by decide +kernel) rfl rfl ?_
  refine fs_gfi (idx := 26) (ci := 3) (j := 2) (p := 34) (by decide +kernel) rfl (by decide +kernel) fo_16 ?_
  refine fs_iconst (n := 1) (p := 35) (by decide +kernel) rfl kc_1 ?_
  refine fs_isub (p := 36) (by decide +kernel) rfl ?_
  refine fs_pfi (idx := 26) (ci := 3) (j := 2) (p := 39) (by decide +kernel) rfl (by decide +kernel) (by decide +kernel) fo_16 (fx_oki _ (by decide +kernel)) ?_
  have h := Option.some.inj h
  subst h
  exact fs_ret (by decide +kernel) rt_32

/-! ZoneShares$LayerText.read(LZoneShares$Tape;ILZoneShares$State;)I -/
theorem mx_34 : iv_mx 34 = 8 := by decide +kernel
theorem rt_34 : iv_rt 34 = some .int := by decide +kernel
def fm_34_153 (k_74 : Int32 → Int32 → fx_S → Option (Int32 × fx_S)) (x2 : Int32) (x4 : Int32) (σ : fx_S) : Option (Int32 × fx_S) :=
  k_74 x2 (x4 + (1 : Int32)) σ
theorem fe_34_153 {d : Nat} (hd : 1 ≤ d) {k_74 : Int32 → Int32 → fx_S → Option (Int32 × fx_S)} (hk_74 : ∀ (x2 : Int32) (x4 : Int32) (o3 : Option Value) (o5 : Option Value) (o6 : Option Value) (o7 : Option Value) (σ : fx_S) (q : Int32 × fx_S), k_74 x2 x4 σ = some q → fx_E none 34 d 74 [some (.ref 58), some (.ref 14), some (.int x2), o3, some (.int x4), o5, o6, o7] [] σ (some (.int q.1)) q.2) (x2 : Int32) (x4 : Int32) (o3 : Option Value) (o5 : Option Value) (o6 : Option Value) (o7 : Option Value) (σ : fx_S) (q : Int32 × fx_S) (h : fm_34_153 k_74  x2 x4 σ = some q) : fx_E none 34 d 153 [some (.ref 58), some (.ref 14), some (.int x2), o3, some (.int x4), o5, o6, o7] [] σ (some (.int q.1)) q.2 := by
  unfold fm_34_153 at h
  refine fs_iinc (k := 4) (n := 1) (p := 156) (M := 8) (al' := [some (.ref 58), some (.ref 14), some (.int x2), (fx_kl o3), some (.int (x4 + (1 : Int32))), o5, o6, o7]) (by decide +kernel) rfl kc_1 mx_34 rfl rfl rfl ?_
  refine fs_goto (off := -82) (p := 74) (by decide +kernel) (by decide +kernel) ?_
  exact hk_74 _ _ _ _ _ _ _ _ h
def fm_34_118 (k_74 : Int32 → Int32 → fx_S → Option (Int32 × fx_S)) (x2 : Int32) (x4 : Int32) (x6 : Int32) (s0 : Int32) (σ : fx_S) : Option (Int32 × fx_S) :=
  if s0 = 0 then (
    if ¬ x6 = (-1 : Int32) then (
      (fm_39 x6 σ).bind fun q4 =>
      fm_34_153 k_74 x2 x4 q4) else (
      (fm_38 σ).bind fun q6 =>
      fm_34_153 k_74 x2 x4 q6)) else (
    some ((((8 : Int32) * x4) + s0), σ))
theorem fe_34_118 {d : Nat} (hd : 1 ≤ d) {k_74 : Int32 → Int32 → fx_S → Option (Int32 × fx_S)} (hk_74 : ∀ (x2 : Int32) (x4 : Int32) (o3 : Option Value) (o5 : Option Value) (o6 : Option Value) (o7 : Option Value) (σ : fx_S) (q : Int32 × fx_S), k_74 x2 x4 σ = some q → fx_E none 34 d 74 [some (.ref 58), some (.ref 14), some (.int x2), o3, some (.int x4), o5, o6, o7] [] σ (some (.int q.1)) q.2) (x2 : Int32) (x4 : Int32) (x6 : Int32) (s0 : Int32) (o3 : Option Value) (o5 : Option Value) (o7 : Option Value) (σ : fx_S) (q : Int32 × fx_S) (h : fm_34_118 k_74  x2 x4 x6 s0 σ = some q) : fx_E none 34 d 118 [some (.ref 58), some (.ref 14), some (.int x2), o3, some (.int x4), o5, some (.int x6), o7] [.int s0] σ (some (.int q.1)) q.2 := by
  unfold fm_34_118 at h
  refine fs_istore (k := 7) (p := 120) (M := 8) (al' := [some (.ref 58), some (.ref 14), some (.int x2), o3, some (.int x4), o5, some (.int x6), some (.int s0)]) (by decide +kernel) rfl mx_34 rfl rfl ?_
  refine fs_iload (k := 7) (p := 122) (by decide +kernel) rfl rfl ?_
  by_cases c1 : s0 = 0
  · rw [if_pos c1] at h
    refine fs_if_eq_t (off := 12) (t := 134) (by decide +kernel) (by decide +kernel) c1 ?_
    refine fs_iload (k := 6) (p := 136) (by decide +kernel) rfl rfl ?_
    refine fs_iconst (n := -1) (p := 137) (by decide +kernel) rfl kc_m1 ?_
    by_cases c2 : ¬ x6 = (-1 : Int32)
    · rw [if_pos c2] at h
      refine fs_icmp_ne_t (off := 10) (t := 147) (by decide +kernel) (by decide +kernel) c2 ?_
      refine fs_aload_n (k := 0) (p := 148) (by decide +kernel) rfl rfl ?_
      refine fs_iload (k := 6) (p := 150) (by decide +kernel) rfl rfl ?_
      obtain ⟨q4, e3, h⟩ := fx_bd h
      refine fs_callV (idx := 62) (mj := 39) (ci := 4) (na := 1) (mx := 3) (p := 153) (args := [.ref 58, .int x6]) (rest := []) (al2 := [some (.ref 58), some (.int x6), none]) (by decide +kernel) rfl (by decide +kernel) fo_58 rfl rfl rfl rfl rfl rfl rfl (by omega) (fun d' hd' => fe_39 (by omega) e3) rfl ?_
      exact fe_34_153 hd hk_74 _ _ _ _ _ _ _ _ h
    · rw [if_neg c2] at h
      refine fs_icmp_ne_f (off := 10) (t := 147) (p := 140) (by decide +kernel) (by decide +kernel) rfl c2 ?_
      refine fs_aload_n (k := 0) (p := 141) (by decide +kernel) rfl rfl ?_
      obtain ⟨q6, e5, h⟩ := fx_bd h
      refine fs_callV (idx := 59) (mj := 38) (ci := 4) (na := 0) (mx := 1) (p := 144) (args := [.ref 58]) (rest := []) (al2 := [some (.ref 58)]) (by decide +kernel) rfl (by decide +kernel) fo_58 rfl rfl rfl rfl rfl rfl rfl (by omega) (fun d' hd' => fe_38 (by omega) e5) rfl ?_
      refine fs_goto (off := 9) (p := 153) (by decide +kernel) (by decide +kernel) ?_
      exact fe_34_153 hd hk_74 _ _ _ _ _ _ _ _ h
  · rw [if_neg c1] at h
    refine fs_if_eq_f (off := 12) (t := 134) (p := 125) (by decide +kernel) (by decide +kernel) rfl c1 ?_
    refine fs_bipush (n := 8) (p := 127) (by decide +kernel) rfl kb_8 ?_
    refine fs_iload (k := 4) (p := 129) (by decide +kernel) rfl rfl ?_
    refine fs_imul (p := 130) (by decide +kernel) rfl ?_
    refine fs_iload (k := 7) (p := 132) (by decide +kernel) rfl rfl ?_
    refine fs_iadd (p := 133) (by decide +kernel) rfl ?_
    have h := Option.some.inj h
    subst h
    exact fs_iret (by decide +kernel) rt_34
def fm_34_74 : Nat → Int32 → Int32 → fx_S → Option (Int32 × fx_S)
  | 0, _, _, _ => none
  | n + 1, x2, x4, σ =>
    if (σ.1 14 1) < x4 then (
      some ((-1 : Int32), σ)) else (
      (fm_83 x4 σ).bind fun q3 =>
      (fm_35 q3.1 x2 q3.2).bind fun q5 =>
      if ¬ q5.1 = (-1 : Int32) then (
        (fm_36 q5.2).bind fun q8 =>
        fm_34_118 (fm_34_74 n) x2 x4 q5.1 q8.1 q8.2) else (
        (fm_37 q3.1 q5.2).bind fun q10 =>
        fm_34_118 (fm_34_74 n) x2 x4 q5.1 q10.1 q10.2))
theorem fe_34_74 {d : Nat} (hd : 1 ≤ d) : ∀ (n : Nat) (x2 : Int32) (x4 : Int32) (o3 : Option Value) (o5 : Option Value) (o6 : Option Value) (o7 : Option Value) (σ : fx_S) (q : Int32 × fx_S), fm_34_74 n x2 x4 σ = some q → fx_E none 34 d 74 [some (.ref 58), some (.ref 14), some (.int x2), o3, some (.int x4), o5, o6, o7] [] σ (some (.int q.1)) q.2 := by
  intro n
  induction n with
  | zero =>
    intro x2 x4 o3 o5 o6 o7 σ q  h
    rw [fm_34_74] at h
    exact fx_no h
  | succ n ih =>
    intro x2 x4 o3 o5 o6 o7 σ q  h
    rw [fm_34_74] at h
    refine fs_iload (k := 4) (p := 76) (by decide +kernel) rfl rfl ?_
    refine fs_aload_n (k := 1) (p := 77) (by decide +kernel) rfl rfl ?_
    refine fs_gfi (idx := 39) (ci := 8) (j := 1) (p := 80) (by decide +kernel) rfl (by decide +kernel) fo_14 ?_
    by_cases c1 : (σ.1 14 1) < x4
    · rw [if_pos c1] at h
      refine fs_icmp_gt_t (off := 79) (t := 159) (by decide +kernel) (by decide +kernel) c1 ?_
      refine fs_iconst (n := -1) (p := 160) (by decide +kernel) rfl kc_m1 ?_
      have h := Option.some.inj h
      subst h
      exact fs_iret (by decide +kernel) rt_34
    · rw [if_neg c1] at h
      refine fs_icmp_gt_f (off := 79) (t := 159) (p := 83) (by decide +kernel) (by decide +kernel) rfl c1 ?_
      refine fs_aload_n (k := 1) (p := 84) (by decide +kernel) rfl rfl ?_
      refine fs_iload (k := 4) (p := 86) (by decide +kernel) rfl rfl ?_
      obtain ⟨q3, e2, h⟩ := fx_bd h
      refine fs_callV (idx := 44) (mj := 83) (ci := 8) (na := 1) (mx := 2) (p := 89) (args := [.ref 14, .int x4]) (rest := []) (al2 := [some (.ref 14), some (.int x4)]) (by decide +kernel) rfl (by decide +kernel) fo_14 rfl rfl rfl rfl rfl rfl rfl (by omega) (fun d' hd' => fe_83 (by omega) e2) rfl ?_
      refine fs_istore (k := 5) (p := 91) (M := 8) (al' := [some (.ref 58), some (.ref 14), some (.int x2), o3, some (.int x4), some (.int q3.1), o6, o7]) (by decide +kernel) rfl mx_34 rfl rfl ?_
      refine fs_iload (k := 5) (p := 93) (by decide +kernel) rfl rfl ?_
      refine fs_iload_n (k := 2) (p := 94) (by decide +kernel) rfl rfl ?_
      obtain ⟨q5, e4, h⟩ := fx_bd h
      refine fs_callS (idx := 48) (mj := 35) (na := 2) (mx := 2) (p := 97) (args := [.int q3.1, .int x2]) (rest := []) (al2 := [some (.int q3.1), some (.int x2)]) (by decide +kernel) rfl (by decide +kernel) rfl rfl rfl rfl rfl rfl rfl (by omega) (fun d' hd' => fe_35 (by omega) e4) rfl ?_
      refine fs_istore (k := 6) (p := 99) (M := 8) (al' := [some (.ref 58), some (.ref 14), some (.int x2), o3, some (.int x4), some (.int q3.1), some (.int q5.1), o7]) (by decide +kernel) rfl mx_34 rfl rfl ?_
      refine fs_iload (k := 6) (p := 101) (by decide +kernel) rfl rfl ?_
      refine fs_iconst (n := -1) (p := 102) (by decide +kernel) rfl kc_m1 ?_
      by_cases c6 : ¬ q5.1 = (-1 : Int32)
      · rw [if_pos c6] at h
        refine fs_icmp_ne_t (off := 12) (t := 114) (by decide +kernel) (by decide +kernel) c6 ?_
        refine fs_aload_n (k := 0) (p := 115) (by decide +kernel) rfl rfl ?_
        obtain ⟨q8, e7, h⟩ := fx_bd h
        refine fs_callV (idx := 55) (mj := 36) (ci := 4) (na := 0) (mx := 1) (p := 118) (args := [.ref 58]) (rest := []) (al2 := [some (.ref 58)]) (by decide +kernel) rfl (by decide +kernel) fo_58 rfl rfl rfl rfl rfl rfl rfl (by omega) (fun d' hd' => fe_36 (by omega) e7) rfl ?_
        exact fe_34_118 hd ih _ _ _ _ _ _ _ _ _ h
      · rw [if_neg c6] at h
        refine fs_icmp_ne_f (off := 12) (t := 114) (p := 105) (by decide +kernel) (by decide +kernel) rfl c6 ?_
        refine fs_aload_n (k := 0) (p := 106) (by decide +kernel) rfl rfl ?_
        refine fs_iload (k := 5) (p := 108) (by decide +kernel) rfl rfl ?_
        obtain ⟨q10, e9, h⟩ := fx_bd h
        refine fs_callV (idx := 52) (mj := 37) (ci := 4) (na := 1) (mx := 2) (p := 111) (args := [.ref 58, .int q3.1]) (rest := []) (al2 := [some (.ref 58), some (.int q3.1)]) (by decide +kernel) rfl (by decide +kernel) fo_58 rfl rfl rfl rfl rfl rfl rfl (by omega) (fun d' hd' => fe_37 (by omega) e9) rfl ?_
        refine fs_goto (off := 7) (p := 118) (by decide +kernel) (by decide +kernel) ?_
        exact fe_34_118 hd ih _ _ _ _ _ _ _ _ _ h
def fm_34_58 (x2 : Int32) (s1 : Int32) (σ : fx_S) : Option (Int32 × fx_S) :=
  fm_34_74 100000 x2 (0 : Int32) (fx_w1 (fx_w1 (fx_w1 σ 58 4 s1) 58 1 (0 : Int32)) 58 3 (0 : Int32))
theorem fe_34_58 {d : Nat} (hd : 1 ≤ d) (x2 : Int32) (s1 : Int32) (o3 : Option Value) (σ : fx_S) (q : Int32 × fx_S) (h : fm_34_58  x2 s1 σ = some q) : fx_E none 34 d 58 [some (.ref 58), some (.ref 14), some (.int x2), o3, none, none, none, none] [.int s1, .ref 58] σ (some (.int q.1)) q.2 := by
  unfold fm_34_58 at h
  refine fs_pfi (idx := 32) (ci := 4) (j := 4) (p := 61) (by decide +kernel) rfl (by decide +kernel) (by decide +kernel) fo_58 (fx_oki _ (by decide +kernel)) ?_
  refine fs_aload_n (k := 0) (p := 62) (by decide +kernel) rfl rfl ?_
  refine fs_iconst (n := 0) (p := 63) (by decide +kernel) rfl kc_0 ?_
  refine fs_pfi (idx := 35) (ci := 4) (j := 1) (p := 66) (by decide +kernel) rfl (by decide +kernel) (by decide +kernel) fo_58 (fx_oki _ (by decide +kernel)) ?_
  refine fs_aload_n (k := 0) (p := 67) (by decide +kernel) rfl rfl ?_
  refine fs_iconst (n := 0) (p := 68) (by decide +kernel) rfl kc_0 ?_
  refine fs_pfi (idx := 36) (ci := 4) (j := 3) (p := 71) (by decide +kernel) rfl (by decide +kernel) (by decide +kernel) fo_58 (fx_oki _ (by decide +kernel)) ?_
  refine fs_iconst (n := 0) (p := 72) (by decide +kernel) rfl kc_0 ?_
  refine fs_istore (k := 4) (p := 74) (M := 8) (al' := [some (.ref 58), some (.ref 14), some (.int x2), (fx_kl o3), some (.int (0 : Int32)), none, none, none]) (by decide +kernel) rfl mx_34 rfl rfl ?_
  exact fe_34_74 hd 100000 _ _ _ _ _ _ _ _ h
def fm_34_38 (x2 : Int32) (x3 : Nat) (s1 : Int32) (σ : fx_S) : Option (Int32 × fx_S) :=
  fm_34_58 x2 (if ((fx_w1 σ 58 2 s1).1 58 6) = 0 then (8 : Int32) else ((fx_w1 σ 58 2 s1).1 x3 4)) (fx_w1 σ 58 2 s1)
theorem fe_34_38 {d : Nat} (hd : 1 ≤ d) (x2 : Int32) (x3 : Nat) (s1 : Int32) (σ : fx_S) (q : Int32 × fx_S) (g3 : fx_oc x3 6 = true) (h : fm_34_38  x2 x3 s1 σ = some q) : fx_E none 34 d 38 [some (.ref 58), some (.ref 14), some (.int x2), some (.ref x3), none, none, none, none] [.int s1, .ref 58] σ (some (.int q.1)) q.2 := by
  unfold fm_34_38 at h
  refine fs_pfi (idx := 28) (ci := 4) (j := 2) (p := 41) (by decide +kernel) rfl (by decide +kernel) (by decide +kernel) fo_58 (fx_oki _ (by decide +kernel)) ?_
  refine fs_aload_n (k := 0) (p := 42) (by decide +kernel) rfl rfl ?_
  refine fs_aload_n (k := 0) (p := 43) (by decide +kernel) rfl rfl ?_
  refine fs_gfi (idx := 15) (ci := 4) (j := 6) (p := 46) (by decide +kernel) rfl (by decide +kernel) fo_58 ?_
  by_cases c1 : ((fx_w1 σ 58 2 s1).1 58 6) = 0
  · rw [if_pos c1] at h
    refine fs_if_eq_t (off := 10) (t := 56) (by decide +kernel) (by decide +kernel) c1 ?_
    refine fs_bipush (n := 8) (p := 58) (by decide +kernel) rfl kb_8 ?_
    exact fe_34_58 hd _ _ _ _ _ h
  · rw [if_neg c1] at h
    refine fs_if_eq_f (off := 10) (t := 56) (p := 49) (by decide +kernel) (by decide +kernel) rfl c1 ?_
    refine fs_aload_n (k := 3) (p := 50) (by decide +kernel) rfl rfl ?_
    refine fs_gfi (idx := 29) (ci := 6) (j := 4) (p := 53) (by decide +kernel) rfl (by decide +kernel) g3 ?_
    refine fs_goto (off := 5) (p := 58) (by decide +kernel) (by decide +kernel) ?_
    exact fe_34_58 hd _ _ _ _ _ h
def fm_34_10 (x2 : Int32) (x3 : Nat) (s1 : Int32) (σ : fx_S) : Option (Int32 × fx_S) :=
  if s1 = 0 ∨ s1 = 1 then (
  if ((fx_w1 σ 58 6 s1).1 58 6) = 0 ∨ ((fx_w1 σ 58 6 s1).1 58 6) = 1 then (
  fm_34_38 x2 x3 (if ((fx_w1 (fx_w1 σ 58 6 s1) 58 5 ((fx_w1 σ 58 6 s1).1 58 6)).1 58 6) = 0 then (12 : Int32) else ((fx_w1 (fx_w1 σ 58 6 s1) 58 5 ((fx_w1 σ 58 6 s1).1 58 6)).1 x3 5)) (fx_w1 (fx_w1 σ 58 6 s1) 58 5 ((fx_w1 σ 58 6 s1).1 58 6))) else none) else none
theorem fe_34_10 {d : Nat} (hd : 1 ≤ d) (x2 : Int32) (x3 : Nat) (s1 : Int32) (σ : fx_S) (q : Int32 × fx_S) (g3 : fx_oc x3 6 = true) (h : fm_34_10  x2 x3 s1 σ = some q) : fx_E none 34 d 10 [some (.ref 58), some (.ref 14), some (.int x2), some (.ref x3), none, none, none, none] [.int s1, .ref 58] σ (some (.int q.1)) q.2 := by
  unfold fm_34_10 at h
  obtain ⟨z1, h⟩ := fx_gd h
  refine fs_pfi (idx := 15) (ci := 4) (j := 6) (p := 13) (by decide +kernel) rfl (by decide +kernel) (by decide +kernel) fo_58 (fx_okd z1 (by decide +kernel)) ?_
  refine fs_aload_n (k := 0) (p := 14) (by decide +kernel) rfl rfl ?_
  refine fs_aload_n (k := 0) (p := 15) (by decide +kernel) rfl rfl ?_
  refine fs_gfi (idx := 15) (ci := 4) (j := 6) (p := 18) (by decide +kernel) rfl (by decide +kernel) fo_58 ?_
  obtain ⟨z2, h⟩ := fx_gd h
  refine fs_pfi (idx := 19) (ci := 4) (j := 5) (p := 21) (by decide +kernel) rfl (by decide +kernel) (by decide +kernel) fo_58 (fx_okd z2 (by decide +kernel)) ?_
  refine fs_aload_n (k := 0) (p := 22) (by decide +kernel) rfl rfl ?_
  refine fs_aload_n (k := 0) (p := 23) (by decide +kernel) rfl rfl ?_
  refine fs_gfi (idx := 15) (ci := 4) (j := 6) (p := 26) (by decide +kernel) rfl (by decide +kernel) fo_58 ?_
  by_cases c3 : ((fx_w1 (fx_w1 σ 58 6 s1) 58 5 ((fx_w1 σ 58 6 s1).1 58 6)).1 58 6) = 0
  · rw [if_pos c3] at h
    refine fs_if_eq_t (off := 10) (t := 36) (by decide +kernel) (by decide +kernel) c3 ?_
    refine fs_bipush (n := 12) (p := 38) (by decide +kernel) rfl kb_12 ?_
    exact fe_34_38 hd _ _ _ _ _ g3 h
  · rw [if_neg c3] at h
    refine fs_if_eq_f (off := 10) (t := 36) (p := 29) (by decide +kernel) (by decide +kernel) rfl c3 ?_
    refine fs_aload_n (k := 3) (p := 30) (by decide +kernel) rfl rfl ?_
    refine fs_gfi (idx := 22) (ci := 6) (j := 5) (p := 33) (by decide +kernel) rfl (by decide +kernel) g3 ?_
    refine fs_goto (off := 5) (p := 38) (by decide +kernel) (by decide +kernel) ?_
    exact fe_34_38 hd _ _ _ _ _ g3 h
def fm_34 (x2 : Int32) (x3 : Nat) (σ : fx_S) : Option (Int32 × fx_S) :=
  if fx_oc x3 6 = true then (
  fm_34_10 x2 x3 (if x2 = 0 then (0 : Int32) else (1 : Int32)) σ) else none
theorem fe_34 {d : Nat} (hd : 1 ≤ d) {x2 : Int32} {x3 : Nat} {σ : fx_S} {q : Int32 × fx_S} (h : fm_34 x2 x3 σ = some q) : fx_E none 34 d 0 [some (.ref 58), some (.ref 14), some (.int x2), some (.ref x3), none, none, none, none] [] σ (some (.int q.1)) q.2 := by
  unfold fm_34 at h
  obtain ⟨g3, h⟩ := fx_gd h
  refine fs_aload_n (k := 0) (p := 1) (by decide +kernel) rfl rfl ?_
  refine fs_iload_n (k := 2) (p := 2) (by decide +kernel) rfl rfl ?_
  by_cases c38 : x2 = 0
  · rw [if_pos c38] at h
    refine fs_if_eq_t (off := 7) (t := 9) (by decide +kernel) (by decide +kernel) c38 ?_
    refine fs_iconst (n := 0) (p := 10) (by decide +kernel) rfl kc_0 ?_
    exact fe_34_10 hd _ _ _ _ _ g3 h
  · rw [if_neg c38] at h
    refine fs_if_eq_f (off := 7) (t := 9) (p := 5) (by decide +kernel) (by decide +kernel) rfl c38 ?_
    refine fs_iconst (n := 1) (p := 6) (by decide +kernel) rfl kc_1 ?_
    refine fs_goto (off := 4) (p := 10) (by decide +kernel) (by decide +kernel) ?_
    exact fe_34_10 hd _ _ _ _ _ g3 h
