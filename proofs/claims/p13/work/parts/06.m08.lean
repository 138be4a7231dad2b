section
/-! ZoneShares.share(IIII)I -/
theorem mx_98 : iv_mx 98 = 8 := by decide +kernel
theorem rt_98 : iv_rt 98 = some .int := by decide +kernel
def fm_98 (x1 : Int32) (x2 : Int32) (x3 : Int32) (x4 : Int32) (σ : fx_S) : Option (Int32 × fx_S) :=
  (fm_118 x1 x3 σ).bind fun q28 =>
  if (fx_b q28.1) = 0 then (
    some ((-1 : Int32), q28.2)) else (
    (fm_115 x2 q28.2).bind fun q31 =>
    if (fx_b q31.1) = 0 then (
      some ((-1 : Int32), q31.2)) else (
      if x4 < 0 then (
        some ((-1 : Int32), q31.2)) else (
        if x4 ≤ (1 : Int32) then (
          (fx_ldr 4 70 x1).bind fun v36 =>
          (fm_19 v36 (2 : Int32) q31.2).bind fun q41 =>
          (fx_ld q41 ((v36 + 3) + 2) x2).bind fun v42 =>
          if ¬ v42 = 0 then (
            (fx_ld q41 ((v36 + 3) + 4) ((x2 * (9 : Int32)) + x3)).bind fun v47 =>
            (fm_127 (v47).toInt64 (v42).toInt64 x4 q41).bind fun q52 =>
            some ((q52.1).toInt32, q52.2)) else (
            some ((-1 : Int32), q41))) else (
          some ((-1 : Int32), q31.2)))))
theorem fe_98 {d : Nat} (hd : 6 ≤ d) {x1 : Int32} {x2 : Int32} {x3 : Int32} {x4 : Int32} {σ : fx_S} {q : Int32 × fx_S} (h : fm_98 x1 x2 x3 x4 σ = some q) : fx_E none 98 d 0 [some (.ref 0), some (.int x1), some (.int x2), some (.int x3), some (.int x4), none, none, none] [] σ (some (.int q.1)) q.2 := by
  unfold fm_98 at h
  refine fs_aload_n (k := 0) (p := 1) (by decide +kernel) rfl rfl ?_
  refine fs_iload_n (k := 1) (p := 2) (by decide +kernel) rfl rfl ?_
  refine fs_iload_n (k := 3) (p := 3) (by decide +kernel) rfl rfl ?_
  obtain ⟨q28, w27, h⟩ := fx_bd h
  refine fs_callV (idx := 199) (mj := 118) (ci := 9) (na := 2) (mx := 3) (p := 6) (args := [.ref 0, .int x1, .int x3]) (rest := []) (al2 := [some (.ref 0), some (.int x1), some (.int x3)]) (by decide +kernel) rfl (by decide +kernel) fo_0 rfl rfl rfl rfl rfl rfl rfl (by omega) (fun d' hd' => fe_118 (by omega) w27) rfl ?_
  by_cases c29 : (fx_b q28.1) = 0
  · rw [if_pos c29] at h
    refine fs_if_eq_t (off := 21) (t := 27) (by decide +kernel) (by decide +kernel) c29 ?_
    refine fs_iconst (n := -1) (p := 28) (by decide +kernel) rfl kc_m1 ?_
    have h := Option.some.inj h
    subst h
    exact fs_iret (by decide +kernel) rt_98
  · rw [if_neg c29] at h
    refine fs_if_eq_f (off := 21) (t := 27) (p := 9) (by decide +kernel) (by decide +kernel) rfl c29 ?_
    refine fs_iload_n (k := 2) (p := 10) (by decide +kernel) rfl rfl ?_
    obtain ⟨q31, w30, h⟩ := fx_bd h
    refine fs_callS (idx := 128) (mj := 115) (na := 1) (mx := 1) (p := 13) (args := [.int x2]) (rest := []) (al2 := [some (.int x2)]) (by decide +kernel) rfl (by decide +kernel) rfl rfl rfl rfl rfl rfl rfl (by omega) (fun d' hd' => fe_115 (by omega) w30) rfl ?_
    by_cases c32 : (fx_b q31.1) = 0
    · rw [if_pos c32] at h
      refine fs_if_eq_t (off := 14) (t := 27) (by decide +kernel) (by decide +kernel) c32 ?_
      refine fs_iconst (n := -1) (p := 28) (by decide +kernel) rfl kc_m1 ?_
      have h := Option.some.inj h
      subst h
      exact fs_iret (by decide +kernel) rt_98
    · rw [if_neg c32] at h
      refine fs_if_eq_f (off := 14) (t := 27) (p := 16) (by decide +kernel) (by decide +kernel) rfl c32 ?_
      refine fs_iload (k := 4) (p := 18) (by decide +kernel) rfl rfl ?_
      by_cases c34 : x4 < 0
      · rw [if_pos c34] at h
        refine fs_if_lt_t (off := 9) (t := 27) (by decide +kernel) (by decide +kernel) c34 ?_
        refine fs_iconst (n := -1) (p := 28) (by decide +kernel) rfl kc_m1 ?_
        have h := Option.some.inj h
        subst h
        exact fs_iret (by decide +kernel) rt_98
      · rw [if_neg c34] at h
        refine fs_if_lt_f (off := 9) (t := 27) (p := 21) (by decide +kernel) (by decide +kernel) rfl c34 ?_
        refine fs_iload (k := 4) (p := 23) (by decide +kernel) rfl rfl ?_
        refine fs_iconst (n := 1) (p := 24) (by decide +kernel) rfl kc_1 ?_
        by_cases c35 : x4 ≤ (1 : Int32)
        · rw [if_pos c35] at h
          refine fs_icmp_le_t (off := 5) (t := 29) (by decide +kernel) (by decide +kernel) c35 ?_
          refine fs_aload_n (k := 0) (p := 30) (by decide +kernel) rfl rfl ?_
          refine fs_gfr (idx := 60) (ci := 9) (j := 6) (p := 33) (by decide +kernel) rfl (by decide +kernel) fo_0 (fr_a0_6) ?_
          refine fs_iload_n (k := 1) (p := 34) (by decide +kernel) rfl rfl ?_
          obtain ⟨v36, w37, h⟩ := fx_bd h
          have g38 := fa_70 w37
          refine fs_aaload (t := 4) (p := 35) (by decide +kernel) rfl (by decide +kernel) w37 ?_
          refine fs_astore (k := 5) (p := 37) (M := 8) (al' := [some (.ref 0), some (.int x1), some (.int x2), some (.int x3), some (.int x4), some (.ref v36), none, none]) (by decide +kernel) rfl mx_98 rfl rfl ?_
          refine fs_aload (k := 5) (p := 39) (by decide +kernel) rfl rfl ?_
          refine fs_iconst (n := 2) (p := 40) (by decide +kernel) rfl kc_2 ?_
          obtain ⟨q41, w40, h⟩ := fx_bd h
          refine fs_callV (idx := 150) (mj := 19) (ci := 2) (na := 1) (mx := 2) (p := 43) (args := [.ref v36, .int (2 : Int32)]) (rest := []) (al2 := [some (.ref v36), some (.int (2 : Int32))]) (by decide +kernel) rfl (by decide +kernel) g38 rfl rfl rfl rfl rfl rfl rfl (by omega) (fun d' hd' => fe_19 (by omega) w40) rfl ?_
          refine fs_pop (p := 44) (by decide +kernel) rfl rfl ?_
          refine fs_aload (k := 5) (p := 46) (by decide +kernel) rfl rfl ?_
          refine fs_gfr (idx := 202) (ci := 2) (j := 2) (p := 49) (by decide +kernel) rfl (by decide +kernel) g38 (fr_2_2 g38) ?_
          refine fs_gfr (idx := 206) (ci := 7) (j := 1) (p := 52) (by decide +kernel) rfl (by decide +kernel) (fg_2_2 g38) (fr_7_1 (fg_2_2 g38)) ?_
          refine fs_iload_n (k := 2) (p := 53) (by decide +kernel) rfl rfl ?_
          obtain ⟨v42, w43, h⟩ := fx_bd h
          refine fs_iaload (p := 54) (by decide +kernel) rfl w43 ?_
          refine fs_istore (k := 6) (p := 56) (M := 8) (al' := [some (.ref 0), some (.int x1), some (.int x2), some (.int x3), some (.int x4), some (.ref v36), some (.int v42), none]) (by decide +kernel) rfl mx_98 rfl rfl ?_
          refine fs_iload (k := 6) (p := 58) (by decide +kernel) rfl rfl ?_
          by_cases c46 : ¬ v42 = 0
          · rw [if_pos c46] at h
            refine fs_if_ne_t (off := 5) (t := 63) (by decide +kernel) (by decide +kernel) c46 ?_
            refine fs_aload (k := 5) (p := 65) (by decide +kernel) rfl rfl ?_
            refine fs_gfr (idx := 202) (ci := 2) (j := 2) (p := 68) (by decide +kernel) rfl (by decide +kernel) g38 (fr_2_2 g38) ?_
            refine fs_gfr (idx := 211) (ci := 7) (j := 3) (p := 71) (by decide +kernel) rfl (by decide +kernel) (fg_2_2 g38) (fr_7_3 (fg_2_2 g38)) ?_
            refine fs_iload_n (k := 2) (p := 72) (by decide +kernel) rfl rfl ?_
            refine fs_bipush (n := 9) (p := 74) (by decide +kernel) rfl kb_9 ?_
            refine fs_imul (p := 75) (by decide +kernel) rfl ?_
            refine fs_iload_n (k := 3) (p := 76) (by decide +kernel) rfl rfl ?_
            refine fs_iadd (p := 77) (by decide +kernel) rfl ?_
            obtain ⟨v47, w48, h⟩ := fx_bd h
            refine fs_iaload (p := 78) (by decide +kernel) rfl w48 ?_
            refine fs_istore (k := 7) (p := 80) (M := 8) (al' := [some (.ref 0), some (.int x1), some (.int x2), some (.int x3), some (.int x4), some (.ref v36), some (.int v42), some (.int v47)]) (by decide +kernel) rfl mx_98 rfl rfl ?_
            refine fs_iload (k := 7) (p := 82) (by decide +kernel) rfl rfl ?_
            refine fs_i2l (p := 83) (by decide +kernel) rfl ?_
            refine fs_iload (k := 6) (p := 85) (by decide +kernel) rfl rfl ?_
            refine fs_i2l (p := 86) (by decide +kernel) rfl ?_
            refine fs_iload (k := 4) (p := 88) (by decide +kernel) rfl rfl ?_
            obtain ⟨q52, w51, h⟩ := fx_bd h
            refine fs_callS (idx := 214) (mj := 127) (na := 3) (mx := 7) (p := 91) (args := [.long (v47).toInt64, .long (v42).toInt64, .int x4]) (rest := []) (al2 := [some (.long (v47).toInt64), none, some (.long (v42).toInt64), none, some (.int x4), none, none]) (by decide +kernel) rfl (by decide +kernel) rfl rfl rfl rfl rfl rfl rfl (by omega) (fun d' hd' => fe_127 (by omega) w51) rfl ?_
            refine fs_l2i (p := 92) (by decide +kernel) rfl ?_
            have h := Option.some.inj h
            subst h
            exact fs_iret (by decide +kernel) rt_98
          · rw [if_neg c46] at h
            refine fs_if_ne_f (off := 5) (t := 63) (p := 61) (by decide +kernel) (by decide +kernel) rfl c46 ?_
            refine fs_iconst (n := -1) (p := 62) (by decide +kernel) rfl kc_m1 ?_
            have h := Option.some.inj h
            subst h
            exact fs_iret (by decide +kernel) rt_98
        · rw [if_neg c35] at h
          refine fs_icmp_le_f (off := 5) (t := 29) (p := 27) (by decide +kernel) (by decide +kernel) rfl c35 ?_
          refine fs_iconst (n := -1) (p := 28) (by decide +kernel) rfl kc_m1 ?_
          have h := Option.some.inj h
          subst h
          exact fs_iret (by decide +kernel) rt_98

/-! ZoneShares.moved(III)I -/
theorem mx_99 : iv_mx 99 = 12 := by decide +kernel
theorem rt_99 : iv_rt 99 = some .int := by decide +kernel
def fm_99_124 (k_113 : Nat → Int32 → Int32 → Int32 → Int32 → Int32 → fx_S → Option (Int32 × fx_S)) : Nat → Nat → Int32 → Int32 → Int32 → Int32 → Int32 → Int32 → fx_S → Option (Int32 × fx_S)
  | 0, _, _, _, _, _, _, _, _ => none
  | n + 1, x4, x6, x7, x8, x9, x10, x11, σ =>
    if x8 < x11 then (
      k_113 x4 x6 x7 x8 x9 (x10 + (1 : Int32)) σ) else (
      (fx_ld σ ((x4 + 3) + 8) ((x10 * (9 : Int32)) + x11)).bind fun v4 =>
      fm_99_124 k_113 n x4 x6 x7 x8 (x9 + v4) x10 (x11 + (1 : Int32)) σ)
theorem fe_99_124 {d : Nat} (hd : 6 ≤ d) {k_113 : Nat → Int32 → Int32 → Int32 → Int32 → Int32 → fx_S → Option (Int32 × fx_S)} (hk_113 : ∀ (x4 : Nat) (x6 : Int32) (x7 : Int32) (x8 : Int32) (x9 : Int32) (x10 : Int32) (o0 : Option Value) (o1 : Option Value) (o2 : Option Value) (o3 : Option Value) (o5 : Option Value) (o11 : Option Value) (σ : fx_S) (q : Int32 × fx_S) (g4 : fx_oc x4 2 = true), k_113 x4 x6 x7 x8 x9 x10 σ = some q → fx_E none 99 d 113 [o0, o1, o2, o3, some (.ref x4), o5, some (.int x6), some (.int x7), some (.int x8), some (.int x9), some (.int x10), o11] [] σ (some (.int q.1)) q.2) : ∀ (n : Nat) (x4 : Nat) (x6 : Int32) (x7 : Int32) (x8 : Int32) (x9 : Int32) (x10 : Int32) (x11 : Int32) (o0 : Option Value) (o1 : Option Value) (o2 : Option Value) (o3 : Option Value) (o5 : Option Value) (σ : fx_S) (q : Int32 × fx_S) (g4 : fx_oc x4 2 = true), fm_99_124 k_113 n x4 x6 x7 x8 x9 x10 x11 σ = some q → fx_E none 99 d 124 [o0, o1, o2, o3, some (.ref x4), o5, some (.int x6), some (.int x7), some (.int x8), some (.int x9), some (.int x10), some (.int x11)] [] σ (some (.int q.1)) q.2 := by
  intro n
  induction n with
  | zero =>
    intro x4 x6 x7 x8 x9 x10 x11 o0 o1 o2 o3 o5 σ q g4 h
    rw [fm_99_124] at h
    exact fx_no h
  | succ n ih =>
    intro x4 x6 x7 x8 x9 x10 x11 o0 o1 o2 o3 o5 σ q g4 h
    rw [fm_99_124] at h
    refine fs_iload (k := 11) (p := 126) (by decide +kernel) rfl rfl ?_
    refine fs_iload (k := 8) (p := 128) (by decide +kernel) rfl rfl ?_
    by_cases c3 : x8 < x11
    · rw [if_pos c3] at h
      refine fs_icmp_gt_t (off := 31) (t := 159) (by decide +kernel) (by decide +kernel) c3 ?_
      refine fs_iinc (k := 10) (n := 1) (p := 162) (M := 12) (al' := [o0, o1, o2, o3, some (.ref x4), o5, some (.int x6), some (.int x7), some (.int x8), some (.int x9), some (.int (x10 + (1 : Int32))), some (.int x11)]) (by decide +kernel) rfl kc_1 mx_99 rfl rfl rfl ?_
      refine fs_goto (off := -49) (p := 113) (by decide +kernel) (by decide +kernel) ?_
      exact hk_113 _ _ _ _ _ _ _ _ _ _ _ _ _ _ g4 h
    · rw [if_neg c3] at h
      refine fs_icmp_gt_f (off := 31) (t := 159) (p := 131) (by decide +kernel) (by decide +kernel) rfl c3 ?_
      refine fs_iload (k := 9) (p := 133) (by decide +kernel) rfl rfl ?_
      refine fs_aload (k := 4) (p := 135) (by decide +kernel) rfl rfl ?_
      refine fs_gfr (idx := 202) (ci := 2) (j := 2) (p := 138) (by decide +kernel) rfl (by decide +kernel) g4 (fr_2_2 g4) ?_
      refine fs_gfr (idx := 218) (ci := 7) (j := 7) (p := 141) (by decide +kernel) rfl (by decide +kernel) (fg_2_2 g4) (fr_7_7 (fg_2_2 g4)) ?_
      refine fs_iload (k := 10) (p := 143) (by decide +kernel) rfl rfl ?_
      refine fs_bipush (n := 9) (p := 145) (by decide +kernel) rfl kb_9 ?_
      refine fs_imul (p := 146) (by decide +kernel) rfl ?_
      refine fs_iload (k := 11) (p := 148) (by decide +kernel) rfl rfl ?_
      refine fs_iadd (p := 149) (by decide +kernel) rfl ?_
      obtain ⟨v4, w5, h⟩ := fx_bd h
      refine fs_iaload (p := 150) (by decide +kernel) rfl w5 ?_
      refine fs_iadd (p := 151) (by decide +kernel) rfl ?_
      refine fs_istore (k := 9) (p := 153) (M := 12) (al' := [o0, o1, o2, o3, some (.ref x4), o5, some (.int x6), some (.int x7), some (.int x8), some (.int (x9 + v4)), some (.int x10), some (.int x11)]) (by decide +kernel) rfl mx_99 rfl rfl ?_
      refine fs_iinc (k := 11) (n := 1) (p := 156) (M := 12) (al' := [o0, o1, o2, o3, some (.ref x4), o5, some (.int x6), some (.int x7), some (.int x8), some (.int (x9 + v4)), some (.int x10), some (.int (x11 + (1 : Int32)))]) (by decide +kernel) rfl kc_1 mx_99 rfl rfl rfl ?_
      refine fs_goto (off := -32) (p := 124) (by decide +kernel) (by decide +kernel) ?_
      exact ih _ _ _ _ _ _ _ _ _ _ _ _ _ _ g4 h
def fm_99_113 : Nat → Nat → Int32 → Int32 → Int32 → Int32 → Int32 → fx_S → Option (Int32 × fx_S)
  | 0, _, _, _, _, _, _, _ => none
  | n + 1, x4, x6, x7, x8, x9, x10, σ =>
    if x6 < x10 then (
      some (x9, σ)) else (
      fm_99_124 (fm_99_113 n) 100000 x4 x6 x7 x8 x9 x10 x7 σ)
theorem fe_99_113 {d : Nat} (hd : 6 ≤ d) : ∀ (n : Nat) (x4 : Nat) (x6 : Int32) (x7 : Int32) (x8 : Int32) (x9 : Int32) (x10 : Int32) (o0 : Option Value) (o1 : Option Value) (o2 : Option Value) (o3 : Option Value) (o5 : Option Value) (o11 : Option Value) (σ : fx_S) (q : Int32 × fx_S) (g4 : fx_oc x4 2 = true), fm_99_113 n x4 x6 x7 x8 x9 x10 σ = some q → fx_E none 99 d 113 [o0, o1, o2, o3, some (.ref x4), o5, some (.int x6), some (.int x7), some (.int x8), some (.int x9), some (.int x10), o11] [] σ (some (.int q.1)) q.2 := by
  intro n
  induction n with
  | zero =>
    intro x4 x6 x7 x8 x9 x10 o0 o1 o2 o3 o5 o11 σ q g4 h
    rw [fm_99_113] at h
    exact fx_no h
  | succ n ih =>
    intro x4 x6 x7 x8 x9 x10 o0 o1 o2 o3 o5 o11 σ q g4 h
    rw [fm_99_113] at h
    refine fs_iload (k := 10) (p := 115) (by decide +kernel) rfl rfl ?_
    refine fs_iload (k := 6) (p := 117) (by decide +kernel) rfl rfl ?_
    by_cases c3 : x6 < x10
    · rw [if_pos c3] at h
      refine fs_icmp_gt_t (off := 48) (t := 165) (by decide +kernel) (by decide +kernel) c3 ?_
      refine fs_iload (k := 9) (p := 167) (by decide +kernel) rfl rfl ?_
      have h := Option.some.inj h
      subst h
      exact fs_iret (by decide +kernel) rt_99
    · rw [if_neg c3] at h
      refine fs_icmp_gt_f (off := 48) (t := 165) (p := 120) (by decide +kernel) (by decide +kernel) rfl c3 ?_
      refine fs_iload (k := 7) (p := 122) (by decide +kernel) rfl rfl ?_
      refine fs_istore (k := 11) (p := 124) (M := 12) (al' := [o0, o1, o2, o3, some (.ref x4), o5, some (.int x6), some (.int x7), some (.int x8), some (.int x9), some (.int x10), some (.int x7)]) (by decide +kernel) rfl mx_99 rfl rfl ?_
      exact fe_99_124 hd ih 100000 _ _ _ _ _ _ _ _ _ _ _ _ _ _ g4 h
def fm_99_104 (x4 : Nat) (x5 : Int32) (x6 : Int32) (x7 : Int32) (s0 : Int32) (σ : fx_S) : Option (Int32 × fx_S) :=
  fm_99_113 100000 x4 x6 x7 s0 (0 : Int32) x5 σ
theorem fe_99_104 {d : Nat} (hd : 6 ≤ d) (x4 : Nat) (x5 : Int32) (x6 : Int32) (x7 : Int32) (s0 : Int32) (o0 : Option Value) (o1 : Option Value) (o2 : Option Value) (o3 : Option Value) (σ : fx_S) (q : Int32 × fx_S) (g4 : fx_oc x4 2 = true) (h : fm_99_104  x4 x5 x6 x7 s0 σ = some q) : fx_E none 99 d 104 [o0, o1, o2, o3, some (.ref x4), some (.int x5), some (.int x6), some (.int x7), none, none, none, none] [.int s0] σ (some (.int q.1)) q.2 := by
  unfold fm_99_104 at h
  refine fs_istore (k := 8) (p := 106) (M := 12) (al' := [o0, o1, o2, o3, some (.ref x4), some (.int x5), some (.int x6), some (.int x7), some (.int s0), none, none, none]) (by decide +kernel) rfl mx_99 rfl rfl ?_
  refine fs_iconst (n := 0) (p := 107) (by decide +kernel) rfl kc_0 ?_
  refine fs_istore (k := 9) (p := 109) (M := 12) (al' := [o0, o1, o2, o3, some (.ref x4), some (.int x5), some (.int x6), some (.int x7), some (.int s0), some (.int (0 : Int32)), none, none]) (by decide +kernel) rfl mx_99 rfl rfl ?_
  refine fs_iload (k := 5) (p := 111) (by decide +kernel) rfl rfl ?_
  refine fs_istore (k := 10) (p := 113) (M := 12) (al' := [o0, o1, o2, o3, some (.ref x4), some (.int x5), some (.int x6), some (.int x7), some (.int s0), some (.int (0 : Int32)), some (.int x5), none]) (by decide +kernel) rfl mx_99 rfl rfl ?_
  exact fe_99_113 hd 100000 _ _ _ _ _ _ _ _ _ _ _ _ _ _ g4 h
def fm_99_91 (x3 : Int32) (x4 : Nat) (x5 : Int32) (x6 : Int32) (s0 : Int32) (σ : fx_S) : Option (Int32 × fx_S) :=
  if ¬ x3 = (-1 : Int32) then (
    fm_99_104 x4 x5 x6 s0 x3 σ) else (
    fm_99_104 x4 x5 x6 s0 (8 : Int32) σ)
theorem fe_99_91 {d : Nat} (hd : 6 ≤ d) (x3 : Int32) (x4 : Nat) (x5 : Int32) (x6 : Int32) (s0 : Int32) (o0 : Option Value) (o1 : Option Value) (o2 : Option Value) (σ : fx_S) (q : Int32 × fx_S) (g4 : fx_oc x4 2 = true) (h : fm_99_91  x3 x4 x5 x6 s0 σ = some q) : fx_E none 99 d 91 [o0, o1, o2, some (.int x3), some (.ref x4), some (.int x5), some (.int x6), none, none, none, none, none] [.int s0] σ (some (.int q.1)) q.2 := by
  unfold fm_99_91 at h
  refine fs_istore (k := 7) (p := 93) (M := 12) (al' := [o0, o1, o2, some (.int x3), some (.ref x4), some (.int x5), some (.int x6), some (.int s0), none, none, none, none]) (by decide +kernel) rfl mx_99 rfl rfl ?_
  refine fs_iload_n (k := 3) (p := 94) (by decide +kernel) rfl rfl ?_
  refine fs_iconst (n := -1) (p := 95) (by decide +kernel) rfl kc_m1 ?_
  by_cases c2 : ¬ x3 = (-1 : Int32)
  · rw [if_pos c2] at h
    refine fs_icmp_ne_t (off := 8) (t := 103) (by decide +kernel) (by decide +kernel) c2 ?_
    refine fs_iload_n (k := 3) (p := 104) (by decide +kernel) rfl rfl ?_
    exact fe_99_104 hd _ _ _ _ _ _ _ _ _ _ _ g4 h
  · rw [if_neg c2] at h
    refine fs_icmp_ne_f (off := 8) (t := 103) (p := 98) (by decide +kernel) (by decide +kernel) rfl c2 ?_
    refine fs_bipush (n := 8) (p := 100) (by decide +kernel) rfl kb_8 ?_
    refine fs_goto (off := 4) (p := 104) (by decide +kernel) (by decide +kernel) ?_
    exact fe_99_104 hd _ _ _ _ _ _ _ _ _ _ _ g4 h
def fm_99_79 (x3 : Int32) (x4 : Nat) (x5 : Int32) (s0 : Int32) (σ : fx_S) : Option (Int32 × fx_S) :=
  if ¬ x3 = (-1 : Int32) then (
    fm_99_91 x3 x4 x5 s0 x3 σ) else (
    fm_99_91 x3 x4 x5 s0 (0 : Int32) σ)
theorem fe_99_79 {d : Nat} (hd : 6 ≤ d) (x3 : Int32) (x4 : Nat) (x5 : Int32) (s0 : Int32) (o0 : Option Value) (o1 : Option Value) (o2 : Option Value) (σ : fx_S) (q : Int32 × fx_S) (g4 : fx_oc x4 2 = true) (h : fm_99_79  x3 x4 x5 s0 σ = some q) : fx_E none 99 d 79 [o0, o1, o2, some (.int x3), some (.ref x4), some (.int x5), none, none, none, none, none, none] [.int s0] σ (some (.int q.1)) q.2 := by
  unfold fm_99_79 at h
  refine fs_istore (k := 6) (p := 81) (M := 12) (al' := [o0, o1, o2, some (.int x3), some (.ref x4), some (.int x5), some (.int s0), none, none, none, none, none]) (by decide +kernel) rfl mx_99 rfl rfl ?_
  refine fs_iload_n (k := 3) (p := 82) (by decide +kernel) rfl rfl ?_
  refine fs_iconst (n := -1) (p := 83) (by decide +kernel) rfl kc_m1 ?_
  by_cases c2 : ¬ x3 = (-1 : Int32)
  · rw [if_pos c2] at h
    refine fs_icmp_ne_t (off := 7) (t := 90) (by decide +kernel) (by decide +kernel) c2 ?_
    refine fs_iload_n (k := 3) (p := 91) (by decide +kernel) rfl rfl ?_
    exact fe_99_91 hd _ _ _ _ _ _ _ _ _ _ g4 h
  · rw [if_neg c2] at h
    refine fs_icmp_ne_f (off := 7) (t := 90) (p := 86) (by decide +kernel) (by decide +kernel) rfl c2 ?_
    refine fs_iconst (n := 0) (p := 87) (by decide +kernel) rfl kc_0 ?_
    refine fs_goto (off := 4) (p := 91) (by decide +kernel) (by decide +kernel) ?_
    exact fe_99_91 hd _ _ _ _ _ _ _ _ _ _ g4 h
def fm_99_66 (x2 : Int32) (x3 : Int32) (x4 : Nat) (s0 : Int32) (σ : fx_S) : Option (Int32 × fx_S) :=
  if ¬ x2 = (-1 : Int32) then (
    fm_99_79 x3 x4 s0 x2 σ) else (
    fm_99_79 x3 x4 s0 (7 : Int32) σ)
theorem fe_99_66 {d : Nat} (hd : 6 ≤ d) (x2 : Int32) (x3 : Int32) (x4 : Nat) (s0 : Int32) (o0 : Option Value) (o1 : Option Value) (σ : fx_S) (q : Int32 × fx_S) (g4 : fx_oc x4 2 = true) (h : fm_99_66  x2 x3 x4 s0 σ = some q) : fx_E none 99 d 66 [o0, o1, some (.int x2), some (.int x3), some (.ref x4), none, none, none, none, none, none, none] [.int s0] σ (some (.int q.1)) q.2 := by
  unfold fm_99_66 at h
  refine fs_istore (k := 5) (p := 68) (M := 12) (al' := [o0, o1, some (.int x2), some (.int x3), some (.ref x4), some (.int s0), none, none, none, none, none, none]) (by decide +kernel) rfl mx_99 rfl rfl ?_
  refine fs_iload_n (k := 2) (p := 69) (by decide +kernel) rfl rfl ?_
  refine fs_iconst (n := -1) (p := 70) (by decide +kernel) rfl kc_m1 ?_
  by_cases c2 : ¬ x2 = (-1 : Int32)
  · rw [if_pos c2] at h
    refine fs_icmp_ne_t (off := 8) (t := 78) (by decide +kernel) (by decide +kernel) c2 ?_
    refine fs_iload_n (k := 2) (p := 79) (by decide +kernel) rfl rfl ?_
    exact fe_99_79 hd _ _ _ _ _ _ _ _ _ g4 h
  · rw [if_neg c2] at h
    refine fs_icmp_ne_f (off := 8) (t := 78) (p := 73) (by decide +kernel) (by decide +kernel) rfl c2 ?_
    refine fs_bipush (n := 7) (p := 75) (by decide +kernel) rfl kb_7 ?_
    refine fs_goto (off := 4) (p := 79) (by decide +kernel) (by decide +kernel) ?_
    exact fe_99_79 hd _ _ _ _ _ _ _ _ _ g4 h
def fm_99 (x1 : Int32) (x2 : Int32) (x3 : Int32) (σ : fx_S) : Option (Int32 × fx_S) :=
  (fm_114 x1 σ).bind fun q39 =>
  if (fx_b q39.1) = 0 then (
    some ((-1 : Int32), q39.2)) else (
    (fm_57 1 q39.2).bind fun q42 =>
    if (fx_b q42.1) = 0 then (
      some ((-1 : Int32), q42.2)) else (
      if x2 < (-1 : Int32) then (
        some ((-1 : Int32), q42.2)) else (
        if (8 : Int32) ≤ x2 then (
          some ((-1 : Int32), q42.2)) else (
          if x3 < (-1 : Int32) then (
            some ((-1 : Int32), q42.2)) else (
            if x3 ≤ (8 : Int32) then (
              (fx_ldr 4 70 x1).bind fun v50 =>
              (fm_19 v50 (2 : Int32) q42.2).bind fun q55 =>
              if ¬ x2 = (-1 : Int32) then (
                fm_99_66 x2 x3 v50 x2 q55) else (
                fm_99_66 x2 x3 v50 (0 : Int32) q55)) else (
              some ((-1 : Int32), q42.2)))))))
theorem fe_99 {d : Nat} (hd : 6 ≤ d) {x1 : Int32} {x2 : Int32} {x3 : Int32} {σ : fx_S} {q : Int32 × fx_S} (h : fm_99 x1 x2 x3 σ = some q) : fx_E none 99 d 0 [some (.ref 0), some (.int x1), some (.int x2), some (.int x3), none, none, none, none, none, none, none, none] [] σ (some (.int q.1)) q.2 := by
  unfold fm_99 at h
  refine fs_iload_n (k := 1) (p := 1) (by decide +kernel) rfl rfl ?_
  obtain ⟨q39, w38, h⟩ := fx_bd h
  refine fs_callS (idx := 94) (mj := 114) (na := 1) (mx := 1) (p := 4) (args := [.int x1]) (rest := []) (al2 := [some (.int x1)]) (by decide +kernel) rfl (by decide +kernel) rfl rfl rfl rfl rfl rfl rfl (by omega) (fun d' hd' => fe_114 (by omega) w38) rfl ?_
  by_cases c40 : (fx_b q39.1) = 0
  · rw [if_pos c40] at h
    refine fs_if_eq_t (off := 35) (t := 39) (by decide +kernel) (by decide +kernel) c40 ?_
    refine fs_iconst (n := -1) (p := 40) (by decide +kernel) rfl kc_m1 ?_
    have h := Option.some.inj h
    subst h
    exact fs_iret (by decide +kernel) rt_99
  · rw [if_neg c40] at h
    refine fs_if_eq_f (off := 35) (t := 39) (p := 7) (by decide +kernel) (by decide +kernel) rfl c40 ?_
    refine fs_aload_n (k := 0) (p := 8) (by decide +kernel) rfl rfl ?_
    refine fs_gfr (idx := 13) (ci := 9) (j := 1) (p := 11) (by decide +kernel) rfl (by decide +kernel) fo_0 (fr_a0_1) ?_
    obtain ⟨q42, w41, h⟩ := fx_bd h
    refine fs_callV (idx := 146) (mj := 57) (ci := 6) (na := 0) (mx := 1) (p := 14) (args := [.ref 1]) (rest := []) (al2 := [some (.ref 1)]) (by decide +kernel) rfl (by decide +kernel) fo_1 rfl rfl rfl rfl rfl rfl rfl (by omega) (fun d' hd' => fe_57 (by omega) w41) rfl ?_
    by_cases c43 : (fx_b q42.1) = 0
    · rw [if_pos c43] at h
      refine fs_if_eq_t (off := 25) (t := 39) (by decide +kernel) (by decide +kernel) c43 ?_
      refine fs_iconst (n := -1) (p := 40) (by decide +kernel) rfl kc_m1 ?_
      have h := Option.some.inj h
      subst h
      exact fs_iret (by decide +kernel) rt_99
    · rw [if_neg c43] at h
      refine fs_if_eq_f (off := 25) (t := 39) (p := 17) (by decide +kernel) (by decide +kernel) rfl c43 ?_
      refine fs_iload_n (k := 2) (p := 18) (by decide +kernel) rfl rfl ?_
      refine fs_iconst (n := -1) (p := 19) (by decide +kernel) rfl kc_m1 ?_
      by_cases c45 : x2 < (-1 : Int32)
      · rw [if_pos c45] at h
        refine fs_icmp_lt_t (off := 20) (t := 39) (by decide +kernel) (by decide +kernel) c45 ?_
        refine fs_iconst (n := -1) (p := 40) (by decide +kernel) rfl kc_m1 ?_
        have h := Option.some.inj h
        subst h
        exact fs_iret (by decide +kernel) rt_99
      · rw [if_neg c45] at h
        refine fs_icmp_lt_f (off := 20) (t := 39) (p := 22) (by decide +kernel) (by decide +kernel) rfl c45 ?_
        refine fs_iload_n (k := 2) (p := 23) (by decide +kernel) rfl rfl ?_
        refine fs_bipush (n := 8) (p := 25) (by decide +kernel) rfl kb_8 ?_
        by_cases c46 : (8 : Int32) ≤ x2
        · rw [if_pos c46] at h
          refine fs_icmp_ge_t (off := 14) (t := 39) (by decide +kernel) (by decide +kernel) c46 ?_
          refine fs_iconst (n := -1) (p := 40) (by decide +kernel) rfl kc_m1 ?_
          have h := Option.some.inj h
          subst h
          exact fs_iret (by decide +kernel) rt_99
        · rw [if_neg c46] at h
          refine fs_icmp_ge_f (off := 14) (t := 39) (p := 28) (by decide +kernel) (by decide +kernel) rfl c46 ?_
          refine fs_iload_n (k := 3) (p := 29) (by decide +kernel) rfl rfl ?_
          refine fs_iconst (n := -1) (p := 30) (by decide +kernel) rfl kc_m1 ?_
          by_cases c48 : x3 < (-1 : Int32)
          · rw [if_pos c48] at h
            refine fs_icmp_lt_t (off := 9) (t := 39) (by decide +kernel) (by decide +kernel) c48 ?_
            refine fs_iconst (n := -1) (p := 40) (by decide +kernel) rfl kc_m1 ?_
            have h := Option.some.inj h
            subst h
            exact fs_iret (by decide +kernel) rt_99
          · rw [if_neg c48] at h
            refine fs_icmp_lt_f (off := 9) (t := 39) (p := 33) (by decide +kernel) (by decide +kernel) rfl c48 ?_
            refine fs_iload_n (k := 3) (p := 34) (by decide +kernel) rfl rfl ?_
            refine fs_bipush (n := 8) (p := 36) (by decide +kernel) rfl kb_8 ?_
            by_cases c49 : x3 ≤ (8 : Int32)
            · rw [if_pos c49] at h
              refine fs_icmp_le_t (off := 5) (t := 41) (by decide +kernel) (by decide +kernel) c49 ?_
              refine fs_aload_n (k := 0) (p := 42) (by decide +kernel) rfl rfl ?_
              refine fs_gfr (idx := 60) (ci := 9) (j := 6) (p := 45) (by decide +kernel) rfl (by decide +kernel) fo_0 (fr_a0_6) ?_
              refine fs_iload_n (k := 1) (p := 46) (by decide +kernel) rfl rfl ?_
              obtain ⟨v50, w51, h⟩ := fx_bd h
              have g52 := fa_70 w51
              refine fs_aaload (t := 4) (p := 47) (by decide +kernel) rfl (by decide +kernel) w51 ?_
              refine fs_astore (k := 4) (p := 49) (M := 12) (al' := [some (.ref 0), some (.int x1), some (.int x2), some (.int x3), some (.ref v50), none, none, none, none, none, none, none]) (by decide +kernel) rfl mx_99 rfl rfl ?_
              refine fs_aload (k := 4) (p := 51) (by decide +kernel) rfl rfl ?_
              refine fs_iconst (n := 2) (p := 52) (by decide +kernel) rfl kc_2 ?_
              obtain ⟨q55, w54, h⟩ := fx_bd h
              refine fs_callV (idx := 150) (mj := 19) (ci := 2) (na := 1) (mx := 2) (p := 55) (args := [.ref v50, .int (2 : Int32)]) (rest := []) (al2 := [some (.ref v50), some (.int (2 : Int32))]) (by decide +kernel) rfl (by decide +kernel) g52 rfl rfl rfl rfl rfl rfl rfl (by omega) (fun d' hd' => fe_19 (by omega) w54) rfl ?_
              refine fs_pop (p := 56) (by decide +kernel) rfl rfl ?_
              refine fs_iload_n (k := 2) (p := 57) (by decide +kernel) rfl rfl ?_
              refine fs_iconst (n := -1) (p := 58) (by decide +kernel) rfl kc_m1 ?_
              by_cases c56 : ¬ x2 = (-1 : Int32)
              · rw [if_pos c56] at h
                refine fs_icmp_ne_t (off := 7) (t := 65) (by decide +kernel) (by decide +kernel) c56 ?_
                refine fs_iload_n (k := 2) (p := 66) (by decide +kernel) rfl rfl ?_
                exact fe_99_66 hd _ _ _ _ _ _ _ _ g52 h
              · rw [if_neg c56] at h
                refine fs_icmp_ne_f (off := 7) (t := 65) (p := 61) (by decide +kernel) (by decide +kernel) rfl c56 ?_
                refine fs_iconst (n := 0) (p := 62) (by decide +kernel) rfl kc_0 ?_
                refine fs_goto (off := 4) (p := 66) (by decide +kernel) (by decide +kernel) ?_
                exact fe_99_66 hd _ _ _ _ _ _ _ _ g52 h
            · rw [if_neg c49] at h
              refine fs_icmp_le_f (off := 5) (t := 41) (p := 39) (by decide +kernel) (by decide +kernel) rfl c49 ?_
              refine fs_iconst (n := -1) (p := 40) (by decide +kernel) rfl kc_m1 ?_
              have h := Option.some.inj h
              subst h
              exact fs_iret (by decide +kernel) rt_99

/-! ZoneShares.exact(III)J -/
theorem mx_100 : iv_mx 100 = 9 := by decide +kernel
theorem rt_100 : iv_rt 100 = some .long := by decide +kernel
def fm_100_18 (σ : fx_S) : Option (Int64 × fx_S) :=
  some ((-1 : Int64), σ)
theorem fe_100_18 {d : Nat} (hd : 6 ≤ d) (o0 : Option Value) (o1 : Option Value) (o2 : Option Value) (o3 : Option Value) (σ : fx_S) (q : Int64 × fx_S) (h : fm_100_18  σ = some q) : fx_E none 100 d 18 [o0, o1, o2, o3, none, none, none, none, none] [] σ (some (.long q.1)) q.2 := by
  unfold fm_100_18 at h
  refine fs_ldc2 (idx := 221) (p := 21) (x := -1) (by decide +kernel) rfl (by decide +kernel) ?_
  have h := Option.some.inj h
  subst h
  exact fs_lret (by decide +kernel) rt_100
def fm_100 (x1 : Int32) (x2 : Int32) (x3 : Int32) (σ : fx_S) : Option (Int64 × fx_S) :=
  (fm_118 x1 x2 σ).bind fun q30 =>
  if (fx_b q30.1) = 0 then (
    fm_100_18 q30.2) else (
    if x3 < 0 then (
      fm_100_18 q30.2) else (
      if x3 ≤ (2 : Int32) then (
        (fx_ldr 4 70 x1).bind fun v35 =>
        (fm_19 v35 (2 : Int32) q30.2).bind fun q40 =>
        (fm_78 (v35 + 3) q40).bind fun q42 =>
        if (0 : Int64) < q42.1 then (
          (fm_79 (v35 + 3) x2 q42.1 q42.2).bind fun q46 =>
          if ¬ x3 = 0 then (
            if ¬ q42.1 = 0 then (
            (fm_127 (q46.1 - q46.1 / q42.1 * q42.1) q42.1 (x3 - (1 : Int32)) q46.2).bind fun q51 =>
            some (q51.1, q51.2)) else none) else (
            (fm_77 (v35 + 3) x2 q46.2).bind fun q53 =>
            if ¬ q42.1 = 0 then (
            some (((q53.1).toInt64 + (q46.1 / q42.1)), q53.2)) else none)) else (
          some ((-1 : Int64), q42.2))) else (
        fm_100_18 q30.2)))
theorem fe_100 {d : Nat} (hd : 6 ≤ d) {x1 : Int32} {x2 : Int32} {x3 : Int32} {σ : fx_S} {q : Int64 × fx_S} (h : fm_100 x1 x2 x3 σ = some q) : fx_E none 100 d 0 [some (.ref 0), some (.int x1), some (.int x2), some (.int x3), none, none, none, none, none] [] σ (some (.long q.1)) q.2 := by
  unfold fm_100 at h
  refine fs_aload_n (k := 0) (p := 1) (by decide +kernel) rfl rfl ?_
  refine fs_iload_n (k := 1) (p := 2) (by decide +kernel) rfl rfl ?_
  refine fs_iload_n (k := 2) (p := 3) (by decide +kernel) rfl rfl ?_
  obtain ⟨q30, w29, h⟩ := fx_bd h
  refine fs_callV (idx := 199) (mj := 118) (ci := 9) (na := 2) (mx := 3) (p := 6) (args := [.ref 0, .int x1, .int x2]) (rest := []) (al2 := [some (.ref 0), some (.int x1), some (.int x2)]) (by decide +kernel) rfl (by decide +kernel) fo_0 rfl rfl rfl rfl rfl rfl rfl (by omega) (fun d' hd' => fe_118 (by omega) w29) rfl ?_
  by_cases c31 : (fx_b q30.1) = 0
  · rw [if_pos c31] at h
    refine fs_if_eq_t (off := 12) (t := 18) (by decide +kernel) (by decide +kernel) c31 ?_
    exact fe_100_18 hd _ _ _ _ _ _ h
  · rw [if_neg c31] at h
    refine fs_if_eq_f (off := 12) (t := 18) (p := 9) (by decide +kernel) (by decide +kernel) rfl c31 ?_
    refine fs_iload_n (k := 3) (p := 10) (by decide +kernel) rfl rfl ?_
    by_cases c33 : x3 < 0
    · rw [if_pos c33] at h
      refine fs_if_lt_t (off := 8) (t := 18) (by decide +kernel) (by decide +kernel) c33 ?_
      exact fe_100_18 hd _ _ _ _ _ _ h
    · rw [if_neg c33] at h
      refine fs_if_lt_f (off := 8) (t := 18) (p := 13) (by decide +kernel) (by decide +kernel) rfl c33 ?_
      refine fs_iload_n (k := 3) (p := 14) (by decide +kernel) rfl rfl ?_
      refine fs_iconst (n := 2) (p := 15) (by decide +kernel) rfl kc_2 ?_
      by_cases c34 : x3 ≤ (2 : Int32)
      · rw [if_pos c34] at h
        refine fs_icmp_le_t (off := 7) (t := 22) (by decide +kernel) (by decide +kernel) c34 ?_
        refine fs_aload_n (k := 0) (p := 23) (by decide +kernel) rfl rfl ?_
        refine fs_gfr (idx := 60) (ci := 9) (j := 6) (p := 26) (by decide +kernel) rfl (by decide +kernel) fo_0 (fr_a0_6) ?_
        refine fs_iload_n (k := 1) (p := 27) (by decide +kernel) rfl rfl ?_
        obtain ⟨v35, w36, h⟩ := fx_bd h
        have g37 := fa_70 w36
        refine fs_aaload (t := 4) (p := 28) (by decide +kernel) rfl (by decide +kernel) w36 ?_
        refine fs_iconst (n := 2) (p := 29) (by decide +kernel) rfl kc_2 ?_
        obtain ⟨q40, w39, h⟩ := fx_bd h
        refine fs_callV (idx := 150) (mj := 19) (ci := 2) (na := 1) (mx := 2) (p := 32) (args := [.ref v35, .int (2 : Int32)]) (rest := []) (al2 := [some (.ref v35), some (.int (2 : Int32))]) (by decide +kernel) rfl (by decide +kernel) g37 rfl rfl rfl rfl rfl rfl rfl (by omega) (fun d' hd' => fe_19 (by omega) w39) rfl ?_
        refine fs_gfr (idx := 202) (ci := 2) (j := 2) (p := 35) (by decide +kernel) rfl (by decide +kernel) g37 (fr_2_2 g37) ?_
        refine fs_astore (k := 4) (p := 37) (M := 9) (al' := [some (.ref 0), some (.int x1), some (.int x2), some (.int x3), some (.ref (v35 + 3)), none, none, none, none]) (by decide +kernel) rfl mx_100 rfl rfl ?_
        refine fs_aload (k := 4) (p := 39) (by decide +kernel) rfl rfl ?_
        obtain ⟨q42, w41, h⟩ := fx_bd h
        refine fs_callV (idx := 223) (mj := 78) (ci := 7) (na := 0) (mx := 6) (p := 42) (args := [.ref (v35 + 3)]) (rest := []) (al2 := [some (.ref (v35 + 3)), none, none, none, none, none]) (by decide +kernel) rfl (by decide +kernel) (fg_2_2 g37) rfl rfl rfl rfl rfl rfl rfl (by omega) (fun d' hd' => fe_78 (by omega) w41) rfl ?_
        refine fs_lstore (k := 5) (p := 44) (M := 9) (al' := [some (.ref 0), some (.int x1), some (.int x2), some (.int x3), some (.ref (v35 + 3)), some (.long q42.1), none, none, none]) (by decide +kernel) rfl mx_100 rfl rfl ?_
        refine fs_lload (k := 5) (p := 46) (by decide +kernel) rfl rfl ?_
        refine fs_lconst (n := 0) (p := 47) (by decide +kernel) rfl kl_0 ?_
        by_cases c44 : (0 : Int64) < q42.1
        · rw [if_pos c44] at h
          refine fs_lcmp_gt_t (off := 7) (t := 55) (by decide +kernel) (by decide +kernel) (by decide +kernel) c44 ?_
          refine fs_aload (k := 4) (p := 57) (by decide +kernel) rfl rfl ?_
          refine fs_iload_n (k := 2) (p := 58) (by decide +kernel) rfl rfl ?_
          refine fs_lload (k := 5) (p := 60) (by decide +kernel) rfl rfl ?_
          obtain ⟨q46, w45, h⟩ := fx_bd h
          refine fs_callV (idx := 227) (mj := 79) (ci := 7) (na := 2) (mx := 7) (p := 63) (args := [.ref (v35 + 3), .int x2, .long q42.1]) (rest := []) (al2 := [some (.ref (v35 + 3)), some (.int x2), some (.long q42.1), none, none, none, none]) (by decide +kernel) rfl (by decide +kernel) (fg_2_2 g37) rfl rfl rfl rfl rfl rfl rfl (by omega) (fun d' hd' => fe_79 (by omega) w45) rfl ?_
          refine fs_lstore (k := 7) (p := 65) (M := 9) (al' := [some (.ref 0), some (.int x1), some (.int x2), some (.int x3), some (.ref (v35 + 3)), some (.long q42.1), none, some (.long q46.1), none]) (by decide +kernel) rfl mx_100 rfl rfl ?_
          refine fs_iload_n (k := 3) (p := 66) (by decide +kernel) rfl rfl ?_
          by_cases c47 : ¬ x3 = 0
          · rw [if_pos c47] at h
            refine fs_if_ne_t (off := 17) (t := 83) (by decide +kernel) (by decide +kernel) c47 ?_
            refine fs_lload (k := 7) (p := 85) (by decide +kernel) rfl rfl ?_
            refine fs_lload (k := 5) (p := 87) (by decide +kernel) rfl rfl ?_
            obtain ⟨z49, h⟩ := fx_gd h
            refine fs_lrem (p := 88) (by decide +kernel) rfl z49 ?_
            refine fs_lload (k := 5) (p := 90) (by decide +kernel) rfl rfl ?_
            refine fs_iload_n (k := 3) (p := 91) (by decide +kernel) rfl rfl ?_
            refine fs_iconst (n := 1) (p := 92) (by decide +kernel) rfl kc_1 ?_
            refine fs_isub (p := 93) (by decide +kernel) rfl ?_
            obtain ⟨q51, w50, h⟩ := fx_bd h
            refine fs_callS (idx := 214) (mj := 127) (na := 3) (mx := 7) (p := 96) (args := [.long (q46.1 - q46.1 / q42.1 * q42.1), .long q42.1, .int (x3 - (1 : Int32))]) (rest := []) (al2 := [some (.long (q46.1 - q46.1 / q42.1 * q42.1)), none, some (.long q42.1), none, some (.int (x3 - (1 : Int32))), none, none]) (by decide +kernel) rfl (by decide +kernel) rfl rfl rfl rfl rfl rfl rfl (by omega) (fun d' hd' => fe_127 (by omega) w50) rfl ?_
            have h := Option.some.inj h
            subst h
            exact fs_lret (by decide +kernel) rt_100
          · rw [if_neg c47] at h
            refine fs_if_ne_f (off := 17) (t := 83) (p := 69) (by decide +kernel) (by decide +kernel) rfl c47 ?_
            refine fs_aload (k := 4) (p := 71) (by decide +kernel) rfl rfl ?_
            refine fs_iload_n (k := 2) (p := 72) (by decide +kernel) rfl rfl ?_
            obtain ⟨q53, w52, h⟩ := fx_bd h
            refine fs_callV (idx := 231) (mj := 77) (ci := 7) (na := 1) (mx := 4) (p := 75) (args := [.ref (v35 + 3), .int x2]) (rest := []) (al2 := [some (.ref (v35 + 3)), some (.int x2), none, none]) (by decide +kernel) rfl (by decide +kernel) (fg_2_2 g37) rfl rfl rfl rfl rfl rfl rfl (by omega) (fun d' hd' => fe_77 (by omega) w52) rfl ?_
            refine fs_i2l (p := 76) (by decide +kernel) rfl ?_
            refine fs_lload (k := 7) (p := 78) (by decide +kernel) rfl rfl ?_
            refine fs_lload (k := 5) (p := 80) (by decide +kernel) rfl rfl ?_
            obtain ⟨z56, h⟩ := fx_gd h
            refine fs_ldiv (p := 81) (by decide +kernel) rfl z56 ?_
            refine fs_ladd (p := 82) (by decide +kernel) rfl ?_
            have h := Option.some.inj h
            subst h
            exact fs_lret (by decide +kernel) rt_100
        · rw [if_neg c44] at h
          refine fs_lcmp_gt_f (off := 7) (t := 55) (p := 51) (by decide +kernel) (by decide +kernel) (by decide +kernel) rfl c44 ?_
          refine fs_ldc2 (idx := 221) (p := 54) (x := -1) (by decide +kernel) rfl (by decide +kernel) ?_
          have h := Option.some.inj h
          subst h
          exact fs_lret (by decide +kernel) rt_100
      · rw [if_neg c34] at h
        refine fs_icmp_le_f (off := 7) (t := 22) (p := 18) (by decide +kernel) (by decide +kernel) rfl c34 ?_
        exact fe_100_18 hd _ _ _ _ _ _ h

/-! ZoneShares.coarse(III)I -/
theorem mx_101 : iv_mx 101 = 7 := by decide +kernel
theorem rt_101 : iv_rt 101 = some .int := by decide +kernel
def fm_101_115 (k_79 : Int32 → Nat → Int32 → Int32 → fx_S → Option (Int32 × fx_S)) (x2 : Int32) (x4 : Nat) (x5 : Int32) (x6 : Int32) (σ : fx_S) : Option (Int32 × fx_S) :=
  k_79 x2 x4 x5 (x6 + (1 : Int32)) σ
theorem fe_101_115 {d : Nat} (hd : 6 ≤ d) {k_79 : Int32 → Nat → Int32 → Int32 → fx_S → Option (Int32 × fx_S)} (hk_79 : ∀ (x2 : Int32) (x4 : Nat) (x5 : Int32) (x6 : Int32) (o1 : Option Value) (o3 : Option Value) (σ : fx_S) (q : Int32 × fx_S) (g4 : fx_oc x4 2 = true), k_79 x2 x4 x5 x6 σ = some q → fx_E none 101 d 79 [some (.ref 0), o1, some (.int x2), o3, some (.ref x4), some (.int x5), some (.int x6)] [] σ (some (.int q.1)) q.2) (x2 : Int32) (x4 : Nat) (x5 : Int32) (x6 : Int32) (o1 : Option Value) (o3 : Option Value) (σ : fx_S) (q : Int32 × fx_S) (g4 : fx_oc x4 2 = true) (h : fm_101_115 k_79  x2 x4 x5 x6 σ = some q) : fx_E none 101 d 115 [some (.ref 0), o1, some (.int x2), o3, some (.ref x4), some (.int x5), some (.int x6)] [] σ (some (.int q.1)) q.2 := by
  unfold fm_101_115 at h
  refine fs_iinc (k := 6) (n := 1) (p := 118) (M := 7) (al' := [some (.ref 0), o1, some (.int x2), o3, some (.ref x4), some (.int x5), some (.int (x6 + (1 : Int32)))]) (by decide +kernel) rfl kc_1 mx_101 rfl rfl rfl ?_
  refine fs_goto (off := -39) (p := 79) (by decide +kernel) (by decide +kernel) ?_
  exact hk_79 _ _ _ _ _ _ _ _ g4 h
def fm_101_79 : Nat → Int32 → Nat → Int32 → Int32 → fx_S → Option (Int32 × fx_S)
  | 0, _, _, _, _, _ => none
  | n + 1, x2, x4, x5, x6, σ =>
    if (8 : Int32) ≤ x6 then (
      some (x5, σ)) else (
      (fx_ld σ 5 x6).bind fun v3 =>
      if ¬ v3 = x2 then (
        fm_101_115 (fm_101_79 n) x2 x4 x5 x6 σ) else (
        (fm_76 (x4 + 3) x6 σ).bind fun q10 =>
        fm_101_115 (fm_101_79 n) x2 x4 (x5 + q10.1) x6 q10.2))
theorem fe_101_79 {d : Nat} (hd : 6 ≤ d) : ∀ (n : Nat) (x2 : Int32) (x4 : Nat) (x5 : Int32) (x6 : Int32) (o1 : Option Value) (o3 : Option Value) (σ : fx_S) (q : Int32 × fx_S) (g4 : fx_oc x4 2 = true), fm_101_79 n x2 x4 x5 x6 σ = some q → fx_E none 101 d 79 [some (.ref 0), o1, some (.int x2), o3, some (.ref x4), some (.int x5), some (.int x6)] [] σ (some (.int q.1)) q.2 := by
  intro n
  induction n with
  | zero =>
    intro x2 x4 x5 x6 o1 o3 σ q g4 h
    rw [fm_101_79] at h
    exact fx_no h
  | succ n ih =>
    intro x2 x4 x5 x6 o1 o3 σ q g4 h
    rw [fm_101_79] at h
    refine fs_iload (k := 6) (p := 81) (by decide +kernel) rfl rfl ?_
    refine fs_bipush (n := 8) (p := 83) (by decide +kernel) rfl kb_8 ?_
    by_cases c2 : (8 : Int32) ≤ x6
    · rw [if_pos c2] at h
      refine fs_icmp_ge_t (off := 38) (t := 121) (by decide +kernel) (by decide +kernel) c2 ?_
      refine fs_iload (k := 5) (p := 123) (by decide +kernel) rfl rfl ?_
      have h := Option.some.inj h
      subst h
      exact fs_iret (by decide +kernel) rt_101
    · rw [if_neg c2] at h
      refine fs_icmp_ge_f (off := 38) (t := 121) (p := 86) (by decide +kernel) (by decide +kernel) rfl c2 ?_
      refine fs_aload_n (k := 0) (p := 87) (by decide +kernel) rfl rfl ?_
      refine fs_gfr (idx := 13) (ci := 9) (j := 1) (p := 90) (by decide +kernel) rfl (by decide +kernel) fo_0 (fr_a0_1) ?_
      refine fs_gfr (idx := 134) (ci := 6) (j := 3) (p := 93) (by decide +kernel) rfl (by decide +kernel) fo_1 (fr_a1_3) ?_
      refine fs_iload (k := 6) (p := 95) (by decide +kernel) rfl rfl ?_
      obtain ⟨v3, w4, h⟩ := fx_bd h
      refine fs_iaload (p := 96) (by decide +kernel) rfl w4 ?_
      refine fs_iload_n (k := 2) (p := 97) (by decide +kernel) rfl rfl ?_
      by_cases c8 : ¬ v3 = x2
      · rw [if_pos c8] at h
        refine fs_icmp_ne_t (off := 18) (t := 115) (by decide +kernel) (by decide +kernel) c8 ?_
        exact fe_101_115 hd ih _ _ _ _ _ _ _ _ g4 h
      · rw [if_neg c8] at h
        refine fs_icmp_ne_f (off := 18) (t := 115) (p := 100) (by decide +kernel) (by decide +kernel) rfl c8 ?_
        refine fs_iload (k := 5) (p := 102) (by decide +kernel) rfl rfl ?_
        refine fs_aload (k := 4) (p := 104) (by decide +kernel) rfl rfl ?_
        refine fs_gfr (idx := 202) (ci := 2) (j := 2) (p := 107) (by decide +kernel) rfl (by decide +kernel) g4 (fr_2_2 g4) ?_
        refine fs_iload (k := 6) (p := 109) (by decide +kernel) rfl rfl ?_
        obtain ⟨q10, w9, h⟩ := fx_bd h
        refine fs_callV (idx := 237) (mj := 76) (ci := 7) (na := 1) (mx := 4) (p := 112) (args := [.ref (x4 + 3), .int x6]) (rest := [.int x5]) (al2 := [some (.ref (x4 + 3)), some (.int x6), none, none]) (by decide +kernel) rfl (by decide +kernel) (fg_2_2 g4) rfl rfl rfl rfl rfl rfl rfl (by omega) (fun d' hd' => fe_76 (by omega) w9) rfl ?_
        refine fs_iadd (p := 113) (by decide +kernel) rfl ?_
        refine fs_istore (k := 5) (p := 115) (M := 7) (al' := [some (.ref 0), o1, some (.int x2), o3, some (.ref x4), some (.int (x5 + q10.1)), some (.int x6)]) (by decide +kernel) rfl mx_101 rfl rfl ?_
        exact fe_101_115 hd ih _ _ _ _ _ _ _ _ g4 h
def fm_101 (x1 : Int32) (x2 : Int32) (x3 : Int32) (σ : fx_S) : Option (Int32 × fx_S) :=
  (fm_114 x1 σ).bind fun q35 =>
  if (fx_b q35.1) = 0 then (
    some ((-1 : Int32), q35.2)) else (
    (fm_57 1 q35.2).bind fun q38 =>
    if (fx_b q38.1) = 0 then (
      some ((-1 : Int32), q38.2)) else (
      (fm_117 x2 q38.2).bind fun q41 =>
      if (fx_b q41.1) = 0 then (
        some ((-1 : Int32), q41.2)) else (
        if x3 < 0 then (
          some ((-1 : Int32), q41.2)) else (
          if x3 ≤ (1 : Int32) then (
            (fx_ldr 4 70 x1).bind fun v46 =>
            if ¬ x3 = (1 : Int32) then (
              (fm_19 v46 (2 : Int32) q41.2).bind fun q52 =>
              fm_101_79 100000 x2 v46 (0 : Int32) (0 : Int32) q52) else (
              (fm_19 v46 (8 : Int32) q41.2).bind fun q54 =>
              (fm_76 (v46 + 21) x2 q54).bind fun q56 =>
              some (q56.1, q56.2))) else (
            some ((-1 : Int32), q41.2))))))
theorem fe_101 {d : Nat} (hd : 6 ≤ d) {x1 : Int32} {x2 : Int32} {x3 : Int32} {σ : fx_S} {q : Int32 × fx_S} (h : fm_101 x1 x2 x3 σ = some q) : fx_E none 101 d 0 [some (.ref 0), some (.int x1), some (.int x2), some (.int x3), none, none, none] [] σ (some (.int q.1)) q.2 := by
  unfold fm_101 at h
  refine fs_iload_n (k := 1) (p := 1) (by decide +kernel) rfl rfl ?_
  obtain ⟨q35, w34, h⟩ := fx_bd h
  refine fs_callS (idx := 94) (mj := 114) (na := 1) (mx := 1) (p := 4) (args := [.int x1]) (rest := []) (al2 := [some (.int x1)]) (by decide +kernel) rfl (by decide +kernel) rfl rfl rfl rfl rfl rfl rfl (by omega) (fun d' hd' => fe_114 (by omega) w34) rfl ?_
  by_cases c36 : (fx_b q35.1) = 0
  · rw [if_pos c36] at h
    refine fs_if_eq_t (off := 29) (t := 33) (by decide +kernel) (by decide +kernel) c36 ?_
    refine fs_iconst (n := -1) (p := 34) (by decide +kernel) rfl kc_m1 ?_
    have h := Option.some.inj h
    subst h
    exact fs_iret (by decide +kernel) rt_101
  · rw [if_neg c36] at h
    refine fs_if_eq_f (off := 29) (t := 33) (p := 7) (by decide +kernel) (by decide +kernel) rfl c36 ?_
    refine fs_aload_n (k := 0) (p := 8) (by decide +kernel) rfl rfl ?_
    refine fs_gfr (idx := 13) (ci := 9) (j := 1) (p := 11) (by decide +kernel) rfl (by decide +kernel) fo_0 (fr_a0_1) ?_
    obtain ⟨q38, w37, h⟩ := fx_bd h
    refine fs_callV (idx := 146) (mj := 57) (ci := 6) (na := 0) (mx := 1) (p := 14) (args := [.ref 1]) (rest := []) (al2 := [some (.ref 1)]) (by decide +kernel) rfl (by decide +kernel) fo_1 rfl rfl rfl rfl rfl rfl rfl (by omega) (fun d' hd' => fe_57 (by omega) w37) rfl ?_
    by_cases c39 : (fx_b q38.1) = 0
    · rw [if_pos c39] at h
      refine fs_if_eq_t (off := 19) (t := 33) (by decide +kernel) (by decide +kernel) c39 ?_
      refine fs_iconst (n := -1) (p := 34) (by decide +kernel) rfl kc_m1 ?_
      have h := Option.some.inj h
      subst h
      exact fs_iret (by decide +kernel) rt_101
    · rw [if_neg c39] at h
      refine fs_if_eq_f (off := 19) (t := 33) (p := 17) (by decide +kernel) (by decide +kernel) rfl c39 ?_
      refine fs_iload_n (k := 2) (p := 18) (by decide +kernel) rfl rfl ?_
      obtain ⟨q41, w40, h⟩ := fx_bd h
      refine fs_callS (idx := 131) (mj := 117) (na := 1) (mx := 1) (p := 21) (args := [.int x2]) (rest := []) (al2 := [some (.int x2)]) (by decide +kernel) rfl (by decide +kernel) rfl rfl rfl rfl rfl rfl rfl (by omega) (fun d' hd' => fe_117 (by omega) w40) rfl ?_
      by_cases c42 : (fx_b q41.1) = 0
      · rw [if_pos c42] at h
        refine fs_if_eq_t (off := 12) (t := 33) (by decide +kernel) (by decide +kernel) c42 ?_
        refine fs_iconst (n := -1) (p := 34) (by decide +kernel) rfl kc_m1 ?_
        have h := Option.some.inj h
        subst h
        exact fs_iret (by decide +kernel) rt_101
      · rw [if_neg c42] at h
        refine fs_if_eq_f (off := 12) (t := 33) (p := 24) (by decide +kernel) (by decide +kernel) rfl c42 ?_
        refine fs_iload_n (k := 3) (p := 25) (by decide +kernel) rfl rfl ?_
        by_cases c44 : x3 < 0
        · rw [if_pos c44] at h
          refine fs_if_lt_t (off := 8) (t := 33) (by decide +kernel) (by decide +kernel) c44 ?_
          refine fs_iconst (n := -1) (p := 34) (by decide +kernel) rfl kc_m1 ?_
          have h := Option.some.inj h
          subst h
          exact fs_iret (by decide +kernel) rt_101
        · rw [if_neg c44] at h
          refine fs_if_lt_f (off := 8) (t := 33) (p := 28) (by decide +kernel) (by decide +kernel) rfl c44 ?_
          refine fs_iload_n (k := 3) (p := 29) (by decide +kernel) rfl rfl ?_
          refine fs_iconst (n := 1) (p := 30) (by decide +kernel) rfl kc_1 ?_
          by_cases c45 : x3 ≤ (1 : Int32)
          · rw [if_pos c45] at h
            refine fs_icmp_le_t (off := 5) (t := 35) (by decide +kernel) (by decide +kernel) c45 ?_
            refine fs_aload_n (k := 0) (p := 36) (by decide +kernel) rfl rfl ?_
            refine fs_gfr (idx := 60) (ci := 9) (j := 6) (p := 39) (by decide +kernel) rfl (by decide +kernel) fo_0 (fr_a0_6) ?_
            refine fs_iload_n (k := 1) (p := 40) (by decide +kernel) rfl rfl ?_
            obtain ⟨v46, w47, h⟩ := fx_bd h
            have g48 := fa_70 w47
            refine fs_aaload (t := 4) (p := 41) (by decide +kernel) rfl (by decide +kernel) w47 ?_
            refine fs_astore (k := 4) (p := 43) (M := 7) (al' := [some (.ref 0), some (.int x1), some (.int x2), some (.int x3), some (.ref v46), none, none]) (by decide +kernel) rfl mx_101 rfl rfl ?_
            refine fs_iload_n (k := 3) (p := 44) (by decide +kernel) rfl rfl ?_
            refine fs_iconst (n := 1) (p := 45) (by decide +kernel) rfl kc_1 ?_
            by_cases c50 : ¬ x3 = (1 : Int32)
            · rw [if_pos c50] at h
              refine fs_icmp_ne_t (off := 21) (t := 66) (by decide +kernel) (by decide +kernel) c50 ?_
              refine fs_aload (k := 4) (p := 68) (by decide +kernel) rfl rfl ?_
              refine fs_iconst (n := 2) (p := 69) (by decide +kernel) rfl kc_2 ?_
              obtain ⟨q52, w51, h⟩ := fx_bd h
              refine fs_callV (idx := 150) (mj := 19) (ci := 2) (na := 1) (mx := 2) (p := 72) (args := [.ref v46, .int (2 : Int32)]) (rest := []) (al2 := [some (.ref v46), some (.int (2 : Int32))]) (by decide +kernel) rfl (by decide +kernel) g48 rfl rfl rfl rfl rfl rfl rfl (by omega) (fun d' hd' => fe_19 (by omega) w51) rfl ?_
              refine fs_pop (p := 73) (by decide +kernel) rfl rfl ?_
              refine fs_iconst (n := 0) (p := 74) (by decide +kernel) rfl kc_0 ?_
              refine fs_istore (k := 5) (p := 76) (M := 7) (al' := [some (.ref 0), some (.int x1), some (.int x2), some (.int x3), some (.ref v46), some (.int (0 : Int32)), none]) (by decide +kernel) rfl mx_101 rfl rfl ?_
              refine fs_iconst (n := 0) (p := 77) (by decide +kernel) rfl kc_0 ?_
              refine fs_istore (k := 6) (p := 79) (M := 7) (al' := [some (.ref 0), some (.int x1), some (.int x2), some (.int x3), some (.ref v46), some (.int (0 : Int32)), some (.int (0 : Int32))]) (by decide +kernel) rfl mx_101 rfl rfl ?_
              exact fe_101_79 hd 100000 _ _ _ _ _ _ _ _ g48 h
            · rw [if_neg c50] at h
              refine fs_icmp_ne_f (off := 21) (t := 66) (p := 48) (by decide +kernel) (by decide +kernel) rfl c50 ?_
              refine fs_aload (k := 4) (p := 50) (by decide +kernel) rfl rfl ?_
              refine fs_bipush (n := 8) (p := 52) (by decide +kernel) rfl kb_8 ?_
              obtain ⟨q54, w53, h⟩ := fx_bd h
              refine fs_callV (idx := 150) (mj := 19) (ci := 2) (na := 1) (mx := 2) (p := 55) (args := [.ref v46, .int (8 : Int32)]) (rest := []) (al2 := [some (.ref v46), some (.int (8 : Int32))]) (by decide +kernel) rfl (by decide +kernel) g48 rfl rfl rfl rfl rfl rfl rfl (by omega) (fun d' hd' => fe_19 (by omega) w53) rfl ?_
              refine fs_pop (p := 56) (by decide +kernel) rfl rfl ?_
              refine fs_aload (k := 4) (p := 58) (by decide +kernel) rfl rfl ?_
              refine fs_gfr (idx := 234) (ci := 2) (j := 4) (p := 61) (by decide +kernel) rfl (by decide +kernel) g48 (fr_2_4 g48) ?_
              refine fs_iload_n (k := 2) (p := 62) (by decide +kernel) rfl rfl ?_
              obtain ⟨q56, w55, h⟩ := fx_bd h
              refine fs_callV (idx := 237) (mj := 76) (ci := 7) (na := 1) (mx := 4) (p := 65) (args := [.ref (v46 + 21), .int x2]) (rest := []) (al2 := [some (.ref (v46 + 21)), some (.int x2), none, none]) (by decide +kernel) rfl (by decide +kernel) (fg_2_4 g48) rfl rfl rfl rfl rfl rfl rfl (by omega) (fun d' hd' => fe_76 (by omega) w55) rfl ?_
              have h := Option.some.inj h
              subst h
              exact fs_iret (by decide +kernel) rt_101
          · rw [if_neg c45] at h
            refine fs_icmp_le_f (off := 5) (t := 35) (p := 33) (by decide +kernel) (by decide +kernel) rfl c45 ?_
            refine fs_iconst (n := -1) (p := 34) (by decide +kernel) rfl kc_m1 ?_
            have h := Option.some.inj h
            subst h
            exact fs_iret (by decide +kernel) rt_101

/-! ZoneShares.byWay(II)I -/
theorem mx_103 : iv_mx 103 = 3 := by decide +kernel
theorem rt_103 : iv_rt 103 = some .int := by decide +kernel
def fm_103 (x1 : Int32) (x2 : Int32) (σ : fx_S) : Option (Int32 × fx_S) :=
  (fm_114 x1 σ).bind fun q19 =>
  if (fx_b q19.1) = 0 then (
    some ((-1 : Int32), q19.2)) else (
    (fm_115 x2 q19.2).bind fun q22 =>
    if (fx_b q22.1) = 0 then (
      some ((-1 : Int32), q22.2)) else (
      (fm_57 1 q22.2).bind fun q25 =>
      if ¬ (fx_b q25.1) = 0 then (
        (fx_ldr 4 70 x1).bind fun v27 =>
        (fm_19 v27 (16 : Int32) q25.2).bind fun q32 =>
        (fm_76 (v27 + 30) x2 q32).bind fun q34 =>
        some (q34.1, q34.2)) else (
        some ((-1 : Int32), q25.2))))
theorem fe_103 {d : Nat} (hd : 6 ≤ d) {x1 : Int32} {x2 : Int32} {σ : fx_S} {q : Int32 × fx_S} (h : fm_103 x1 x2 σ = some q) : fx_E none 103 d 0 [some (.ref 0), some (.int x1), some (.int x2)] [] σ (some (.int q.1)) q.2 := by
  unfold fm_103 at h
  refine fs_iload_n (k := 1) (p := 1) (by decide +kernel) rfl rfl ?_
  obtain ⟨q19, w18, h⟩ := fx_bd h
  refine fs_callS (idx := 94) (mj := 114) (na := 1) (mx := 1) (p := 4) (args := [.int x1]) (rest := []) (al2 := [some (.int x1)]) (by decide +kernel) rfl (by decide +kernel) rfl rfl rfl rfl rfl rfl rfl (by omega) (fun d' hd' => fe_114 (by omega) w18) rfl ?_
  by_cases c20 : (fx_b q19.1) = 0
  · rw [if_pos c20] at h
    refine fs_if_eq_t (off := 20) (t := 24) (by decide +kernel) (by decide +kernel) c20 ?_
    refine fs_iconst (n := -1) (p := 25) (by decide +kernel) rfl kc_m1 ?_
    have h := Option.some.inj h
    subst h
    exact fs_iret (by decide +kernel) rt_103
  · rw [if_neg c20] at h
    refine fs_if_eq_f (off := 20) (t := 24) (p := 7) (by decide +kernel) (by decide +kernel) rfl c20 ?_
    refine fs_iload_n (k := 2) (p := 8) (by decide +kernel) rfl rfl ?_
    obtain ⟨q22, w21, h⟩ := fx_bd h
    refine fs_callS (idx := 128) (mj := 115) (na := 1) (mx := 1) (p := 11) (args := [.int x2]) (rest := []) (al2 := [some (.int x2)]) (by decide +kernel) rfl (by decide +kernel) rfl rfl rfl rfl rfl rfl rfl (by omega) (fun d' hd' => fe_115 (by omega) w21) rfl ?_
    by_cases c23 : (fx_b q22.1) = 0
    · rw [if_pos c23] at h
      refine fs_if_eq_t (off := 13) (t := 24) (by decide +kernel) (by decide +kernel) c23 ?_
      refine fs_iconst (n := -1) (p := 25) (by decide +kernel) rfl kc_m1 ?_
      have h := Option.some.inj h
      subst h
      exact fs_iret (by decide +kernel) rt_103
    · rw [if_neg c23] at h
      refine fs_if_eq_f (off := 13) (t := 24) (p := 14) (by decide +kernel) (by decide +kernel) rfl c23 ?_
      refine fs_aload_n (k := 0) (p := 15) (by decide +kernel) rfl rfl ?_
      refine fs_gfr (idx := 13) (ci := 9) (j := 1) (p := 18) (by decide +kernel) rfl (by decide +kernel) fo_0 (fr_a0_1) ?_
      obtain ⟨q25, w24, h⟩ := fx_bd h
      refine fs_callV (idx := 146) (mj := 57) (ci := 6) (na := 0) (mx := 1) (p := 21) (args := [.ref 1]) (rest := []) (al2 := [some (.ref 1)]) (by decide +kernel) rfl (by decide +kernel) fo_1 rfl rfl rfl rfl rfl rfl rfl (by omega) (fun d' hd' => fe_57 (by omega) w24) rfl ?_
      by_cases c26 : ¬ (fx_b q25.1) = 0
      · rw [if_pos c26] at h
        refine fs_if_ne_t (off := 5) (t := 26) (by decide +kernel) (by decide +kernel) c26 ?_
        refine fs_aload_n (k := 0) (p := 27) (by decide +kernel) rfl rfl ?_
        refine fs_gfr (idx := 60) (ci := 9) (j := 6) (p := 30) (by decide +kernel) rfl (by decide +kernel) fo_0 (fr_a0_6) ?_
        refine fs_iload_n (k := 1) (p := 31) (by decide +kernel) rfl rfl ?_
        obtain ⟨v27, w28, h⟩ := fx_bd h
        have g29 := fa_70 w28
        refine fs_aaload (t := 4) (p := 32) (by decide +kernel) rfl (by decide +kernel) w28 ?_
        refine fs_bipush (n := 16) (p := 34) (by decide +kernel) rfl kb_16 ?_
        obtain ⟨q32, w31, h⟩ := fx_bd h
        refine fs_callV (idx := 150) (mj := 19) (ci := 2) (na := 1) (mx := 2) (p := 37) (args := [.ref v27, .int (16 : Int32)]) (rest := []) (al2 := [some (.ref v27), some (.int (16 : Int32))]) (by decide +kernel) rfl (by decide +kernel) g29 rfl rfl rfl rfl rfl rfl rfl (by omega) (fun d' hd' => fe_19 (by omega) w31) rfl ?_
        refine fs_gfr (idx := 247) (ci := 2) (j := 5) (p := 40) (by decide +kernel) rfl (by decide +kernel) g29 (fr_2_5 g29) ?_
        refine fs_iload_n (k := 2) (p := 41) (by decide +kernel) rfl rfl ?_
        obtain ⟨q34, w33, h⟩ := fx_bd h
        refine fs_callV (idx := 237) (mj := 76) (ci := 7) (na := 1) (mx := 4) (p := 44) (args := [.ref (v27 + 30), .int x2]) (rest := []) (al2 := [some (.ref (v27 + 30)), some (.int x2), none, none]) (by decide +kernel) rfl (by decide +kernel) (fg_2_5 g29) rfl rfl rfl rfl rfl rfl rfl (by omega) (fun d' hd' => fe_76 (by omega) w33) rfl ?_
        have h := Option.some.inj h
        subst h
        exact fs_iret (by decide +kernel) rt_103
      · rw [if_neg c26] at h
        refine fs_if_ne_f (off := 5) (t := 26) (p := 24) (by decide +kernel) (by decide +kernel) rfl c26 ?_
        refine fs_iconst (n := -1) (p := 25) (by decide +kernel) rfl kc_m1 ?_
        have h := Option.some.inj h
        subst h
        exact fs_iret (by decide +kernel) rt_103

/-! ZoneShares.returned(II)I -/
theorem mx_104 : iv_mx 104 = 3 := by decide +kernel
theorem rt_104 : iv_rt 104 = some .int := by decide +kernel
def fm_104 (x1 : Int32) (x2 : Int32) (σ : fx_S) : Option (Int32 × fx_S) :=
  (fm_118 x1 x2 σ).bind fun q13 =>
  if ¬ (fx_b q13.1) = 0 then (
    (fx_ldr 4 70 x1).bind fun v15 =>
    (fm_19 v15 (4 : Int32) q13.2).bind fun q20 =>
    (fm_76 (v15 + 12) x2 q20).bind fun q22 =>
    some (q22.1, q22.2)) else (
    some ((-1 : Int32), q13.2))
theorem fe_104 {d : Nat} (hd : 6 ≤ d) {x1 : Int32} {x2 : Int32} {σ : fx_S} {q : Int32 × fx_S} (h : fm_104 x1 x2 σ = some q) : fx_E none 104 d 0 [some (.ref 0), some (.int x1), some (.int x2)] [] σ (some (.int q.1)) q.2 := by
  unfold fm_104 at h
  refine fs_aload_n (k := 0) (p := 1) (by decide +kernel) rfl rfl ?_
  refine fs_iload_n (k := 1) (p := 2) (by decide +kernel) rfl rfl ?_
  refine fs_iload_n (k := 2) (p := 3) (by decide +kernel) rfl rfl ?_
  obtain ⟨q13, w12, h⟩ := fx_bd h
  refine fs_callV (idx := 199) (mj := 118) (ci := 9) (na := 2) (mx := 3) (p := 6) (args := [.ref 0, .int x1, .int x2]) (rest := []) (al2 := [some (.ref 0), some (.int x1), some (.int x2)]) (by decide +kernel) rfl (by decide +kernel) fo_0 rfl rfl rfl rfl rfl rfl rfl (by omega) (fun d' hd' => fe_118 (by omega) w12) rfl ?_
  by_cases c14 : ¬ (fx_b q13.1) = 0
  · rw [if_pos c14] at h
    refine fs_if_ne_t (off := 5) (t := 11) (by decide +kernel) (by decide +kernel) c14 ?_
    refine fs_aload_n (k := 0) (p := 12) (by decide +kernel) rfl rfl ?_
    refine fs_gfr (idx := 60) (ci := 9) (j := 6) (p := 15) (by decide +kernel) rfl (by decide +kernel) fo_0 (fr_a0_6) ?_
    refine fs_iload_n (k := 1) (p := 16) (by decide +kernel) rfl rfl ?_
    obtain ⟨v15, w16, h⟩ := fx_bd h
    have g17 := fa_70 w16
    refine fs_aaload (t := 4) (p := 17) (by decide +kernel) rfl (by decide +kernel) w16 ?_
    refine fs_iconst (n := 4) (p := 18) (by decide +kernel) rfl kc_4 ?_
    obtain ⟨q20, w19, h⟩ := fx_bd h
    refine fs_callV (idx := 150) (mj := 19) (ci := 2) (na := 1) (mx := 2) (p := 21) (args := [.ref v15, .int (4 : Int32)]) (rest := []) (al2 := [some (.ref v15), some (.int (4 : Int32))]) (by decide +kernel) rfl (by decide +kernel) g17 rfl rfl rfl rfl rfl rfl rfl (by omega) (fun d' hd' => fe_19 (by omega) w19) rfl ?_
    refine fs_gfr (idx := 250) (ci := 2) (j := 3) (p := 24) (by decide +kernel) rfl (by decide +kernel) g17 (fr_2_3 g17) ?_
    refine fs_iload_n (k := 2) (p := 25) (by decide +kernel) rfl rfl ?_
    obtain ⟨q22, w21, h⟩ := fx_bd h
    refine fs_callV (idx := 237) (mj := 76) (ci := 7) (na := 1) (mx := 4) (p := 28) (args := [.ref (v15 + 12), .int x2]) (rest := []) (al2 := [some (.ref (v15 + 12)), some (.int x2), none, none]) (by decide +kernel) rfl (by decide +kernel) (fg_2_3 g17) rfl rfl rfl rfl rfl rfl rfl (by omega) (fun d' hd' => fe_76 (by omega) w21) rfl ?_
    have h := Option.some.inj h
    subst h
    exact fs_iret (by decide +kernel) rt_104
  · rw [if_neg c14] at h
    refine fs_if_ne_f (off := 5) (t := 11) (p := 9) (by decide +kernel) (by decide +kernel) rfl c14 ?_
    refine fs_iconst (n := -1) (p := 10) (by decide +kernel) rfl kc_m1 ?_
    have h := Option.some.inj h
    subst h
    exact fs_iret (by decide +kernel) rt_104

/-! ZoneShares.astray(I)I -/
theorem mx_105 : iv_mx 105 = 5 := by decide +kernel
theorem rt_105 : iv_rt 105 = some .int := by decide +kernel
def fm_105_37 : Nat → Nat → Int32 → Int32 → fx_S → Option (Int32 × fx_S)
  | 0, _, _, _, _ => none
  | n + 1, x2, x3, x4, σ =>
    if (8 : Int32) ≤ x4 then (
      some (x3, σ)) else (
      (fx_ld σ (x2 + 1) x4).bind fun v3 =>
      (fm_76 (x2 + 12) x4 σ).bind fun q7 =>
      fm_105_37 n x2 (x3 + (if 0 ≤ (v3 - q7.1) then (v3 - q7.1) else 0 - (v3 - q7.1))) (x4 + (1 : Int32)) q7.2)
theorem fe_105_37 {d : Nat} (hd : 6 ≤ d) : ∀ (n : Nat) (x2 : Nat) (x3 : Int32) (x4 : Int32) (o0 : Option Value) (o1 : Option Value) (σ : fx_S) (q : Int32 × fx_S) (g2 : fx_oc x2 2 = true), fm_105_37 n x2 x3 x4 σ = some q → fx_E none 105 d 37 [o0, o1, some (.ref x2), some (.int x3), some (.int x4)] [] σ (some (.int q.1)) q.2 := by
  intro n
  induction n with
  | zero =>
    intro x2 x3 x4 o0 o1 σ q g2 h
    rw [fm_105_37] at h
    exact fx_no h
  | succ n ih =>
    intro x2 x3 x4 o0 o1 σ q g2 h
    rw [fm_105_37] at h
    refine fs_iload (k := 4) (p := 39) (by decide +kernel) rfl rfl ?_
    refine fs_bipush (n := 8) (p := 41) (by decide +kernel) rfl kb_8 ?_
    by_cases c2 : (8 : Int32) ≤ x4
    · rw [if_pos c2] at h
      refine fs_icmp_ge_t (off := 32) (t := 73) (by decide +kernel) (by decide +kernel) c2 ?_
      refine fs_iload_n (k := 3) (p := 74) (by decide +kernel) rfl rfl ?_
      have h := Option.some.inj h
      subst h
      exact fs_iret (by decide +kernel) rt_105
    · rw [if_neg c2] at h
      refine fs_icmp_ge_f (off := 32) (t := 73) (p := 44) (by decide +kernel) (by decide +kernel) rfl c2 ?_
      refine fs_iload_n (k := 3) (p := 45) (by decide +kernel) rfl rfl ?_
      refine fs_aload_n (k := 2) (p := 46) (by decide +kernel) rfl rfl ?_
      refine fs_gfr (idx := 190) (ci := 2) (j := 0) (p := 49) (by decide +kernel) rfl (by decide +kernel) g2 (fr_2_0 g2) ?_
      refine fs_iload (k := 4) (p := 51) (by decide +kernel) rfl rfl ?_
      obtain ⟨v3, w4, h⟩ := fx_bd h
      refine fs_iaload (p := 52) (by decide +kernel) rfl w4 ?_
      refine fs_aload_n (k := 2) (p := 53) (by decide +kernel) rfl rfl ?_
      refine fs_gfr (idx := 250) (ci := 2) (j := 3) (p := 56) (by decide +kernel) rfl (by decide +kernel) g2 (fr_2_3 g2) ?_
      refine fs_iload (k := 4) (p := 58) (by decide +kernel) rfl rfl ?_
      obtain ⟨q7, w6, h⟩ := fx_bd h
      refine fs_callV (idx := 237) (mj := 76) (ci := 7) (na := 1) (mx := 4) (p := 61) (args := [.ref (x2 + 12), .int x4]) (rest := [.int v3, .int x3]) (al2 := [some (.ref (x2 + 12)), some (.int x4), none, none]) (by decide +kernel) rfl (by decide +kernel) (fg_2_3 g2) rfl rfl rfl rfl rfl rfl rfl (by omega) (fun d' hd' => fe_76 (by omega) w6) rfl ?_
      refine fs_isub (p := 62) (by decide +kernel) rfl ?_
      refine fs_abi (idx := 253) (p := 65) (by decide +kernel) rfl (by decide +kernel) rfl ?_
      refine fs_iadd (p := 66) (by decide +kernel) rfl ?_
      refine fs_istore_n (k := 3) (p := 67) (M := 5) (al' := [o0, o1, some (.ref x2), some (.int (x3 + (if 0 ≤ (v3 - q7.1) then (v3 - q7.1) else 0 - (v3 - q7.1)))), some (.int x4)]) (by decide +kernel) rfl mx_105 rfl rfl ?_
      refine fs_iinc (k := 4) (n := 1) (p := 70) (M := 5) (al' := [o0, o1, some (.ref x2), some (.int (x3 + (if 0 ≤ (v3 - q7.1) then (v3 - q7.1) else 0 - (v3 - q7.1)))), some (.int (x4 + (1 : Int32)))]) (by decide +kernel) rfl kc_1 mx_105 rfl rfl rfl ?_
      refine fs_goto (off := -33) (p := 37) (by decide +kernel) (by decide +kernel) ?_
      exact ih _ _ _ _ _ _ _ g2 h
def fm_105 (x1 : Int32) (σ : fx_S) : Option (Int32 × fx_S) :=
  (fm_114 x1 σ).bind fun q22 =>
  if (fx_b q22.1) = 0 then (
    some ((-1 : Int32), q22.2)) else (
    (fm_57 1 q22.2).bind fun q25 =>
    if ¬ (fx_b q25.1) = 0 then (
      (fx_ldr 4 70 x1).bind fun v27 =>
      (fm_19 v27 (4 : Int32) q25.2).bind fun q32 =>
      fm_105_37 100000 v27 (0 : Int32) (0 : Int32) q32) else (
      some ((-1 : Int32), q25.2)))
theorem fe_105 {d : Nat} (hd : 6 ≤ d) {x1 : Int32} {σ : fx_S} {q : Int32 × fx_S} (h : fm_105 x1 σ = some q) : fx_E none 105 d 0 [some (.ref 0), some (.int x1), none, none, none] [] σ (some (.int q.1)) q.2 := by
  unfold fm_105 at h
  refine fs_iload_n (k := 1) (p := 1) (by decide +kernel) rfl rfl ?_
  obtain ⟨q22, w21, h⟩ := fx_bd h
  refine fs_callS (idx := 94) (mj := 114) (na := 1) (mx := 1) (p := 4) (args := [.int x1]) (rest := []) (al2 := [some (.int x1)]) (by decide +kernel) rfl (by decide +kernel) rfl rfl rfl rfl rfl rfl rfl (by omega) (fun d' hd' => fe_114 (by omega) w21) rfl ?_
  by_cases c23 : (fx_b q22.1) = 0
  · rw [if_pos c23] at h
    refine fs_if_eq_t (off := 13) (t := 17) (by decide +kernel) (by decide +kernel) c23 ?_
    refine fs_iconst (n := -1) (p := 18) (by decide +kernel) rfl kc_m1 ?_
    have h := Option.some.inj h
    subst h
    exact fs_iret (by decide +kernel) rt_105
  · rw [if_neg c23] at h
    refine fs_if_eq_f (off := 13) (t := 17) (p := 7) (by decide +kernel) (by decide +kernel) rfl c23 ?_
    refine fs_aload_n (k := 0) (p := 8) (by decide +kernel) rfl rfl ?_
    refine fs_gfr (idx := 13) (ci := 9) (j := 1) (p := 11) (by decide +kernel) rfl (by decide +kernel) fo_0 (fr_a0_1) ?_
    obtain ⟨q25, w24, h⟩ := fx_bd h
    refine fs_callV (idx := 146) (mj := 57) (ci := 6) (na := 0) (mx := 1) (p := 14) (args := [.ref 1]) (rest := []) (al2 := [some (.ref 1)]) (by decide +kernel) rfl (by decide +kernel) fo_1 rfl rfl rfl rfl rfl rfl rfl (by omega) (fun d' hd' => fe_57 (by omega) w24) rfl ?_
    by_cases c26 : ¬ (fx_b q25.1) = 0
    · rw [if_pos c26] at h
      refine fs_if_ne_t (off := 5) (t := 19) (by decide +kernel) (by decide +kernel) c26 ?_
      refine fs_aload_n (k := 0) (p := 20) (by decide +kernel) rfl rfl ?_
      refine fs_gfr (idx := 60) (ci := 9) (j := 6) (p := 23) (by decide +kernel) rfl (by decide +kernel) fo_0 (fr_a0_6) ?_
      refine fs_iload_n (k := 1) (p := 24) (by decide +kernel) rfl rfl ?_
      obtain ⟨v27, w28, h⟩ := fx_bd h
      have g29 := fa_70 w28
      refine fs_aaload (t := 4) (p := 25) (by decide +kernel) rfl (by decide +kernel) w28 ?_
      refine fs_astore_n (k := 2) (p := 26) (M := 5) (al' := [some (.ref 0), some (.int x1), some (.ref v27), none, none]) (by decide +kernel) rfl mx_105 rfl rfl ?_
      refine fs_aload_n (k := 2) (p := 27) (by decide +kernel) rfl rfl ?_
      refine fs_iconst (n := 4) (p := 28) (by decide +kernel) rfl kc_4 ?_
      obtain ⟨q32, w31, h⟩ := fx_bd h
      refine fs_callV (idx := 150) (mj := 19) (ci := 2) (na := 1) (mx := 2) (p := 31) (args := [.ref v27, .int (4 : Int32)]) (rest := []) (al2 := [some (.ref v27), some (.int (4 : Int32))]) (by decide +kernel) rfl (by decide +kernel) g29 rfl rfl rfl rfl rfl rfl rfl (by omega) (fun d' hd' => fe_19 (by omega) w31) rfl ?_
      refine fs_pop (p := 32) (by decide +kernel) rfl rfl ?_
      refine fs_iconst (n := 0) (p := 33) (by decide +kernel) rfl kc_0 ?_
      refine fs_istore_n (k := 3) (p := 34) (M := 5) (al' := [some (.ref 0), some (.int x1), some (.ref v27), some (.int (0 : Int32)), none]) (by decide +kernel) rfl mx_105 rfl rfl ?_
      refine fs_iconst (n := 0) (p := 35) (by decide +kernel) rfl kc_0 ?_
      refine fs_istore (k := 4) (p := 37) (M := 5) (al' := [some (.ref 0), some (.int x1), some (.ref v27), some (.int (0 : Int32)), some (.int (0 : Int32))]) (by decide +kernel) rfl mx_105 rfl rfl ?_
      exact fe_105_37 hd 100000 _ _ _ _ _ _ _ g29 h
    · rw [if_neg c26] at h
      refine fs_if_ne_f (off := 5) (t := 19) (p := 17) (by decide +kernel) (by decide +kernel) rfl c26 ?_
      refine fs_iconst (n := -1) (p := 18) (by decide +kernel) rfl kc_m1 ?_
      have h := Option.some.inj h
      subst h
      exact fs_iret (by decide +kernel) rt_105

/-! ZoneShares.surface(IIII)J -/
theorem mx_106 : iv_mx 106 = 7 := by decide +kernel
theorem rt_106 : iv_rt 106 = some .long := by decide +kernel
def fm_106_40 (σ : fx_S) : Option (Int64 × fx_S) :=
  some ((-1 : Int64), σ)
theorem fe_106_40 {d : Nat} (hd : 6 ≤ d) (o0 : Option Value) (o1 : Option Value) (o2 : Option Value) (o3 : Option Value) (o4 : Option Value) (σ : fx_S) (q : Int64 × fx_S) (h : fm_106_40  σ = some q) : fx_E none 106 d 40 [o0, o1, o2, o3, o4, none, none] [] σ (some (.long q.1)) q.2 := by
  unfold fm_106_40 at h
  refine fs_ldc2 (idx := 221) (p := 43) (x := -1) (by decide +kernel) rfl (by decide +kernel) ?_
  have h := Option.some.inj h
  subst h
  exact fs_lret (by decide +kernel) rt_106
def fm_106 (x1 : Int32) (x2 : Int32) (x3 : Int32) (x4 : Int32) (σ : fx_S) : Option (Int64 × fx_S) :=
  (fm_114 x1 σ).bind fun q28 =>
  if (fx_b q28.1) = 0 then (
    fm_106_40 q28.2) else (
    (fm_57 1 q28.2).bind fun q31 =>
    if (fx_b q31.1) = 0 then (
      fm_106_40 q31.2) else (
      (fm_59 1 x2 x3 q31.2).bind fun q34 =>
      if (fx_b q34.1) = 0 then (
        fm_106_40 q34.2) else (
        if x4 < 0 then (
          fm_106_40 q34.2) else (
          if x4 ≤ (1 : Int32) then (
            (fx_ldr 4 70 x1).bind fun v39 =>
            (fm_19 v39 (2 : Int32) q34.2).bind fun q44 =>
            (fm_27 v39 ((x2 * (q44.1 1 5)) + x3) q44).bind fun q46 =>
            (fm_28 v39 ((x2 * (q44.1 1 5)) + x3) q46.2).bind fun q49 =>
            (fm_127 (q46.1).toInt64 (q49.1).toInt64 x4 q49.2).bind fun q52 =>
            some (q52.1, q52.2)) else (
            fm_106_40 q34.2)))))
theorem fe_106 {d : Nat} (hd : 6 ≤ d) {x1 : Int32} {x2 : Int32} {x3 : Int32} {x4 : Int32} {σ : fx_S} {q : Int64 × fx_S} (h : fm_106 x1 x2 x3 x4 σ = some q) : fx_E none 106 d 0 [some (.ref 0), some (.int x1), some (.int x2), some (.int x3), some (.int x4), none, none] [] σ (some (.long q.1)) q.2 := by
  unfold fm_106 at h
  refine fs_iload_n (k := 1) (p := 1) (by decide +kernel) rfl rfl ?_
  obtain ⟨q28, w27, h⟩ := fx_bd h
  refine fs_callS (idx := 94) (mj := 114) (na := 1) (mx := 1) (p := 4) (args := [.int x1]) (rest := []) (al2 := [some (.int x1)]) (by decide +kernel) rfl (by decide +kernel) rfl rfl rfl rfl rfl rfl rfl (by omega) (fun d' hd' => fe_114 (by omega) w27) rfl ?_
  by_cases c29 : (fx_b q28.1) = 0
  · rw [if_pos c29] at h
    refine fs_if_eq_t (off := 36) (t := 40) (by decide +kernel) (by decide +kernel) c29 ?_
    exact fe_106_40 hd _ _ _ _ _ _ _ h
  · rw [if_neg c29] at h
    refine fs_if_eq_f (off := 36) (t := 40) (p := 7) (by decide +kernel) (by decide +kernel) rfl c29 ?_
    refine fs_aload_n (k := 0) (p := 8) (by decide +kernel) rfl rfl ?_
    refine fs_gfr (idx := 13) (ci := 9) (j := 1) (p := 11) (by decide +kernel) rfl (by decide +kernel) fo_0 (fr_a0_1) ?_
    obtain ⟨q31, w30, h⟩ := fx_bd h
    refine fs_callV (idx := 146) (mj := 57) (ci := 6) (na := 0) (mx := 1) (p := 14) (args := [.ref 1]) (rest := []) (al2 := [some (.ref 1)]) (by decide +kernel) rfl (by decide +kernel) fo_1 rfl rfl rfl rfl rfl rfl rfl (by omega) (fun d' hd' => fe_57 (by omega) w30) rfl ?_
    by_cases c32 : (fx_b q31.1) = 0
    · rw [if_pos c32] at h
      refine fs_if_eq_t (off := 26) (t := 40) (by decide +kernel) (by decide +kernel) c32 ?_
      exact fe_106_40 hd _ _ _ _ _ _ _ h
    · rw [if_neg c32] at h
      refine fs_if_eq_f (off := 26) (t := 40) (p := 17) (by decide +kernel) (by decide +kernel) rfl c32 ?_
      refine fs_aload_n (k := 0) (p := 18) (by decide +kernel) rfl rfl ?_
      refine fs_gfr (idx := 13) (ci := 9) (j := 1) (p := 21) (by decide +kernel) rfl (by decide +kernel) fo_0 (fr_a0_1) ?_
      refine fs_iload_n (k := 2) (p := 22) (by decide +kernel) rfl rfl ?_
      refine fs_iload_n (k := 3) (p := 23) (by decide +kernel) rfl rfl ?_
      obtain ⟨q34, w33, h⟩ := fx_bd h
      refine fs_callV (idx := 170) (mj := 59) (ci := 6) (na := 2) (mx := 3) (p := 26) (args := [.ref 1, .int x2, .int x3]) (rest := []) (al2 := [some (.ref 1), some (.int x2), some (.int x3)]) (by decide +kernel) rfl (by decide +kernel) fo_1 rfl rfl rfl rfl rfl rfl rfl (by omega) (fun d' hd' => fe_59 (by omega) w33) rfl ?_
      by_cases c35 : (fx_b q34.1) = 0
      · rw [if_pos c35] at h
        refine fs_if_eq_t (off := 14) (t := 40) (by decide +kernel) (by decide +kernel) c35 ?_
        exact fe_106_40 hd _ _ _ _ _ _ _ h
      · rw [if_neg c35] at h
        refine fs_if_eq_f (off := 14) (t := 40) (p := 29) (by decide +kernel) (by decide +kernel) rfl c35 ?_
        refine fs_iload (k := 4) (p := 31) (by decide +kernel) rfl rfl ?_
        by_cases c37 : x4 < 0
        · rw [if_pos c37] at h
          refine fs_if_lt_t (off := 9) (t := 40) (by decide +kernel) (by decide +kernel) c37 ?_
          exact fe_106_40 hd _ _ _ _ _ _ _ h
        · rw [if_neg c37] at h
          refine fs_if_lt_f (off := 9) (t := 40) (p := 34) (by decide +kernel) (by decide +kernel) rfl c37 ?_
          refine fs_iload (k := 4) (p := 36) (by decide +kernel) rfl rfl ?_
          refine fs_iconst (n := 1) (p := 37) (by decide +kernel) rfl kc_1 ?_
          by_cases c38 : x4 ≤ (1 : Int32)
          · rw [if_pos c38] at h
            refine fs_icmp_le_t (off := 7) (t := 44) (by decide +kernel) (by decide +kernel) c38 ?_
            refine fs_aload_n (k := 0) (p := 45) (by decide +kernel) rfl rfl ?_
            refine fs_gfr (idx := 60) (ci := 9) (j := 6) (p := 48) (by decide +kernel) rfl (by decide +kernel) fo_0 (fr_a0_6) ?_
            refine fs_iload_n (k := 1) (p := 49) (by decide +kernel) rfl rfl ?_
            obtain ⟨v39, w40, h⟩ := fx_bd h
            have g41 := fa_70 w40
            refine fs_aaload (t := 4) (p := 50) (by decide +kernel) rfl (by decide +kernel) w40 ?_
            refine fs_astore (k := 5) (p := 52) (M := 7) (al' := [some (.ref 0), some (.int x1), some (.int x2), some (.int x3), some (.int x4), some (.ref v39), none]) (by decide +kernel) rfl mx_106 rfl rfl ?_
            refine fs_aload (k := 5) (p := 54) (by decide +kernel) rfl rfl ?_
            refine fs_iconst (n := 2) (p := 55) (by decide +kernel) rfl kc_2 ?_
            obtain ⟨q44, w43, h⟩ := fx_bd h
            refine fs_callV (idx := 150) (mj := 19) (ci := 2) (na := 1) (mx := 2) (p := 58) (args := [.ref v39, .int (2 : Int32)]) (rest := []) (al2 := [some (.ref v39), some (.int (2 : Int32))]) (by decide +kernel) rfl (by decide +kernel) g41 rfl rfl rfl rfl rfl rfl rfl (by omega) (fun d' hd' => fe_19 (by omega) w43) rfl ?_
            refine fs_pop (p := 59) (by decide +kernel) rfl rfl ?_
            refine fs_iload_n (k := 2) (p := 60) (by decide +kernel) rfl rfl ?_
            refine fs_aload_n (k := 0) (p := 61) (by decide +kernel) rfl rfl ?_
            refine fs_gfr (idx := 13) (ci := 9) (j := 1) (p := 64) (by decide +kernel) rfl (by decide +kernel) fo_0 (fr_a0_1) ?_
            refine fs_gfi (idx := 174) (ci := 6) (j := 5) (p := 67) (by decide +kernel) rfl (by decide +kernel) fo_1 ?_
            refine fs_imul (p := 68) (by decide +kernel) rfl ?_
            refine fs_iload_n (k := 3) (p := 69) (by decide +kernel) rfl rfl ?_
            refine fs_iadd (p := 70) (by decide +kernel) rfl ?_
            refine fs_istore (k := 6) (p := 72) (M := 7) (al' := [some (.ref 0), some (.int x1), some (.int x2), some (.int x3), some (.int x4), some (.ref v39), some (.int ((x2 * (q44.1 1 5)) + x3))]) (by decide +kernel) rfl mx_106 rfl rfl ?_
            refine fs_aload (k := 5) (p := 74) (by decide +kernel) rfl rfl ?_
            refine fs_iload (k := 6) (p := 76) (by decide +kernel) rfl rfl ?_
            obtain ⟨q46, w45, h⟩ := fx_bd h
            refine fs_callV (idx := 258) (mj := 27) (ci := 2) (na := 1) (mx := 4) (p := 79) (args := [.ref v39, .int ((x2 * (q44.1 1 5)) + x3)]) (rest := []) (al2 := [some (.ref v39), some (.int ((x2 * (q44.1 1 5)) + x3)), none, none]) (by decide +kernel) rfl (by decide +kernel) g41 rfl rfl rfl rfl rfl rfl rfl (by omega) (fun d' hd' => fe_27 (by omega) w45) rfl ?_
            refine fs_i2l (p := 80) (by decide +kernel) rfl ?_
            refine fs_aload (k := 5) (p := 82) (by decide +kernel) rfl rfl ?_
            refine fs_iload (k := 6) (p := 84) (by decide +kernel) rfl rfl ?_
            obtain ⟨q49, w48, h⟩ := fx_bd h
            refine fs_callV (idx := 261) (mj := 28) (ci := 2) (na := 1) (mx := 3) (p := 87) (args := [.ref v39, .int ((x2 * (q44.1 1 5)) + x3)]) (rest := [.long (q46.1).toInt64]) (al2 := [some (.ref v39), some (.int ((x2 * (q44.1 1 5)) + x3)), none]) (by decide +kernel) rfl (by decide +kernel) g41 rfl rfl rfl rfl rfl rfl rfl (by omega) (fun d' hd' => fe_28 (by omega) w48) rfl ?_
            refine fs_i2l (p := 88) (by decide +kernel) rfl ?_
            refine fs_iload (k := 4) (p := 90) (by decide +kernel) rfl rfl ?_
            obtain ⟨q52, w51, h⟩ := fx_bd h
            refine fs_callS (idx := 214) (mj := 127) (na := 3) (mx := 7) (p := 93) (args := [.long (q46.1).toInt64, .long (q49.1).toInt64, .int x4]) (rest := []) (al2 := [some (.long (q46.1).toInt64), none, some (.long (q49.1).toInt64), none, some (.int x4), none, none]) (by decide +kernel) rfl (by decide +kernel) rfl rfl rfl rfl rfl rfl rfl (by omega) (fun d' hd' => fe_127 (by omega) w51) rfl ?_
            have h := Option.some.inj h
            subst h
            exact fs_lret (by decide +kernel) rt_106
          · rw [if_neg c38] at h
            refine fs_icmp_le_f (off := 7) (t := 44) (p := 40) (by decide +kernel) (by decide +kernel) rfl c38 ?_
            exact fe_106_40 hd _ _ _ _ _ _ _ h

/-! ZoneShares.densest(II)I -/
theorem mx_107 : iv_mx 107 = 6 := by decide +kernel
theorem rt_107 : iv_rt 107 = some .int := by decide +kernel
def fm_107 (x1 : Int32) (x2 : Int32) (σ : fx_S) : Option (Int32 × fx_S) :=
  (fm_114 x1 σ).bind fun q27 =>
  if (fx_b q27.1) = 0 then (
    some ((-1 : Int32), q27.2)) else (
    (fm_57 1 q27.2).bind fun q30 =>
    if (fx_b q30.1) = 0 then (
      some ((-1 : Int32), q30.2)) else (
      if x2 < 0 then (
        some ((-1 : Int32), q30.2)) else (
        (fm_58 1 q30.2).bind fun q35 =>
        if x2 < q35.1 then (
          (fx_ldr 4 70 x1).bind fun v38 =>
          (fm_19 v38 (32 : Int32) q35.2).bind fun q43 =>
          (fx_ld q43 (v38 + 2) x2).bind fun v44 =>
          if ¬ (if (1 : Int32) < (q43.1 1 5) then (q43.1 1 5) else (1 : Int32)) = 0 then (
          if ¬ (if (1 : Int32) < (q43.1 1 5) then (q43.1 1 5) else (1 : Int32)) = 0 then (
          some ((((12 : Int32) * (v44 / (if (1 : Int32) < (q43.1 1 5) then (q43.1 1 5) else (1 : Int32)))) + (v44 - v44 / (if (1 : Int32) < (q43.1 1 5) then (q43.1 1 5) else (1 : Int32)) * (if (1 : Int32) < (q43.1 1 5) then (q43.1 1 5) else (1 : Int32)))), q43)) else none) else none) else (
          some ((-1 : Int32), q35.2)))))
theorem fe_107 {d : Nat} (hd : 6 ≤ d) {x1 : Int32} {x2 : Int32} {σ : fx_S} {q : Int32 × fx_S} (h : fm_107 x1 x2 σ = some q) : fx_E none 107 d 0 [some (.ref 0), some (.int x1), some (.int x2), none, none, none] [] σ (some (.int q.1)) q.2 := by
  unfold fm_107 at h
  refine fs_iload_n (k := 1) (p := 1) (by decide +kernel) rfl rfl ?_
  obtain ⟨q27, w26, h⟩ := fx_bd h
  refine fs_callS (idx := 94) (mj := 114) (na := 1) (mx := 1) (p := 4) (args := [.int x1]) (rest := []) (al2 := [some (.int x1)]) (by decide +kernel) rfl (by decide +kernel) rfl rfl rfl rfl rfl rfl rfl (by omega) (fun d' hd' => fe_114 (by omega) w26) rfl ?_
  by_cases c28 : (fx_b q27.1) = 0
  · rw [if_pos c28] at h
    refine fs_if_eq_t (off := 28) (t := 32) (by decide +kernel) (by decide +kernel) c28 ?_
    refine fs_iconst (n := -1) (p := 33) (by decide +kernel) rfl kc_m1 ?_
    have h := Option.some.inj h
    subst h
    exact fs_iret (by decide +kernel) rt_107
  · rw [if_neg c28] at h
    refine fs_if_eq_f (off := 28) (t := 32) (p := 7) (by decide +kernel) (by decide +kernel) rfl c28 ?_
    refine fs_aload_n (k := 0) (p := 8) (by decide +kernel) rfl rfl ?_
    refine fs_gfr (idx := 13) (ci := 9) (j := 1) (p := 11) (by decide +kernel) rfl (by decide +kernel) fo_0 (fr_a0_1) ?_
    obtain ⟨q30, w29, h⟩ := fx_bd h
    refine fs_callV (idx := 146) (mj := 57) (ci := 6) (na := 0) (mx := 1) (p := 14) (args := [.ref 1]) (rest := []) (al2 := [some (.ref 1)]) (by decide +kernel) rfl (by decide +kernel) fo_1 rfl rfl rfl rfl rfl rfl rfl (by omega) (fun d' hd' => fe_57 (by omega) w29) rfl ?_
    by_cases c31 : (fx_b q30.1) = 0
    · rw [if_pos c31] at h
      refine fs_if_eq_t (off := 18) (t := 32) (by decide +kernel) (by decide +kernel) c31 ?_
      refine fs_iconst (n := -1) (p := 33) (by decide +kernel) rfl kc_m1 ?_
      have h := Option.some.inj h
      subst h
      exact fs_iret (by decide +kernel) rt_107
    · rw [if_neg c31] at h
      refine fs_if_eq_f (off := 18) (t := 32) (p := 17) (by decide +kernel) (by decide +kernel) rfl c31 ?_
      refine fs_iload_n (k := 2) (p := 18) (by decide +kernel) rfl rfl ?_
      by_cases c33 : x2 < 0
      · rw [if_pos c33] at h
        refine fs_if_lt_t (off := 14) (t := 32) (by decide +kernel) (by decide +kernel) c33 ?_
        refine fs_iconst (n := -1) (p := 33) (by decide +kernel) rfl kc_m1 ?_
        have h := Option.some.inj h
        subst h
        exact fs_iret (by decide +kernel) rt_107
      · rw [if_neg c33] at h
        refine fs_if_lt_f (off := 14) (t := 32) (p := 21) (by decide +kernel) (by decide +kernel) rfl c33 ?_
        refine fs_iload_n (k := 2) (p := 22) (by decide +kernel) rfl rfl ?_
        refine fs_aload_n (k := 0) (p := 23) (by decide +kernel) rfl rfl ?_
        refine fs_gfr (idx := 13) (ci := 9) (j := 1) (p := 26) (by decide +kernel) rfl (by decide +kernel) fo_0 (fr_a0_1) ?_
        obtain ⟨q35, w34, h⟩ := fx_bd h
        refine fs_callV (idx := 90) (mj := 58) (ci := 6) (na := 0) (mx := 1) (p := 29) (args := [.ref 1]) (rest := [.int x2]) (al2 := [some (.ref 1)]) (by decide +kernel) rfl (by decide +kernel) fo_1 rfl rfl rfl rfl rfl rfl rfl (by omega) (fun d' hd' => fe_58 (by omega) w34) rfl ?_
        by_cases c37 : x2 < q35.1
        · rw [if_pos c37] at h
          refine fs_icmp_lt_t (off := 5) (t := 34) (by decide +kernel) (by decide +kernel) c37 ?_
          refine fs_aload_n (k := 0) (p := 35) (by decide +kernel) rfl rfl ?_
          refine fs_gfr (idx := 60) (ci := 9) (j := 6) (p := 38) (by decide +kernel) rfl (by decide +kernel) fo_0 (fr_a0_6) ?_
          refine fs_iload_n (k := 1) (p := 39) (by decide +kernel) rfl rfl ?_
          obtain ⟨v38, w39, h⟩ := fx_bd h
          have g40 := fa_70 w39
          refine fs_aaload (t := 4) (p := 40) (by decide +kernel) rfl (by decide +kernel) w39 ?_
          refine fs_astore_n (k := 3) (p := 41) (M := 6) (al' := [some (.ref 0), some (.int x1), some (.int x2), some (.ref v38), none, none]) (by decide +kernel) rfl mx_107 rfl rfl ?_
          refine fs_aload_n (k := 3) (p := 42) (by decide +kernel) rfl rfl ?_
          refine fs_bipush (n := 32) (p := 44) (by decide +kernel) rfl kb_32 ?_
          obtain ⟨q43, w42, h⟩ := fx_bd h
          refine fs_callV (idx := 150) (mj := 19) (ci := 2) (na := 1) (mx := 2) (p := 47) (args := [.ref v38, .int (32 : Int32)]) (rest := []) (al2 := [some (.ref v38), some (.int (32 : Int32))]) (by decide +kernel) rfl (by decide +kernel) g40 rfl rfl rfl rfl rfl rfl rfl (by omega) (fun d' hd' => fe_19 (by omega) w42) rfl ?_
          refine fs_pop (p := 48) (by decide +kernel) rfl rfl ?_
          refine fs_aload_n (k := 3) (p := 49) (by decide +kernel) rfl rfl ?_
          refine fs_gfr (idx := 264) (ci := 2) (j := 1) (p := 52) (by decide +kernel) rfl (by decide +kernel) g40 (fr_2_1 g40) ?_
          refine fs_iload_n (k := 2) (p := 53) (by decide +kernel) rfl rfl ?_
          obtain ⟨v44, w45, h⟩ := fx_bd h
          refine fs_iaload (p := 54) (by decide +kernel) rfl w45 ?_
          refine fs_istore (k := 4) (p := 56) (M := 6) (al' := [some (.ref 0), some (.int x1), some (.int x2), some (.ref v38), some (.int v44), none]) (by decide +kernel) rfl mx_107 rfl rfl ?_
          refine fs_iconst (n := 1) (p := 57) (by decide +kernel) rfl kc_1 ?_
          refine fs_aload_n (k := 0) (p := 58) (by decide +kernel) rfl rfl ?_
          refine fs_gfr (idx := 13) (ci := 9) (j := 1) (p := 61) (by decide +kernel) rfl (by decide +kernel) fo_0 (fr_a0_1) ?_
          refine fs_gfi (idx := 174) (ci := 6) (j := 5) (p := 64) (by decide +kernel) rfl (by decide +kernel) fo_1 ?_
          refine fs_max (idx := 267) (p := 67) (by decide +kernel) rfl (by decide +kernel) rfl ?_
          refine fs_istore (k := 5) (p := 69) (M := 6) (al' := [some (.ref 0), some (.int x1), some (.int x2), some (.ref v38), some (.int v44), some (.int (if (1 : Int32) < (q43.1 1 5) then (q43.1 1 5) else (1 : Int32)))]) (by decide +kernel) rfl mx_107 rfl rfl ?_
          refine fs_bipush (n := 12) (p := 71) (by decide +kernel) rfl kb_12 ?_
          refine fs_iload (k := 4) (p := 73) (by decide +kernel) rfl rfl ?_
          refine fs_iload (k := 5) (p := 75) (by decide +kernel) rfl rfl ?_
          obtain ⟨z49, h⟩ := fx_gd h
          refine fs_idiv (p := 76) (by decide +kernel) rfl z49 ?_
          refine fs_imul (p := 77) (by decide +kernel) rfl ?_
          refine fs_iload (k := 4) (p := 79) (by decide +kernel) rfl rfl ?_
          refine fs_iload (k := 5) (p := 81) (by decide +kernel) rfl rfl ?_
          obtain ⟨z50, h⟩ := fx_gd h
          refine fs_irem (p := 82) (by decide +kernel) rfl z50 ?_
          refine fs_iadd (p := 83) (by decide +kernel) rfl ?_
          have h := Option.some.inj h
          subst h
          exact fs_iret (by decide +kernel) rt_107
        · rw [if_neg c37] at h
          refine fs_icmp_lt_f (off := 5) (t := 34) (p := 32) (by decide +kernel) (by decide +kernel) rfl c37 ?_
          refine fs_iconst (n := -1) (p := 33) (by decide +kernel) rfl kc_m1 ?_
          have h := Option.some.inj h
          subst h
          exact fs_iret (by decide +kernel) rt_107

/-! ZoneShares.count(I)I -/
theorem mx_111 : iv_mx 111 = 2 := by decide +kernel
theorem rt_111 : iv_rt 111 = some .int := by decide +kernel
def fm_111 (x1 : Int32) (σ : fx_S) : Option (Int32 × fx_S) :=
  if x1 = (0 : Int32) then (
    (fm_58 1 σ).bind fun q50 =>
    some (q50.1, q50.2)) else (
    if x1 = (1 : Int32) then (
      some ((σ.1 1 4), σ)) else (
      if x1 = (2 : Int32) then (
        (fm_63 1 (0 : Int32) (8 : Int32) σ).bind fun q48 =>
        some (q48.1, q48.2)) else (
        if x1 = (3 : Int32) then (
          (fm_63 1 (1 : Int32) (8 : Int32) σ).bind fun q46 =>
          some (q46.1, q46.2)) else (
          if x1 = (4 : Int32) then (
            (fm_63 1 (2 : Int32) (4 : Int32) σ).bind fun q44 =>
            some (q44.1, q44.2)) else (
            if x1 = (5 : Int32) then (
              some ((σ.1 1 7), σ)) else (
              if x1 = (6 : Int32) then (
                some ((σ.1 1 8), σ)) else (
                if x1 = (7 : Int32) then (
                  some ((σ.1 1 6), σ)) else (
                  if x1 = (8 : Int32) then (
                    some ((σ.1 16 2), σ)) else (
                    if x1 = (9 : Int32) then (
                      some ((σ.1 14 1), σ)) else (
                      if x1 = (10 : Int32) then (
                        (fm_126 (1 : Int32) σ).bind fun q42 =>
                        some (q42.1, q42.2)) else (
                        if x1 = (11 : Int32) then (
                          (fm_126 (0 : Int32) σ).bind fun q40 =>
                          some (q40.1, q40.2)) else (
                          some ((-1 : Int32), σ)))))))))))))
theorem fe_111 {d : Nat} (hd : 6 ≤ d) {x1 : Int32} {σ : fx_S} {q : Int32 × fx_S} (h : fm_111 x1 σ = some q) : fx_E none 111 d 0 [some (.ref 0), some (.int x1)] [] σ (some (.int q.1)) q.2 := by
  unfold fm_111 at h
  refine fs_iload_n (k := 1) (p := 1) (by decide +kernel) rfl rfl ?_
  by_cases c26 : x1 = (0 : Int32)
  · rw [if_pos c26] at h
    refine fs_tsw_h (dflt := 163) (lo := 0) (hi := 11) (offs := #[63, 71, 79, 90, 101, 111, 119, 127, 135, 143, 151, 157]) (x := x1) (j := 0) (t := 64) (by decide +kernel) (by decide +kernel) (by decide) (c26.trans (by decide)) ?_
    refine fs_aload_n (k := 0) (p := 65) (by decide +kernel) rfl rfl ?_
    refine fs_gfr (idx := 13) (ci := 9) (j := 1) (p := 68) (by decide +kernel) rfl (by decide +kernel) fo_0 (fr_a0_1) ?_
    obtain ⟨q50, w49, h⟩ := fx_bd h
    refine fs_callV (idx := 90) (mj := 58) (ci := 6) (na := 0) (mx := 1) (p := 71) (args := [.ref 1]) (rest := []) (al2 := [some (.ref 1)]) (by decide +kernel) rfl (by decide +kernel) fo_1 rfl rfl rfl rfl rfl rfl rfl (by omega) (fun d' hd' => fe_58 (by omega) w49) rfl ?_
    have h := Option.some.inj h
    subst h
    exact fs_iret (by decide +kernel) rt_111
  · rw [if_neg c26] at h
    by_cases c27 : x1 = (1 : Int32)
    · rw [if_pos c27] at h
      refine fs_tsw_h (dflt := 163) (lo := 0) (hi := 11) (offs := #[63, 71, 79, 90, 101, 111, 119, 127, 135, 143, 151, 157]) (x := x1) (j := 1) (t := 72) (by decide +kernel) (by decide +kernel) (by decide) (c27.trans (by decide)) ?_
      refine fs_aload_n (k := 0) (p := 73) (by decide +kernel) rfl rfl ?_
      refine fs_gfr (idx := 13) (ci := 9) (j := 1) (p := 76) (by decide +kernel) rfl (by decide +kernel) fo_0 (fr_a0_1) ?_
      refine fs_gfi (idx := 297) (ci := 6) (j := 4) (p := 79) (by decide +kernel) rfl (by decide +kernel) fo_1 ?_
      have h := Option.some.inj h
      subst h
      exact fs_iret (by decide +kernel) rt_111
    · rw [if_neg c27] at h
      by_cases c28 : x1 = (2 : Int32)
      · rw [if_pos c28] at h
        refine fs_tsw_h (dflt := 163) (lo := 0) (hi := 11) (offs := #[63, 71, 79, 90, 101, 111, 119, 127, 135, 143, 151, 157]) (x := x1) (j := 2) (t := 80) (by decide +kernel) (by decide +kernel) (by decide) (c28.trans (by decide)) ?_
        refine fs_aload_n (k := 0) (p := 81) (by decide +kernel) rfl rfl ?_
        refine fs_gfr (idx := 13) (ci := 9) (j := 1) (p := 84) (by decide +kernel) rfl (by decide +kernel) fo_0 (fr_a0_1) ?_
        refine fs_iconst (n := 0) (p := 85) (by decide +kernel) rfl kc_0 ?_
        refine fs_bipush (n := 8) (p := 87) (by decide +kernel) rfl kb_8 ?_
        obtain ⟨q48, w47, h⟩ := fx_bd h
        refine fs_callV (idx := 300) (mj := 63) (ci := 6) (na := 2) (mx := 5) (p := 90) (args := [.ref 1, .int (0 : Int32), .int (8 : Int32)]) (rest := []) (al2 := [some (.ref 1), some (.int (0 : Int32)), some (.int (8 : Int32)), none, none]) (by decide +kernel) rfl (by decide +kernel) fo_1 rfl rfl rfl rfl rfl rfl rfl (by omega) (fun d' hd' => fe_63 (by omega) w47) rfl ?_
        have h := Option.some.inj h
        subst h
        exact fs_iret (by decide +kernel) rt_111
      · rw [if_neg c28] at h
        by_cases c29 : x1 = (3 : Int32)
        · rw [if_pos c29] at h
          refine fs_tsw_h (dflt := 163) (lo := 0) (hi := 11) (offs := #[63, 71, 79, 90, 101, 111, 119, 127, 135, 143, 151, 157]) (x := x1) (j := 3) (t := 91) (by decide +kernel) (by decide +kernel) (by decide) (c29.trans (by decide)) ?_
          refine fs_aload_n (k := 0) (p := 92) (by decide +kernel) rfl rfl ?_
          refine fs_gfr (idx := 13) (ci := 9) (j := 1) (p := 95) (by decide +kernel) rfl (by decide +kernel) fo_0 (fr_a0_1) ?_
          refine fs_iconst (n := 1) (p := 96) (by decide +kernel) rfl kc_1 ?_
          refine fs_bipush (n := 8) (p := 98) (by decide +kernel) rfl kb_8 ?_
          obtain ⟨q46, w45, h⟩ := fx_bd h
          refine fs_callV (idx := 300) (mj := 63) (ci := 6) (na := 2) (mx := 5) (p := 101) (args := [.ref 1, .int (1 : Int32), .int (8 : Int32)]) (rest := []) (al2 := [some (.ref 1), some (.int (1 : Int32)), some (.int (8 : Int32)), none, none]) (by decide +kernel) rfl (by decide +kernel) fo_1 rfl rfl rfl rfl rfl rfl rfl (by omega) (fun d' hd' => fe_63 (by omega) w45) rfl ?_
          have h := Option.some.inj h
          subst h
          exact fs_iret (by decide +kernel) rt_111
        · rw [if_neg c29] at h
          by_cases c30 : x1 = (4 : Int32)
          · rw [if_pos c30] at h
            refine fs_tsw_h (dflt := 163) (lo := 0) (hi := 11) (offs := #[63, 71, 79, 90, 101, 111, 119, 127, 135, 143, 151, 157]) (x := x1) (j := 4) (t := 102) (by decide +kernel) (by decide +kernel) (by decide) (c30.trans (by decide)) ?_
            refine fs_aload_n (k := 0) (p := 103) (by decide +kernel) rfl rfl ?_
            refine fs_gfr (idx := 13) (ci := 9) (j := 1) (p := 106) (by decide +kernel) rfl (by decide +kernel) fo_0 (fr_a0_1) ?_
            refine fs_iconst (n := 2) (p := 107) (by decide +kernel) rfl kc_2 ?_
            refine fs_iconst (n := 4) (p := 108) (by decide +kernel) rfl kc_4 ?_
            obtain ⟨q44, w43, h⟩ := fx_bd h
            refine fs_callV (idx := 300) (mj := 63) (ci := 6) (na := 2) (mx := 5) (p := 111) (args := [.ref 1, .int (2 : Int32), .int (4 : Int32)]) (rest := []) (al2 := [some (.ref 1), some (.int (2 : Int32)), some (.int (4 : Int32)), none, none]) (by decide +kernel) rfl (by decide +kernel) fo_1 rfl rfl rfl rfl rfl rfl rfl (by omega) (fun d' hd' => fe_63 (by omega) w43) rfl ?_
            have h := Option.some.inj h
            subst h
            exact fs_iret (by decide +kernel) rt_111
          · rw [if_neg c30] at h
            by_cases c31 : x1 = (5 : Int32)
            · rw [if_pos c31] at h
              refine fs_tsw_h (dflt := 163) (lo := 0) (hi := 11) (offs := #[63, 71, 79, 90, 101, 111, 119, 127, 135, 143, 151, 157]) (x := x1) (j := 5) (t := 112) (by decide +kernel) (by decide +kernel) (by decide) (c31.trans (by decide)) ?_
              refine fs_aload_n (k := 0) (p := 113) (by decide +kernel) rfl rfl ?_
              refine fs_gfr (idx := 13) (ci := 9) (j := 1) (p := 116) (by decide +kernel) rfl (by decide +kernel) fo_0 (fr_a0_1) ?_
              refine fs_gfi (idx := 122) (ci := 6) (j := 7) (p := 119) (by decide +kernel) rfl (by decide +kernel) fo_1 ?_
              have h := Option.some.inj h
              subst h
              exact fs_iret (by decide +kernel) rt_111
            · rw [if_neg c31] at h
              by_cases c32 : x1 = (6 : Int32)
              · rw [if_pos c32] at h
                refine fs_tsw_h (dflt := 163) (lo := 0) (hi := 11) (offs := #[63, 71, 79, 90, 101, 111, 119, 127, 135, 143, 151, 157]) (x := x1) (j := 6) (t := 120) (by decide +kernel) (by decide +kernel) (by decide) (c32.trans (by decide)) ?_
                refine fs_aload_n (k := 0) (p := 121) (by decide +kernel) rfl rfl ?_
                refine fs_gfr (idx := 13) (ci := 9) (j := 1) (p := 124) (by decide +kernel) rfl (by decide +kernel) fo_0 (fr_a0_1) ?_
                refine fs_gfi (idx := 125) (ci := 6) (j := 8) (p := 127) (by decide +kernel) rfl (by decide +kernel) fo_1 ?_
                have h := Option.some.inj h
                subst h
                exact fs_iret (by decide +kernel) rt_111
              · rw [if_neg c32] at h
                by_cases c33 : x1 = (7 : Int32)
                · rw [if_pos c33] at h
                  refine fs_tsw_h (dflt := 163) (lo := 0) (hi := 11) (offs := #[63, 71, 79, 90, 101, 111, 119, 127, 135, 143, 151, 157]) (x := x1) (j := 7) (t := 128) (by decide +kernel) (by decide +kernel) (by decide) (c33.trans (by decide)) ?_
                  refine fs_aload_n (k := 0) (p := 129) (by decide +kernel) rfl rfl ?_
                  refine fs_gfr (idx := 13) (ci := 9) (j := 1) (p := 132) (by decide +kernel) rfl (by decide +kernel) fo_0 (fr_a0_1) ?_
                  refine fs_gfi (idx := 303) (ci := 6) (j := 6) (p := 135) (by decide +kernel) rfl (by decide +kernel) fo_1 ?_
                  have h := Option.some.inj h
                  subst h
                  exact fs_iret (by decide +kernel) rt_111
                · rw [if_neg c33] at h
                  by_cases c34 : x1 = (8 : Int32)
                  · rw [if_pos c34] at h
                    refine fs_tsw_h (dflt := 163) (lo := 0) (hi := 11) (offs := #[63, 71, 79, 90, 101, 111, 119, 127, 135, 143, 151, 157]) (x := x1) (j := 8) (t := 136) (by decide +kernel) (by decide +kernel) (by decide) (c34.trans (by decide)) ?_
                    refine fs_aload_n (k := 0) (p := 137) (by decide +kernel) rfl rfl ?_
                    refine fs_gfr (idx := 29) (ci := 9) (j := 2) (p := 140) (by decide +kernel) rfl (by decide +kernel) fo_0 (fr_a0_2) ?_
                    refine fs_gfi (idx := 160) (ci := 3) (j := 2) (p := 143) (by decide +kernel) rfl (by decide +kernel) fo_16 ?_
                    have h := Option.some.inj h
                    subst h
                    exact fs_iret (by decide +kernel) rt_111
                  · rw [if_neg c34] at h
                    by_cases c35 : x1 = (9 : Int32)
                    · rw [if_pos c35] at h
                      refine fs_tsw_h (dflt := 163) (lo := 0) (hi := 11) (offs := #[63, 71, 79, 90, 101, 111, 119, 127, 135, 143, 151, 157]) (x := x1) (j := 9) (t := 144) (by decide +kernel) (by decide +kernel) (by decide) (c35.trans (by decide)) ?_
                      refine fs_aload_n (k := 0) (p := 145) (by decide +kernel) rfl rfl ?_
                      refine fs_gfr (idx := 22) (ci := 9) (j := 0) (p := 148) (by decide +kernel) rfl (by decide +kernel) fo_0 (fr_a0_0) ?_
                      refine fs_gfi (idx := 67) (ci := 8) (j := 1) (p := 151) (by decide +kernel) rfl (by decide +kernel) fo_14 ?_
                      have h := Option.some.inj h
                      subst h
                      exact fs_iret (by decide +kernel) rt_111
                    · rw [if_neg c35] at h
                      by_cases c36 : x1 = (10 : Int32)
                      · rw [if_pos c36] at h
                        refine fs_tsw_h (dflt := 163) (lo := 0) (hi := 11) (offs := #[63, 71, 79, 90, 101, 111, 119, 127, 135, 143, 151, 157]) (x := x1) (j := 10) (t := 152) (by decide +kernel) (by decide +kernel) (by decide) (c36.trans (by decide)) ?_
                        refine fs_aload_n (k := 0) (p := 153) (by decide +kernel) rfl rfl ?_
                        refine fs_iconst (n := 1) (p := 154) (by decide +kernel) rfl kc_1 ?_
                        obtain ⟨q42, w41, h⟩ := fx_bd h
                        refine fs_callV (idx := 306) (mj := 126) (ci := 9) (na := 1) (mx := 5) (p := 157) (args := [.ref 0, .int (1 : Int32)]) (rest := []) (al2 := [some (.ref 0), some (.int (1 : Int32)), none, none, none]) (by decide +kernel) rfl (by decide +kernel) fo_0 rfl rfl rfl rfl rfl rfl rfl (by omega) (fun d' hd' => fe_126 (by omega) w41) rfl ?_
                        have h := Option.some.inj h
                        subst h
                        exact fs_iret (by decide +kernel) rt_111
                      · rw [if_neg c36] at h
                        by_cases c37 : x1 = (11 : Int32)
                        · rw [if_pos c37] at h
                          refine fs_tsw_h (dflt := 163) (lo := 0) (hi := 11) (offs := #[63, 71, 79, 90, 101, 111, 119, 127, 135, 143, 151, 157]) (x := x1) (j := 11) (t := 158) (by decide +kernel) (by decide +kernel) (by decide) (c37.trans (by decide)) ?_
                          refine fs_aload_n (k := 0) (p := 159) (by decide +kernel) rfl rfl ?_
                          refine fs_iconst (n := 0) (p := 160) (by decide +kernel) rfl kc_0 ?_
                          obtain ⟨q40, w39, h⟩ := fx_bd h
                          refine fs_callV (idx := 306) (mj := 126) (ci := 9) (na := 1) (mx := 5) (p := 163) (args := [.ref 0, .int (0 : Int32)]) (rest := []) (al2 := [some (.ref 0), some (.int (0 : Int32)), none, none, none]) (by decide +kernel) rfl (by decide +kernel) fo_0 rfl rfl rfl rfl rfl rfl rfl (by omega) (fun d' hd' => fe_126 (by omega) w39) rfl ?_
                          have h := Option.some.inj h
                          subst h
                          exact fs_iret (by decide +kernel) rt_111
                        · rw [if_neg c37] at h
                          refine fs_tsw_d (dflt := 163) (lo := 0) (hi := 11) (offs := #[63, 71, 79, 90, 101, 111, 119, 127, 135, 143, 151, 157]) (x := x1) (t := 164) (by decide +kernel) (by decide +kernel) (by decide) (by decide) (fun j hj => by match j, hj with | 0, _ => exact c26 | 1, _ => exact c27 | 2, _ => exact c28 | 3, _ => exact c29 | 4, _ => exact c30 | 5, _ => exact c31 | 6, _ => exact c32 | 7, _ => exact c33 | 8, _ => exact c34 | 9, _ => exact c35 | 10, _ => exact c36 | 11, _ => exact c37) ?_
                          refine fs_iconst (n := -1) (p := 165) (by decide +kernel) rfl kc_m1 ?_
                          have h := Option.some.inj h
                          subst h
                          exact fs_iret (by decide +kernel) rt_111

/-! ZoneSharesModel.finds(I)Z -/
theorem mx_168 : iv_mx 168 = 3 := by decide +kernel
theorem rt_168 : iv_rt 168 = some .boolean := by decide +kernel
def fm_168_111 (k168 : Int32 → fx_S → Option (Bool × fx_S)) (k169 : Int32 → fx_S → Option (Bool × fx_S)) (k_2 : Int32 → Int32 → fx_S → Option (Bool × fx_S)) (x1 : Int32) (x2 : Int32) (σ : fx_S) : Option (Bool × fx_S) :=
  k_2 x1 (x2 + (1 : Int32)) σ
theorem fe_168_111 {d : Nat} (hd : 2 ≤ d) {k168 : Int32 → fx_S → Option (Bool × fx_S)} {k169 : Int32 → fx_S → Option (Bool × fx_S)} (hk168 : ∀ (x1 : Int32) (σ : fx_S) (q : Bool × fx_S) (d' : Nat), d = d' + 1 → k168 x1 σ = some q → fx_E none 168 d' 0 [some (.ref 215), some (.int x1), none] [] σ (some (.int (fx_b q.1))) q.2) (hk169 : ∀ (x1 : Int32) (σ : fx_S) (q : Bool × fx_S) (d' : Nat), d = d' + 1 → k169 x1 σ = some q → fx_E none 169 d' 0 [some (.ref 215), some (.int x1), none] [] σ (some (.int (fx_b q.1))) q.2) {k_2 : Int32 → Int32 → fx_S → Option (Bool × fx_S)} (hk_2 : ∀ (x1 : Int32) (x2 : Int32) (σ : fx_S) (q : Bool × fx_S), k_2 x1 x2 σ = some q → fx_E none 168 d 2 [some (.ref 215), some (.int x1), some (.int x2)] [] σ (some (.int (fx_b q.1))) q.2) (x1 : Int32) (x2 : Int32) (σ : fx_S) (q : Bool × fx_S) (h : fm_168_111 k168 k169 k_2  x1 x2 σ = some q) : fx_E none 168 d 111 [some (.ref 215), some (.int x1), some (.int x2)] [] σ (some (.int (fx_b q.1))) q.2 := by
  unfold fm_168_111 at h
  refine fs_iinc (k := 2) (n := 1) (p := 114) (M := 3) (al' := [some (.ref 215), some (.int x1), some (.int (x2 + (1 : Int32)))]) (by decide +kernel) rfl kc_1 mx_168 rfl rfl rfl ?_
  refine fs_goto (off := -112) (p := 2) (by decide +kernel) (by decide +kernel) ?_
  exact hk_2 _ _ _ _ h
def fm_168_88 (k168 : Int32 → fx_S → Option (Bool × fx_S)) (k169 : Int32 → fx_S → Option (Bool × fx_S)) (x1 : Int32) (x2 : Int32) (σ : fx_S) : Option (Bool × fx_S) :=
  (fm_160 x1 x2 σ).bind fun q2 =>
  (fx_stb q2.2 232 q2.1 (1 : Int32)).bind fun t3 =>
  (fx_ldl t3 230 x2).bind fun v6 =>
  (fx_stl t3 230 x2 (v6 + (1 : Int64))).bind fun t9 =>
  some (true, t9)
theorem fe_168_88 {d : Nat} (hd : 2 ≤ d) {k168 : Int32 → fx_S → Option (Bool × fx_S)} {k169 : Int32 → fx_S → Option (Bool × fx_S)} (hk168 : ∀ (x1 : Int32) (σ : fx_S) (q : Bool × fx_S) (d' : Nat), d = d' + 1 → k168 x1 σ = some q → fx_E none 168 d' 0 [some (.ref 215), some (.int x1), none] [] σ (some (.int (fx_b q.1))) q.2) (hk169 : ∀ (x1 : Int32) (σ : fx_S) (q : Bool × fx_S) (d' : Nat), d = d' + 1 → k169 x1 σ = some q → fx_E none 169 d' 0 [some (.ref 215), some (.int x1), none] [] σ (some (.int (fx_b q.1))) q.2) (x1 : Int32) (x2 : Int32) (σ : fx_S) (q : Bool × fx_S) (h : fm_168_88 k168 k169  x1 x2 σ = some q) : fx_E none 168 d 88 [some (.ref 215), some (.int x1), some (.int x2)] [] σ (some (.int (fx_b q.1))) q.2 := by
  unfold fm_168_88 at h
  refine fs_aload_n (k := 0) (p := 89) (by decide +kernel) rfl rfl ?_
  refine fs_gfr (idx := 60) (ci := 10) (j := 25) (p := 92) (by decide +kernel) rfl (by decide +kernel) fo_215 (fr_a215_25) ?_
  refine fs_iload_n (k := 1) (p := 93) (by decide +kernel) rfl rfl ?_
  refine fs_iload_n (k := 2) (p := 94) (by decide +kernel) rfl rfl ?_
  obtain ⟨q2, w1, h⟩ := fx_bd h
  refine fs_callS (idx := 214) (mj := 160) (na := 2) (mx := 2) (p := 97) (args := [.int x1, .int x2]) (rest := [.ref 232]) (al2 := [some (.int x1), some (.int x2)]) (by decide +kernel) rfl (by decide +kernel) rfl rfl rfl rfl rfl rfl rfl (by omega) (fun d' hd' => fe_160 (by omega) w1) rfl ?_
  refine fs_iconst (n := 1) (p := 98) (by decide +kernel) rfl kc_1 ?_
  obtain ⟨t3, w4, h⟩ := fx_bd h
  refine fs_bastore (p := 99) (by decide +kernel) rfl w4 ?_
  refine fs_aload_n (k := 0) (p := 100) (by decide +kernel) rfl rfl ?_
  refine fs_gfr (idx := 54) (ci := 10) (j := 23) (p := 103) (by decide +kernel) rfl (by decide +kernel) fo_215 (fr_a215_23) ?_
  refine fs_iload_n (k := 2) (p := 104) (by decide +kernel) rfl rfl ?_
  refine fs_dup2 (p := 105) (by decide +kernel) rfl rfl rfl ?_
  obtain ⟨v6, w7, h⟩ := fx_bd h
  refine fs_laload (p := 106) (by decide +kernel) rfl w7 ?_
  refine fs_lconst (n := 1) (p := 107) (by decide +kernel) rfl kl_1 ?_
  refine fs_ladd (p := 108) (by decide +kernel) rfl ?_
  obtain ⟨t9, w10, h⟩ := fx_bd h
  refine fs_lastore (p := 109) (by decide +kernel) rfl w10 ?_
  refine fs_iconst (n := 1) (p := 110) (by decide +kernel) rfl kc_1 ?_
  have h := Option.some.inj h
  subst h
  exact fs_zret (b := true) (by decide +kernel) rt_168
def fm_168_2 (k168 : Int32 → fx_S → Option (Bool × fx_S)) (k169 : Int32 → fx_S → Option (Bool × fx_S)) : Nat → Int32 → Int32 → fx_S → Option (Bool × fx_S)
  | 0, _, _, _ => none
  | n + 1, x1, x2, σ =>
    if (σ.1 215 18) ≤ x2 then (
      some (false, σ)) else (
      (fm_167 x1 x2 σ).bind fun q5 =>
      if (fx_b q5.1) = 0 then (
        fm_168_111 k168 k169 (fm_168_2 k168 k169 n) x1 x2 q5.2) else (
        (fm_160 x1 x2 q5.2).bind fun q8 =>
        (fx_ldb q8.2 233 q8.1).bind fun v9 =>
        if ¬ v9 = 0 then (
          fm_168_111 k168 k169 (fm_168_2 k168 k169 n) x1 x2 q8.2) else (
          (fm_160 x1 x2 q8.2).bind fun q15 =>
          (fx_ldb q15.2 232 q15.1).bind fun v16 =>
          if ¬ v16 = 0 then (
            fm_168_111 k168 k169 (fm_168_2 k168 k169 n) x1 x2 q15.2) else (
            (fx_ldb q15.2 235 x2).bind fun v21 =>
            if v21 = 0 then (
              (fx_stb q15.2 235 x2 (1 : Int32)).bind fun t26 =>
              (fx_ldl t26 230 x2).bind fun v28 =>
              (fx_ldl t26 229 x2).bind fun v30 =>
              if v28 < v30 then (
                fm_168_88 k168 k169 x1 x2 t26) else (
                (k169 x2 t26).bind fun q36 =>
                if (fx_b q36.1) = 0 then (
                  fm_168_111 k168 k169 (fm_168_2 k168 k169 n) x1 x2 q36.2) else (
                  fm_168_88 k168 k169 x1 x2 q36.2))) else (
              fm_168_111 k168 k169 (fm_168_2 k168 k169 n) x1 x2 q15.2)))))
theorem fe_168_2 {d : Nat} (hd : 2 ≤ d) {k168 : Int32 → fx_S → Option (Bool × fx_S)} {k169 : Int32 → fx_S → Option (Bool × fx_S)} (hk168 : ∀ (x1 : Int32) (σ : fx_S) (q : Bool × fx_S) (d' : Nat), d = d' + 1 → k168 x1 σ = some q → fx_E none 168 d' 0 [some (.ref 215), some (.int x1), none] [] σ (some (.int (fx_b q.1))) q.2) (hk169 : ∀ (x1 : Int32) (σ : fx_S) (q : Bool × fx_S) (d' : Nat), d = d' + 1 → k169 x1 σ = some q → fx_E none 169 d' 0 [some (.ref 215), some (.int x1), none] [] σ (some (.int (fx_b q.1))) q.2) : ∀ (n : Nat) (x1 : Int32) (x2 : Int32) (σ : fx_S) (q : Bool × fx_S), fm_168_2 k168 k169 n x1 x2 σ = some q → fx_E none 168 d 2 [some (.ref 215), some (.int x1), some (.int x2)] [] σ (some (.int (fx_b q.1))) q.2 := by
  intro n
  induction n with
  | zero =>
    intro x1 x2 σ q  h
    rw [fm_168_2] at h
    exact fx_no h
  | succ n ih =>
    intro x1 x2 σ q  h
    rw [fm_168_2] at h
    refine fs_iload_n (k := 2) (p := 3) (by decide +kernel) rfl rfl ?_
    refine fs_aload_n (k := 0) (p := 4) (by decide +kernel) rfl rfl ?_
    refine fs_gfi (idx := 211) (ci := 10) (j := 18) (p := 7) (by decide +kernel) rfl (by decide +kernel) fo_215 ?_
    by_cases c3 : (σ.1 215 18) ≤ x2
    · rw [if_pos c3] at h
      refine fs_icmp_ge_t (off := 110) (t := 117) (by decide +kernel) (by decide +kernel) c3 ?_
      refine fs_iconst (n := 0) (p := 118) (by decide +kernel) rfl kc_0 ?_
      have h := Option.some.inj h
      subst h
      exact fs_zret (b := false) (by decide +kernel) rt_168
    · rw [if_neg c3] at h
      refine fs_icmp_ge_f (off := 110) (t := 117) (p := 10) (by decide +kernel) (by decide +kernel) rfl c3 ?_
      refine fs_aload_n (k := 0) (p := 11) (by decide +kernel) rfl rfl ?_
      refine fs_iload_n (k := 1) (p := 12) (by decide +kernel) rfl rfl ?_
      refine fs_iload_n (k := 2) (p := 13) (by decide +kernel) rfl rfl ?_
      obtain ⟨q5, w4, h⟩ := fx_bd h
      refine fs_callV (idx := 236) (mj := 167) (ci := 10) (na := 2) (mx := 3) (p := 16) (args := [.ref 215, .int x1, .int x2]) (rest := []) (al2 := [some (.ref 215), some (.int x1), some (.int x2)]) (by decide +kernel) rfl (by decide +kernel) fo_215 rfl rfl rfl rfl rfl rfl rfl (by omega) (fun d' hd' => fe_167 (by omega) w4) rfl ?_
      by_cases c6 : (fx_b q5.1) = 0
      · rw [if_pos c6] at h
        refine fs_if_eq_t (off := 95) (t := 111) (by decide +kernel) (by decide +kernel) c6 ?_
        exact fe_168_111 hd hk168 hk169 ih _ _ _ _ h
      · rw [if_neg c6] at h
        refine fs_if_eq_f (off := 95) (t := 111) (p := 19) (by decide +kernel) (by decide +kernel) rfl c6 ?_
        refine fs_aload_n (k := 0) (p := 20) (by decide +kernel) rfl rfl ?_
        refine fs_gfr (idx := 64) (ci := 10) (j := 26) (p := 23) (by decide +kernel) rfl (by decide +kernel) fo_215 (fr_a215_26) ?_
        refine fs_iload_n (k := 1) (p := 24) (by decide +kernel) rfl rfl ?_
        refine fs_iload_n (k := 2) (p := 25) (by decide +kernel) rfl rfl ?_
        obtain ⟨q8, w7, h⟩ := fx_bd h
        refine fs_callS (idx := 214) (mj := 160) (na := 2) (mx := 2) (p := 28) (args := [.int x1, .int x2]) (rest := [.ref 233]) (al2 := [some (.int x1), some (.int x2)]) (by decide +kernel) rfl (by decide +kernel) rfl rfl rfl rfl rfl rfl rfl (by omega) (fun d' hd' => fe_160 (by omega) w7) rfl ?_
        obtain ⟨v9, w10, h⟩ := fx_bd h
        refine fs_baload (p := 29) (by decide +kernel) rfl w10 ?_
        by_cases c13 : ¬ v9 = 0
        · rw [if_pos c13] at h
          refine fs_if_ne_t (off := 82) (t := 111) (by decide +kernel) (by decide +kernel) c13 ?_
          exact fe_168_111 hd hk168 hk169 ih _ _ _ _ h
        · rw [if_neg c13] at h
          refine fs_if_ne_f (off := 82) (t := 111) (p := 32) (by decide +kernel) (by decide +kernel) rfl c13 ?_
          refine fs_aload_n (k := 0) (p := 33) (by decide +kernel) rfl rfl ?_
          refine fs_gfr (idx := 60) (ci := 10) (j := 25) (p := 36) (by decide +kernel) rfl (by decide +kernel) fo_215 (fr_a215_25) ?_
          refine fs_iload_n (k := 1) (p := 37) (by decide +kernel) rfl rfl ?_
          refine fs_iload_n (k := 2) (p := 38) (by decide +kernel) rfl rfl ?_
          obtain ⟨q15, w14, h⟩ := fx_bd h
          refine fs_callS (idx := 214) (mj := 160) (na := 2) (mx := 2) (p := 41) (args := [.int x1, .int x2]) (rest := [.ref 232]) (al2 := [some (.int x1), some (.int x2)]) (by decide +kernel) rfl (by decide +kernel) rfl rfl rfl rfl rfl rfl rfl (by omega) (fun d' hd' => fe_160 (by omega) w14) rfl ?_
          obtain ⟨v16, w17, h⟩ := fx_bd h
          refine fs_baload (p := 42) (by decide +kernel) rfl w17 ?_
          by_cases c20 : ¬ v16 = 0
          · rw [if_pos c20] at h
            refine fs_if_ne_t (off := 69) (t := 111) (by decide +kernel) (by decide +kernel) c20 ?_
            exact fe_168_111 hd hk168 hk169 ih _ _ _ _ h
          · rw [if_neg c20] at h
            refine fs_if_ne_f (off := 69) (t := 111) (p := 45) (by decide +kernel) (by decide +kernel) rfl c20 ?_
            refine fs_aload_n (k := 0) (p := 46) (by decide +kernel) rfl rfl ?_
            refine fs_gfr (idx := 70) (ci := 10) (j := 28) (p := 49) (by decide +kernel) rfl (by decide +kernel) fo_215 (fr_a215_28) ?_
            refine fs_iload_n (k := 2) (p := 50) (by decide +kernel) rfl rfl ?_
            obtain ⟨v21, w22, h⟩ := fx_bd h
            refine fs_baload (p := 51) (by decide +kernel) rfl w22 ?_
            by_cases c25 : v21 = 0
            · rw [if_pos c25] at h
              refine fs_if_eq_t (off := 6) (t := 57) (by decide +kernel) (by decide +kernel) c25 ?_
              refine fs_aload_n (k := 0) (p := 58) (by decide +kernel) rfl rfl ?_
              refine fs_gfr (idx := 70) (ci := 10) (j := 28) (p := 61) (by decide +kernel) rfl (by decide +kernel) fo_215 (fr_a215_28) ?_
              refine fs_iload_n (k := 2) (p := 62) (by decide +kernel) rfl rfl ?_
              refine fs_iconst (n := 1) (p := 63) (by decide +kernel) rfl kc_1 ?_
              obtain ⟨t26, w27, h⟩ := fx_bd h
              refine fs_bastore (p := 64) (by decide +kernel) rfl w27 ?_
              refine fs_aload_n (k := 0) (p := 65) (by decide +kernel) rfl rfl ?_
              refine fs_gfr (idx := 54) (ci := 10) (j := 23) (p := 68) (by decide +kernel) rfl (by decide +kernel) fo_215 (fr_a215_23) ?_
              refine fs_iload_n (k := 2) (p := 69) (by decide +kernel) rfl rfl ?_
              obtain ⟨v28, w29, h⟩ := fx_bd h
              refine fs_laload (p := 70) (by decide +kernel) rfl w29 ?_
              refine fs_aload_n (k := 0) (p := 71) (by decide +kernel) rfl rfl ?_
              refine fs_gfr (idx := 51) (ci := 10) (j := 22) (p := 74) (by decide +kernel) rfl (by decide +kernel) fo_215 (fr_a215_22) ?_
              refine fs_iload_n (k := 2) (p := 75) (by decide +kernel) rfl rfl ?_
              obtain ⟨v30, w31, h⟩ := fx_bd h
              refine fs_laload (p := 76) (by decide +kernel) rfl w31 ?_
              by_cases c34 : v28 < v30
              · rw [if_pos c34] at h
                refine fs_lcmp_lt_t (off := 11) (t := 88) (by decide +kernel) (by decide +kernel) (by decide +kernel) c34 ?_
                exact fe_168_88 hd hk168 hk169 _ _ _ _ h
              · rw [if_neg c34] at h
                refine fs_lcmp_lt_f (off := 11) (t := 88) (p := 80) (by decide +kernel) (by decide +kernel) (by decide +kernel) rfl c34 ?_
                refine fs_aload_n (k := 0) (p := 81) (by decide +kernel) rfl rfl ?_
                refine fs_iload_n (k := 2) (p := 82) (by decide +kernel) rfl rfl ?_
                obtain ⟨q36, w35, h⟩ := fx_bd h
                refine fs_callV (idx := 239) (mj := 169) (ci := 10) (na := 1) (mx := 3) (p := 85) (args := [.ref 215, .int x2]) (rest := []) (al2 := [some (.ref 215), some (.int x2), none]) (by decide +kernel) rfl (by decide +kernel) fo_215 rfl rfl rfl rfl rfl rfl rfl (by omega) (fun d' hd' => hk169 _ _ _  d' hd' w35) rfl ?_
                by_cases c37 : (fx_b q36.1) = 0
                · rw [if_pos c37] at h
                  refine fs_if_eq_t (off := 26) (t := 111) (by decide +kernel) (by decide +kernel) c37 ?_
                  exact fe_168_111 hd hk168 hk169 ih _ _ _ _ h
                · rw [if_neg c37] at h
                  refine fs_if_eq_f (off := 26) (t := 111) (p := 88) (by decide +kernel) (by decide +kernel) rfl c37 ?_
                  exact fe_168_88 hd hk168 hk169 _ _ _ _ h
            · rw [if_neg c25] at h
              refine fs_if_eq_f (off := 6) (t := 57) (p := 54) (by decide +kernel) (by decide +kernel) rfl c25 ?_
              refine fs_goto (off := 57) (p := 111) (by decide +kernel) (by decide +kernel) ?_
              exact fe_168_111 hd hk168 hk169 ih _ _ _ _ h
def fm_168o (k168 : Int32 → fx_S → Option (Bool × fx_S)) (k169 : Int32 → fx_S → Option (Bool × fx_S)) (x1 : Int32) (σ : fx_S) : Option (Bool × fx_S) :=
  fm_168_2 k168 k169 100000 x1 (0 : Int32) σ
theorem fe_168o {d : Nat} (hd : 2 ≤ d) {k168 : Int32 → fx_S → Option (Bool × fx_S)} {k169 : Int32 → fx_S → Option (Bool × fx_S)} (hk168 : ∀ (x1 : Int32) (σ : fx_S) (q : Bool × fx_S) (d' : Nat), d = d' + 1 → k168 x1 σ = some q → fx_E none 168 d' 0 [some (.ref 215), some (.int x1), none] [] σ (some (.int (fx_b q.1))) q.2) (hk169 : ∀ (x1 : Int32) (σ : fx_S) (q : Bool × fx_S) (d' : Nat), d = d' + 1 → k169 x1 σ = some q → fx_E none 169 d' 0 [some (.ref 215), some (.int x1), none] [] σ (some (.int (fx_b q.1))) q.2) {x1 : Int32} {σ : fx_S} {q : Bool × fx_S} (h : fm_168o k168 k169 x1 σ = some q) : fx_E none 168 d 0 [some (.ref 215), some (.int x1), none] [] σ (some (.int (fx_b q.1))) q.2 := by
  unfold fm_168o at h
  refine fs_iconst (n := 0) (p := 1) (by decide +kernel) rfl kc_0 ?_
  refine fs_istore_n (k := 2) (p := 2) (M := 3) (al' := [some (.ref 215), some (.int x1), some (.int (0 : Int32))]) (by decide +kernel) rfl mx_168 rfl rfl ?_
  exact fe_168_2 hd hk168 hk169 100000 _ _ _ _ h

/-! ZoneSharesModel.makesPlace(I)Z -/
theorem mx_169 : iv_mx 169 = 3 := by decide +kernel
theorem rt_169 : iv_rt 169 = some .boolean := by decide +kernel
def fm_169_67 (k168 : Int32 → fx_S → Option (Bool × fx_S)) (k169 : Int32 → fx_S → Option (Bool × fx_S)) (k_2 : Int32 → Int32 → fx_S → Option (Bool × fx_S)) (x1 : Int32) (x2 : Int32) (σ : fx_S) : Option (Bool × fx_S) :=
  k_2 x1 (x2 + (1 : Int32)) σ
theorem fe_169_67 {d : Nat} (hd : 1 ≤ d) {k168 : Int32 → fx_S → Option (Bool × fx_S)} {k169 : Int32 → fx_S → Option (Bool × fx_S)} (hk168 : ∀ (x1 : Int32) (σ : fx_S) (q : Bool × fx_S) (d' : Nat), d = d' + 1 → k168 x1 σ = some q → fx_E none 168 d' 0 [some (.ref 215), some (.int x1), none] [] σ (some (.int (fx_b q.1))) q.2) (hk169 : ∀ (x1 : Int32) (σ : fx_S) (q : Bool × fx_S) (d' : Nat), d = d' + 1 → k169 x1 σ = some q → fx_E none 169 d' 0 [some (.ref 215), some (.int x1), none] [] σ (some (.int (fx_b q.1))) q.2) {k_2 : Int32 → Int32 → fx_S → Option (Bool × fx_S)} (hk_2 : ∀ (x1 : Int32) (x2 : Int32) (σ : fx_S) (q : Bool × fx_S), k_2 x1 x2 σ = some q → fx_E none 169 d 2 [some (.ref 215), some (.int x1), some (.int x2)] [] σ (some (.int (fx_b q.1))) q.2) (x1 : Int32) (x2 : Int32) (σ : fx_S) (q : Bool × fx_S) (h : fm_169_67 k168 k169 k_2  x1 x2 σ = some q) : fx_E none 169 d 67 [some (.ref 215), some (.int x1), some (.int x2)] [] σ (some (.int (fx_b q.1))) q.2 := by
  unfold fm_169_67 at h
  refine fs_iinc (k := 2) (n := 1) (p := 70) (M := 3) (al' := [some (.ref 215), some (.int x1), some (.int (x2 + (1 : Int32)))]) (by decide +kernel) rfl kc_1 mx_169 rfl rfl rfl ?_
  refine fs_goto (off := -68) (p := 2) (by decide +kernel) (by decide +kernel) ?_
  exact hk_2 _ _ _ _ h
def fm_169_2 (k168 : Int32 → fx_S → Option (Bool × fx_S)) (k169 : Int32 → fx_S → Option (Bool × fx_S)) : Nat → Int32 → Int32 → fx_S → Option (Bool × fx_S)
  | 0, _, _, _ => none
  | n + 1, x1, x2, σ =>
    if (σ.1 215 17) ≤ x2 then (
      some (false, σ)) else (
      (fm_160 x2 x1 σ).bind fun q5 =>
      (fx_ldb q5.2 232 q5.1).bind fun v6 =>
      if v6 = 0 then (
        fm_169_67 k168 k169 (fm_169_2 k168 k169 n) x1 x2 q5.2) else (
        (fm_160 x2 x1 q5.2).bind fun q12 =>
        (fx_ldb q12.2 233 q12.1).bind fun v13 =>
        if ¬ v13 = 0 then (
          fm_169_67 k168 k169 (fm_169_2 k168 k169 n) x1 x2 q12.2) else (
          (k168 x2 q12.2).bind fun q19 =>
          if (fx_b q19.1) = 0 then (
            fm_169_67 k168 k169 (fm_169_2 k168 k169 n) x1 x2 q19.2) else (
            (fm_160 x2 x1 q19.2).bind fun q22 =>
            (fx_stb q22.2 232 q22.1 (0 : Int32)).bind fun t23 =>
            (fx_ldl t23 230 x1).bind fun v26 =>
            (fx_stl t23 230 x1 (v26 - (1 : Int64))).bind fun t29 =>
            some (true, t29)))))
theorem fe_169_2 {d : Nat} (hd : 1 ≤ d) {k168 : Int32 → fx_S → Option (Bool × fx_S)} {k169 : Int32 → fx_S → Option (Bool × fx_S)} (hk168 : ∀ (x1 : Int32) (σ : fx_S) (q : Bool × fx_S) (d' : Nat), d = d' + 1 → k168 x1 σ = some q → fx_E none 168 d' 0 [some (.ref 215), some (.int x1), none] [] σ (some (.int (fx_b q.1))) q.2) (hk169 : ∀ (x1 : Int32) (σ : fx_S) (q : Bool × fx_S) (d' : Nat), d = d' + 1 → k169 x1 σ = some q → fx_E none 169 d' 0 [some (.ref 215), some (.int x1), none] [] σ (some (.int (fx_b q.1))) q.2) : ∀ (n : Nat) (x1 : Int32) (x2 : Int32) (σ : fx_S) (q : Bool × fx_S), fm_169_2 k168 k169 n x1 x2 σ = some q → fx_E none 169 d 2 [some (.ref 215), some (.int x1), some (.int x2)] [] σ (some (.int (fx_b q.1))) q.2 := by
  intro n
  induction n with
  | zero =>
    intro x1 x2 σ q  h
    rw [fm_169_2] at h
    exact fx_no h
  | succ n ih =>
    intro x1 x2 σ q  h
    rw [fm_169_2] at h
    refine fs_iload_n (k := 2) (p := 3) (by decide +kernel) rfl rfl ?_
    refine fs_aload_n (k := 0) (p := 4) (by decide +kernel) rfl rfl ?_
    refine fs_gfi (idx := 208) (ci := 10) (j := 17) (p := 7) (by decide +kernel) rfl (by decide +kernel) fo_215 ?_
    by_cases c3 : (σ.1 215 17) ≤ x2
    · rw [if_pos c3] at h
      refine fs_icmp_ge_t (off := 66) (t := 73) (by decide +kernel) (by decide +kernel) c3 ?_
      refine fs_iconst (n := 0) (p := 74) (by decide +kernel) rfl kc_0 ?_
      have h := Option.some.inj h
      subst h
      exact fs_zret (b := false) (by decide +kernel) rt_169
    · rw [if_neg c3] at h
      refine fs_icmp_ge_f (off := 66) (t := 73) (p := 10) (by decide +kernel) (by decide +kernel) rfl c3 ?_
      refine fs_aload_n (k := 0) (p := 11) (by decide +kernel) rfl rfl ?_
      refine fs_gfr (idx := 60) (ci := 10) (j := 25) (p := 14) (by decide +kernel) rfl (by decide +kernel) fo_215 (fr_a215_25) ?_
      refine fs_iload_n (k := 2) (p := 15) (by decide +kernel) rfl rfl ?_
      refine fs_iload_n (k := 1) (p := 16) (by decide +kernel) rfl rfl ?_
      obtain ⟨q5, w4, h⟩ := fx_bd h
      refine fs_callS (idx := 214) (mj := 160) (na := 2) (mx := 2) (p := 19) (args := [.int x2, .int x1]) (rest := [.ref 232]) (al2 := [some (.int x2), some (.int x1)]) (by decide +kernel) rfl (by decide +kernel) rfl rfl rfl rfl rfl rfl rfl (by omega) (fun d' hd' => fe_160 (by omega) w4) rfl ?_
      obtain ⟨v6, w7, h⟩ := fx_bd h
      refine fs_baload (p := 20) (by decide +kernel) rfl w7 ?_
      by_cases c10 : v6 = 0
      · rw [if_pos c10] at h
        refine fs_if_eq_t (off := 47) (t := 67) (by decide +kernel) (by decide +kernel) c10 ?_
        exact fe_169_67 hd hk168 hk169 ih _ _ _ _ h
      · rw [if_neg c10] at h
        refine fs_if_eq_f (off := 47) (t := 67) (p := 23) (by decide +kernel) (by decide +kernel) rfl c10 ?_
        refine fs_aload_n (k := 0) (p := 24) (by decide +kernel) rfl rfl ?_
        refine fs_gfr (idx := 64) (ci := 10) (j := 26) (p := 27) (by decide +kernel) rfl (by decide +kernel) fo_215 (fr_a215_26) ?_
        refine fs_iload_n (k := 2) (p := 28) (by decide +kernel) rfl rfl ?_
        refine fs_iload_n (k := 1) (p := 29) (by decide +kernel) rfl rfl ?_
        obtain ⟨q12, w11, h⟩ := fx_bd h
        refine fs_callS (idx := 214) (mj := 160) (na := 2) (mx := 2) (p := 32) (args := [.int x2, .int x1]) (rest := [.ref 233]) (al2 := [some (.int x2), some (.int x1)]) (by decide +kernel) rfl (by decide +kernel) rfl rfl rfl rfl rfl rfl rfl (by omega) (fun d' hd' => fe_160 (by omega) w11) rfl ?_
        obtain ⟨v13, w14, h⟩ := fx_bd h
        refine fs_baload (p := 33) (by decide +kernel) rfl w14 ?_
        by_cases c17 : ¬ v13 = 0
        · rw [if_pos c17] at h
          refine fs_if_ne_t (off := 34) (t := 67) (by decide +kernel) (by decide +kernel) c17 ?_
          exact fe_169_67 hd hk168 hk169 ih _ _ _ _ h
        · rw [if_neg c17] at h
          refine fs_if_ne_f (off := 34) (t := 67) (p := 36) (by decide +kernel) (by decide +kernel) rfl c17 ?_
          refine fs_aload_n (k := 0) (p := 37) (by decide +kernel) rfl rfl ?_
          refine fs_iload_n (k := 2) (p := 38) (by decide +kernel) rfl rfl ?_
          obtain ⟨q19, w18, h⟩ := fx_bd h
          refine fs_callV (idx := 242) (mj := 168) (ci := 10) (na := 1) (mx := 3) (p := 41) (args := [.ref 215, .int x2]) (rest := []) (al2 := [some (.ref 215), some (.int x2), none]) (by decide +kernel) rfl (by decide +kernel) fo_215 rfl rfl rfl rfl rfl rfl rfl (by omega) (fun d' hd' => hk168 _ _ _  d' hd' w18) rfl ?_
          by_cases c20 : (fx_b q19.1) = 0
          · rw [if_pos c20] at h
            refine fs_if_eq_t (off := 26) (t := 67) (by decide +kernel) (by decide +kernel) c20 ?_
            exact fe_169_67 hd hk168 hk169 ih _ _ _ _ h
          · rw [if_neg c20] at h
            refine fs_if_eq_f (off := 26) (t := 67) (p := 44) (by decide +kernel) (by decide +kernel) rfl c20 ?_
            refine fs_aload_n (k := 0) (p := 45) (by decide +kernel) rfl rfl ?_
            refine fs_gfr (idx := 60) (ci := 10) (j := 25) (p := 48) (by decide +kernel) rfl (by decide +kernel) fo_215 (fr_a215_25) ?_
            refine fs_iload_n (k := 2) (p := 49) (by decide +kernel) rfl rfl ?_
            refine fs_iload_n (k := 1) (p := 50) (by decide +kernel) rfl rfl ?_
            obtain ⟨q22, w21, h⟩ := fx_bd h
            refine fs_callS (idx := 214) (mj := 160) (na := 2) (mx := 2) (p := 53) (args := [.int x2, .int x1]) (rest := [.ref 232]) (al2 := [some (.int x2), some (.int x1)]) (by decide +kernel) rfl (by decide +kernel) rfl rfl rfl rfl rfl rfl rfl (by omega) (fun d' hd' => fe_160 (by omega) w21) rfl ?_
            refine fs_iconst (n := 0) (p := 54) (by decide +kernel) rfl kc_0 ?_
            obtain ⟨t23, w24, h⟩ := fx_bd h
            refine fs_bastore (p := 55) (by decide +kernel) rfl w24 ?_
            refine fs_aload_n (k := 0) (p := 56) (by decide +kernel) rfl rfl ?_
            refine fs_gfr (idx := 54) (ci := 10) (j := 23) (p := 59) (by decide +kernel) rfl (by decide +kernel) fo_215 (fr_a215_23) ?_
            refine fs_iload_n (k := 1) (p := 60) (by decide +kernel) rfl rfl ?_
            refine fs_dup2 (p := 61) (by decide +kernel) rfl rfl rfl ?_
            obtain ⟨v26, w27, h⟩ := fx_bd h
            refine fs_laload (p := 62) (by decide +kernel) rfl w27 ?_
            refine fs_lconst (n := 1) (p := 63) (by decide +kernel) rfl kl_1 ?_
            refine fs_lsub (p := 64) (by decide +kernel) rfl ?_
            obtain ⟨t29, w30, h⟩ := fx_bd h
            refine fs_lastore (p := 65) (by decide +kernel) rfl w30 ?_
            refine fs_iconst (n := 1) (p := 66) (by decide +kernel) rfl kc_1 ?_
            have h := Option.some.inj h
            subst h
            exact fs_zret (b := true) (by decide +kernel) rt_169
def fm_169o (k168 : Int32 → fx_S → Option (Bool × fx_S)) (k169 : Int32 → fx_S → Option (Bool × fx_S)) (x1 : Int32) (σ : fx_S) : Option (Bool × fx_S) :=
  fm_169_2 k168 k169 100000 x1 (0 : Int32) σ
theorem fe_169o {d : Nat} (hd : 1 ≤ d) {k168 : Int32 → fx_S → Option (Bool × fx_S)} {k169 : Int32 → fx_S → Option (Bool × fx_S)} (hk168 : ∀ (x1 : Int32) (σ : fx_S) (q : Bool × fx_S) (d' : Nat), d = d' + 1 → k168 x1 σ = some q → fx_E none 168 d' 0 [some (.ref 215), some (.int x1), none] [] σ (some (.int (fx_b q.1))) q.2) (hk169 : ∀ (x1 : Int32) (σ : fx_S) (q : Bool × fx_S) (d' : Nat), d = d' + 1 → k169 x1 σ = some q → fx_E none 169 d' 0 [some (.ref 215), some (.int x1), none] [] σ (some (.int (fx_b q.1))) q.2) {x1 : Int32} {σ : fx_S} {q : Bool × fx_S} (h : fm_169o k168 k169 x1 σ = some q) : fx_E none 169 d 0 [some (.ref 215), some (.int x1), none] [] σ (some (.int (fx_b q.1))) q.2 := by
  unfold fm_169o at h
  refine fs_iconst (n := 0) (p := 1) (by decide +kernel) rfl kc_0 ?_
  refine fs_istore_n (k := 2) (p := 2) (M := 3) (al' := [some (.ref 215), some (.int x1), some (.int (0 : Int32))]) (by decide +kernel) rfl mx_169 rfl rfl ?_
  exact fe_169_2 hd hk168 hk169 100000 _ _ _ _ h

/-! finds and makesPlace, so many deep -/
def fm_168f : Nat → Int32 → fx_S → Option (Bool × fx_S)
  | 0, _, _ => none
  | n + 1, r, σ => fm_168o (fun _ _ => none) (fun c τ => fm_169o (fm_168f n) (fun _ _ => none) c τ) r σ
theorem fe_168f : ∀ (n : Nat) {d : Nat} (hd : 2 * n + 2 ≤ d) {x1 : Int32} {σ : fx_S} {q : Bool × fx_S} (h : fm_168f n x1 σ = some q), fx_E none 168 d 0 [some (.ref 215), some (.int x1), none] [] σ (some (.int (fx_b q.1))) q.2 := by
  intro n
  induction n with
  | zero => intro d hd x1 σ q h; exact fx_no h
  | succ n ih =>
    intro d hd x1 σ q h
    refine fe_168o (by omega) (fun _ _ _ _ _ h => fx_no h) (fun x1 σ q d' hd' h => ?_) h
    exact fe_169o (by omega) (fun x1 σ q d2 hd2 h => ih (by omega) h) (fun _ _ _ _ _ h => fx_no h) h
def fm_168 (x1 : Int32) (σ : fx_S) : Option (Bool × fx_S) := fm_168f 12 x1 σ
theorem fe_168 {d : Nat} (hd : 26 ≤ d) {x1 : Int32} {σ : fx_S} {q : Bool × fx_S} (h : fm_168 x1 σ = some q) : fx_E none 168 d 0 [some (.ref 215), some (.int x1), none] [] σ (some (.int (fx_b q.1))) q.2 := fe_168f 12 (by omega) h

/-! ZoneSharesModel.fitsFrom(II)V -/
theorem mx_211 : iv_mx 211 = 4 := by decide +kernel
theorem rt_211 : iv_rt 211 = none := by decide +kernel
def fm_211_113 (k211 : Int32 → Int32 → fx_S → Option (fx_S)) : Nat → Int32 → fx_S → Option (fx_S)
  | 0, _, _ => none
  | n + 1, x3, σ =>
    if (4 : Int32) ≤ x3 then (
      some σ) else (
      (fx_ld σ 243 x3).bind fun v3 =>
      (fx_st σ 244 x3 v3).bind fun t6 =>
      fm_211_113 k211 n (x3 + (1 : Int32)) t6)
theorem fe_211_113 {d : Nat} (hd : 2 ≤ d) {k211 : Int32 → Int32 → fx_S → Option (fx_S)} (hk211 : ∀ (x1 : Int32) (x2 : Int32) (σ : fx_S) (q : fx_S) (d' : Nat), d = d' + 1 → k211 x1 x2 σ = some q → fx_E none 211 d' 0 [some (.ref 215), some (.int x1), some (.int x2), none] [] σ none q) : ∀ (n : Nat) (x3 : Int32) (o1 : Option Value) (o2 : Option Value) (σ : fx_S) (q : fx_S), fm_211_113 k211 n x3 σ = some q → fx_E none 211 d 113 [some (.ref 215), o1, o2, some (.int x3)] [] σ none q := by
  intro n
  induction n with
  | zero =>
    intro x3 o1 o2 σ q  h
    rw [fm_211_113] at h
    exact fx_no h
  | succ n ih =>
    intro x3 o1 o2 σ q  h
    rw [fm_211_113] at h
    refine fs_iload_n (k := 3) (p := 114) (by decide +kernel) rfl rfl ?_
    refine fs_iconst (n := 4) (p := 115) (by decide +kernel) rfl kc_4 ?_
    by_cases c2 : (4 : Int32) ≤ x3
    · rw [if_pos c2] at h
      refine fs_icmp_ge_t (off := 21) (t := 136) (by decide +kernel) (by decide +kernel) c2 ?_
      have h := Option.some.inj h
      subst h
      exact fs_ret (by decide +kernel) rt_211
    · rw [if_neg c2] at h
      refine fs_icmp_ge_f (off := 21) (t := 136) (p := 118) (by decide +kernel) (by decide +kernel) rfl c2 ?_
      refine fs_aload_n (k := 0) (p := 119) (by decide +kernel) rfl rfl ?_
      refine fs_gfr (idx := 97) (ci := 10) (j := 39) (p := 122) (by decide +kernel) rfl (by decide +kernel) fo_215 (fr_a215_39) ?_
      refine fs_iload_n (k := 3) (p := 123) (by decide +kernel) rfl rfl ?_
      refine fs_aload_n (k := 0) (p := 124) (by decide +kernel) rfl rfl ?_
      refine fs_gfr (idx := 94) (ci := 10) (j := 38) (p := 127) (by decide +kernel) rfl (by decide +kernel) fo_215 (fr_a215_38) ?_
      refine fs_iload_n (k := 3) (p := 128) (by decide +kernel) rfl rfl ?_
      obtain ⟨v3, w4, h⟩ := fx_bd h
      refine fs_iaload (p := 129) (by decide +kernel) rfl w4 ?_
      obtain ⟨t6, w7, h⟩ := fx_bd h
      refine fs_iastore (p := 130) (by decide +kernel) rfl w7 ?_
      refine fs_iinc (k := 3) (n := 1) (p := 133) (M := 4) (al' := [some (.ref 215), o1, (fx_kl o2), some (.int (x3 + (1 : Int32)))]) (by decide +kernel) rfl kc_1 mx_211 rfl rfl rfl ?_
      refine fs_goto (off := -20) (p := 113) (by decide +kernel) (by decide +kernel) ?_
      exact ih _ _ _ _ _ h
def fm_211_90 (k211 : Int32 → Int32 → fx_S → Option (fx_S)) (σ : fx_S) : Option (fx_S) :=
  fm_211_113 k211 100000 (0 : Int32) (fx_w2 (fx_w2 (fx_w1 σ 215 43 (1 : Int32)) 215 44 ((fx_w1 σ 215 43 (1 : Int32)).2 215 40)) 215 45 ((fx_w2 (fx_w1 σ 215 43 (1 : Int32)) 215 44 ((fx_w1 σ 215 43 (1 : Int32)).2 215 40)).2 215 41))
theorem fe_211_90 {d : Nat} (hd : 2 ≤ d) {k211 : Int32 → Int32 → fx_S → Option (fx_S)} (hk211 : ∀ (x1 : Int32) (x2 : Int32) (σ : fx_S) (q : fx_S) (d' : Nat), d = d' + 1 → k211 x1 x2 σ = some q → fx_E none 211 d' 0 [some (.ref 215), some (.int x1), some (.int x2), none] [] σ none q) (o1 : Option Value) (o2 : Option Value) (σ : fx_S) (q : fx_S) (h : fm_211_90 k211  σ = some q) : fx_E none 211 d 90 [some (.ref 215), o1, o2, none] [] σ none q := by
  unfold fm_211_90 at h
  refine fs_aload_n (k := 0) (p := 91) (by decide +kernel) rfl rfl ?_
  refine fs_iconst (n := 1) (p := 92) (by decide +kernel) rfl kc_1 ?_
  refine fs_pfi (idx := 412) (ci := 10) (j := 43) (p := 95) (by decide +kernel) rfl (by decide +kernel) (by decide +kernel) fo_215 (fx_okd (by decide) (by decide +kernel)) ?_
  refine fs_aload_n (k := 0) (p := 96) (by decide +kernel) rfl rfl ?_
  refine fs_aload_n (k := 0) (p := 97) (by decide +kernel) rfl rfl ?_
  refine fs_gfl (idx := 388) (ci := 10) (j := 40) (p := 100) (by decide +kernel) rfl (by decide +kernel) fo_215 ?_
  refine fs_pfl (idx := 419) (ci := 10) (j := 44) (p := 103) (by decide +kernel) rfl (by decide +kernel) (by decide +kernel) fo_215 ?_
  refine fs_aload_n (k := 0) (p := 104) (by decide +kernel) rfl rfl ?_
  refine fs_aload_n (k := 0) (p := 105) (by decide +kernel) rfl rfl ?_
  refine fs_gfl (idx := 391) (ci := 10) (j := 41) (p := 108) (by decide +kernel) rfl (by decide +kernel) fo_215 ?_
  refine fs_pfl (idx := 416) (ci := 10) (j := 45) (p := 111) (by decide +kernel) rfl (by decide +kernel) (by decide +kernel) fo_215 ?_
  refine fs_iconst (n := 0) (p := 112) (by decide +kernel) rfl kc_0 ?_
  refine fs_istore_n (k := 3) (p := 113) (M := 4) (al' := [some (.ref 215), o1, (fx_kl o2), some (.int (0 : Int32))]) (by decide +kernel) rfl mx_211 rfl rfl ?_
  exact fe_211_113 hd hk211 100000 _ _ _ _ _ h
def fm_211_24 (k211 : Int32 → Int32 → fx_S → Option (fx_S)) : Nat → Int32 → Int32 → Int32 → fx_S → Option (fx_S)
  | 0, _, _, _, _ => none
  | n + 1, x1, x2, x3, σ =>
    if (10 : Int32) ≤ x3 then (
      some σ) else (
      (fx_st σ 243 x2 x3).bind fun t3 =>
      (k211 x1 (x2 + (1 : Int32)) t3).bind fun q7 =>
      fm_211_24 k211 n x1 x2 (x3 + (1 : Int32)) q7)
theorem fe_211_24 {d : Nat} (hd : 2 ≤ d) {k211 : Int32 → Int32 → fx_S → Option (fx_S)} (hk211 : ∀ (x1 : Int32) (x2 : Int32) (σ : fx_S) (q : fx_S) (d' : Nat), d = d' + 1 → k211 x1 x2 σ = some q → fx_E none 211 d' 0 [some (.ref 215), some (.int x1), some (.int x2), none] [] σ none q) : ∀ (n : Nat) (x1 : Int32) (x2 : Int32) (x3 : Int32) (σ : fx_S) (q : fx_S), fm_211_24 k211 n x1 x2 x3 σ = some q → fx_E none 211 d 24 [some (.ref 215), some (.int x1), some (.int x2), some (.int x3)] [] σ none q := by
  intro n
  induction n with
  | zero =>
    intro x1 x2 x3 σ q  h
    rw [fm_211_24] at h
    exact fx_no h
  | succ n ih =>
    intro x1 x2 x3 σ q  h
    rw [fm_211_24] at h
    refine fs_iload_n (k := 3) (p := 25) (by decide +kernel) rfl rfl ?_
    refine fs_bipush (n := 10) (p := 27) (by decide +kernel) rfl kb_10 ?_
    by_cases c2 : (10 : Int32) ≤ x3
    · rw [if_pos c2] at h
      refine fs_icmp_ge_t (off := 24) (t := 51) (by decide +kernel) (by decide +kernel) c2 ?_
      have h := Option.some.inj h
      subst h
      exact fs_ret (by decide +kernel) rt_211
    · rw [if_neg c2] at h
      refine fs_icmp_ge_f (off := 24) (t := 51) (p := 30) (by decide +kernel) (by decide +kernel) rfl c2 ?_
      refine fs_aload_n (k := 0) (p := 31) (by decide +kernel) rfl rfl ?_
      refine fs_gfr (idx := 94) (ci := 10) (j := 38) (p := 34) (by decide +kernel) rfl (by decide +kernel) fo_215 (fr_a215_38) ?_
      refine fs_iload_n (k := 2) (p := 35) (by decide +kernel) rfl rfl ?_
      refine fs_iload_n (k := 3) (p := 36) (by decide +kernel) rfl rfl ?_
      obtain ⟨t3, w4, h⟩ := fx_bd h
      refine fs_iastore (p := 37) (by decide +kernel) rfl w4 ?_
      refine fs_aload_n (k := 0) (p := 38) (by decide +kernel) rfl rfl ?_
      refine fs_iload_n (k := 1) (p := 39) (by decide +kernel) rfl rfl ?_
      refine fs_iload_n (k := 2) (p := 40) (by decide +kernel) rfl rfl ?_
      refine fs_iconst (n := 1) (p := 41) (by decide +kernel) rfl kc_1 ?_
      refine fs_iadd (p := 42) (by decide +kernel) rfl ?_
      obtain ⟨q7, w6, h⟩ := fx_bd h
      refine fs_callV (idx := 409) (mj := 211) (ci := 10) (na := 2) (mx := 4) (p := 45) (args := [.ref 215, .int x1, .int (x2 + (1 : Int32))]) (rest := []) (al2 := [some (.ref 215), some (.int x1), some (.int (x2 + (1 : Int32))), none]) (by decide +kernel) rfl (by decide +kernel) fo_215 rfl rfl rfl rfl rfl rfl rfl (by omega) (fun d' hd' => hk211 _ _ _ _  d' hd' w6) rfl ?_
      refine fs_iinc (k := 3) (n := 1) (p := 48) (M := 4) (al' := [some (.ref 215), some (.int x1), some (.int x2), some (.int (x3 + (1 : Int32)))]) (by decide +kernel) rfl kc_1 mx_211 rfl rfl rfl ?_
      refine fs_goto (off := -24) (p := 24) (by decide +kernel) (by decide +kernel) ?_
      exact ih _ _ _ _ _ h
def fm_211o (k211 : Int32 → Int32 → fx_S → Option (fx_S)) (x1 : Int32) (x2 : Int32) (σ : fx_S) : Option (fx_S) :=
  if (4 : Int32) ≤ x2 then (
    (fm_209 x1 σ).bind fun q34 =>
    if (fx_b q34.1) = 0 then (
      some q34.2) else (
      if (q34.2.1 215 43) = 0 then (
        fm_211_90 k211 q34.2) else (
        if ((q34.2.2 215 40) * (q34.2.2 215 45)) < ((q34.2.2 215 44) * (q34.2.2 215 41)) then (
          fm_211_90 k211 q34.2) else (
          some q34.2)))) else (
    (fm_207 x2 σ).bind fun q42 =>
    if ¬ q42.1 = 0 then (
      fm_211_24 k211 100000 x1 x2 (0 : Int32) q42.2) else (
      (k211 x1 (x2 + (1 : Int32)) q42.2).bind fun q46 =>
      some q46))
theorem fe_211o {d : Nat} (hd : 2 ≤ d) {k211 : Int32 → Int32 → fx_S → Option (fx_S)} (hk211 : ∀ (x1 : Int32) (x2 : Int32) (σ : fx_S) (q : fx_S) (d' : Nat), d = d' + 1 → k211 x1 x2 σ = some q → fx_E none 211 d' 0 [some (.ref 215), some (.int x1), some (.int x2), none] [] σ none q) {x1 : Int32} {x2 : Int32} {σ : fx_S} {q : fx_S} (h : fm_211o k211 x1 x2 σ = some q) : fx_E none 211 d 0 [some (.ref 215), some (.int x1), some (.int x2), none] [] σ none q := by
  unfold fm_211o at h
  refine fs_iload_n (k := 2) (p := 1) (by decide +kernel) rfl rfl ?_
  refine fs_iconst (n := 4) (p := 2) (by decide +kernel) rfl kc_4 ?_
  by_cases c32 : (4 : Int32) ≤ x2
  · rw [if_pos c32] at h
    refine fs_icmp_ge_t (off := 50) (t := 52) (by decide +kernel) (by decide +kernel) c32 ?_
    refine fs_aload_n (k := 0) (p := 53) (by decide +kernel) rfl rfl ?_
    refine fs_iload_n (k := 1) (p := 54) (by decide +kernel) rfl rfl ?_
    obtain ⟨q34, w33, h⟩ := fx_bd h
    refine fs_callV (idx := 403) (mj := 209) (ci := 10) (na := 1) (mx := 5) (p := 57) (args := [.ref 215, .int x1]) (rest := []) (al2 := [some (.ref 215), some (.int x1), none, none, none]) (by decide +kernel) rfl (by decide +kernel) fo_215 rfl rfl rfl rfl rfl rfl rfl (by omega) (fun d' hd' => fe_209 (by omega) w33) rfl ?_
    by_cases c35 : (fx_b q34.1) = 0
    · rw [if_pos c35] at h
      refine fs_if_eq_t (off := 32) (t := 89) (by decide +kernel) (by decide +kernel) c35 ?_
      have h := Option.some.inj h
      subst h
      exact fs_ret (by decide +kernel) rt_211
    · rw [if_neg c35] at h
      refine fs_if_eq_f (off := 32) (t := 89) (p := 60) (by decide +kernel) (by decide +kernel) rfl c35 ?_
      refine fs_aload_n (k := 0) (p := 61) (by decide +kernel) rfl rfl ?_
      refine fs_gfi (idx := 412) (ci := 10) (j := 43) (p := 64) (by decide +kernel) rfl (by decide +kernel) fo_215 ?_
      by_cases c37 : (q34.2.1 215 43) = 0
      · rw [if_pos c37] at h
        refine fs_if_eq_t (off := 26) (t := 90) (by decide +kernel) (by decide +kernel) c37 ?_
        exact fe_211_90 hd hk211 _ _ _ _ h
      · rw [if_neg c37] at h
        refine fs_if_eq_f (off := 26) (t := 90) (p := 67) (by decide +kernel) (by decide +kernel) rfl c37 ?_
        refine fs_aload_n (k := 0) (p := 68) (by decide +kernel) rfl rfl ?_
        refine fs_gfl (idx := 388) (ci := 10) (j := 40) (p := 71) (by decide +kernel) rfl (by decide +kernel) fo_215 ?_
        refine fs_aload_n (k := 0) (p := 72) (by decide +kernel) rfl rfl ?_
        refine fs_gfl (idx := 416) (ci := 10) (j := 45) (p := 75) (by decide +kernel) rfl (by decide +kernel) fo_215 ?_
        refine fs_lmul (p := 76) (by decide +kernel) rfl ?_
        refine fs_aload_n (k := 0) (p := 77) (by decide +kernel) rfl rfl ?_
        refine fs_gfl (idx := 419) (ci := 10) (j := 44) (p := 80) (by decide +kernel) rfl (by decide +kernel) fo_215 ?_
        refine fs_aload_n (k := 0) (p := 81) (by decide +kernel) rfl rfl ?_
        refine fs_gfl (idx := 391) (ci := 10) (j := 41) (p := 84) (by decide +kernel) rfl (by decide +kernel) fo_215 ?_
        refine fs_lmul (p := 85) (by decide +kernel) rfl ?_
        by_cases c40 : ((q34.2.2 215 40) * (q34.2.2 215 45)) < ((q34.2.2 215 44) * (q34.2.2 215 41))
        · rw [if_pos c40] at h
          refine fs_lcmp_lt_t (off := 4) (t := 90) (by decide +kernel) (by decide +kernel) (by decide +kernel) c40 ?_
          exact fe_211_90 hd hk211 _ _ _ _ h
        · rw [if_neg c40] at h
          refine fs_lcmp_lt_f (off := 4) (t := 90) (p := 89) (by decide +kernel) (by decide +kernel) (by decide +kernel) rfl c40 ?_
          have h := Option.some.inj h
          subst h
          exact fs_ret (by decide +kernel) rt_211
  · rw [if_neg c32] at h
    refine fs_icmp_ge_f (off := 50) (t := 52) (p := 5) (by decide +kernel) (by decide +kernel) rfl c32 ?_
    refine fs_aload_n (k := 0) (p := 6) (by decide +kernel) rfl rfl ?_
    refine fs_iload_n (k := 2) (p := 7) (by decide +kernel) rfl rfl ?_
    obtain ⟨q42, w41, h⟩ := fx_bd h
    refine fs_callV (idx := 406) (mj := 207) (ci := 10) (na := 1) (mx := 4) (p := 10) (args := [.ref 215, .int x2]) (rest := []) (al2 := [some (.ref 215), some (.int x2), none, none]) (by decide +kernel) rfl (by decide +kernel) fo_215 rfl rfl rfl rfl rfl rfl rfl (by omega) (fun d' hd' => fe_207 (by omega) w41) rfl ?_
    by_cases c44 : ¬ q42.1 = 0
    · rw [if_pos c44] at h
      refine fs_if_ne_t (off := 12) (t := 22) (by decide +kernel) (by decide +kernel) c44 ?_
      refine fs_iconst (n := 0) (p := 23) (by decide +kernel) rfl kc_0 ?_
      refine fs_istore_n (k := 3) (p := 24) (M := 4) (al' := [some (.ref 215), some (.int x1), some (.int x2), some (.int (0 : Int32))]) (by decide +kernel) rfl mx_211 rfl rfl ?_
      exact fe_211_24 hd hk211 100000 _ _ _ _ _ h
    · rw [if_neg c44] at h
      refine fs_if_ne_f (off := 12) (t := 22) (p := 13) (by decide +kernel) (by decide +kernel) rfl c44 ?_
      refine fs_aload_n (k := 0) (p := 14) (by decide +kernel) rfl rfl ?_
      refine fs_iload_n (k := 1) (p := 15) (by decide +kernel) rfl rfl ?_
      refine fs_iload_n (k := 2) (p := 16) (by decide +kernel) rfl rfl ?_
      refine fs_iconst (n := 1) (p := 17) (by decide +kernel) rfl kc_1 ?_
      refine fs_iadd (p := 18) (by decide +kernel) rfl ?_
      obtain ⟨q46, w45, h⟩ := fx_bd h
      refine fs_callV (idx := 409) (mj := 211) (ci := 10) (na := 2) (mx := 4) (p := 21) (args := [.ref 215, .int x1, .int (x2 + (1 : Int32))]) (rest := []) (al2 := [some (.ref 215), some (.int x1), some (.int (x2 + (1 : Int32))), none]) (by decide +kernel) rfl (by decide +kernel) fo_215 rfl rfl rfl rfl rfl rfl rfl (by omega) (fun d' hd' => hk211 _ _ _ _  d' hd' w45) rfl ?_
      have h := Option.some.inj h
      subst h
      exact fs_ret (by decide +kernel) rt_211

/-! fitsFrom, so many deep -/
def fm_211f : Nat → Int32 → Int32 → fx_S → Option (fx_S)
  | 0, _, _, _ => none
  | n + 1, g, l, σ => fm_211o (fm_211f n) g l σ
theorem fe_211f : ∀ (n : Nat) {d : Nat} (hd : n + 2 ≤ d) {x1 x2 : Int32} {σ q : fx_S} (h : fm_211f n x1 x2 σ = some q), fx_E none 211 d 0 [some (.ref 215), some (.int x1), some (.int x2), none] [] σ none q := by
  intro n
  induction n with
  | zero => intro d hd x1 x2 σ q h; exact fx_no h
  | succ n ih =>
    intro d hd x1 x2 σ q h
    exact fe_211o (by omega) (fun x1 x2 σ q d' hd' h => ih (by omega) h) h
def fm_211 (x1 x2 : Int32) (σ : fx_S) : Option (fx_S) := fm_211f 6 x1 x2 σ
theorem fe_211 {d : Nat} (hd : 8 ≤ d) {x1 x2 : Int32} {σ q : fx_S} (h : fm_211 x1 x2 σ = some q) : fx_E none 211 d 0 [some (.ref 215), some (.int x1), some (.int x2), none] [] σ none q := fe_211f 6 (by omega) h

/-! ZoneSharesModel.fillsUp()V -/
theorem mx_170 : iv_mx 170 = 4 := by decide +kernel
theorem rt_170 : iv_rt 170 = none := by decide +kernel
def fm_170_70 (k_10 : Int32 → Int32 → fx_S → Option (fx_S)) (x1 : Int32) (x2 : Int32) (σ : fx_S) : Option (fx_S) :=
  k_10 x1 (x2 + (1 : Int32)) σ
theorem fe_170_70 {d : Nat} (hd : 27 ≤ d) {k_10 : Int32 → Int32 → fx_S → Option (fx_S)} (hk_10 : ∀ (x1 : Int32) (x2 : Int32) (o3 : Option Value) (σ : fx_S) (q : fx_S), k_10 x1 x2 σ = some q → fx_E none 170 d 10 [some (.ref 215), some (.int x1), some (.int x2), o3] [] σ none q) (x1 : Int32) (x2 : Int32) (o3 : Option Value) (σ : fx_S) (q : fx_S) (h : fm_170_70 k_10  x1 x2 σ = some q) : fx_E none 170 d 70 [some (.ref 215), some (.int x1), some (.int x2), o3] [] σ none q := by
  unfold fm_170_70 at h
  refine fs_iinc (k := 2) (n := 1) (p := 73) (M := 4) (al' := [some (.ref 215), some (.int x1), some (.int (x2 + (1 : Int32))), o3]) (by decide +kernel) rfl kc_1 mx_170 rfl rfl rfl ?_
  refine fs_goto (off := -63) (p := 10) (by decide +kernel) (by decide +kernel) ?_
  exact hk_10 _ _ _ _ _ h
def fm_170_20 (k_10 : Int32 → Int32 → fx_S → Option (fx_S)) : Nat → Int32 → Int32 → Int32 → fx_S → Option (fx_S)
  | 0, _, _, _, _ => none
  | n + 1, x1, x2, x3, σ =>
    if (9 : Int32) ≤ x3 then (
      (fx_ldl σ 231 x2).bind fun v3 =>
      if v3 ≤ (0 : Int64) then (
        fm_170_70 k_10 x1 x2 σ) else (
        (fm_168 x2 σ).bind fun q9 =>
        if (fx_b q9.1) = 0 then (
          fm_170_70 k_10 x1 x2 q9.2) else (
          (fx_ldl q9.2 231 x2).bind fun v11 =>
          (fx_stl q9.2 231 x2 (v11 - (1 : Int64))).bind fun t13 =>
          fm_170_70 k_10 (1 : Int32) x2 t13))) else (
      (fx_stb σ 235 x3 (0 : Int32)).bind fun t15 =>
      fm_170_20 k_10 n x1 x2 (x3 + (1 : Int32)) t15)
theorem fe_170_20 {d : Nat} (hd : 27 ≤ d) {k_10 : Int32 → Int32 → fx_S → Option (fx_S)} (hk_10 : ∀ (x1 : Int32) (x2 : Int32) (o3 : Option Value) (σ : fx_S) (q : fx_S), k_10 x1 x2 σ = some q → fx_E none 170 d 10 [some (.ref 215), some (.int x1), some (.int x2), o3] [] σ none q) : ∀ (n : Nat) (x1 : Int32) (x2 : Int32) (x3 : Int32) (σ : fx_S) (q : fx_S), fm_170_20 k_10 n x1 x2 x3 σ = some q → fx_E none 170 d 20 [some (.ref 215), some (.int x1), some (.int x2), some (.int x3)] [] σ none q := by
  intro n
  induction n with
  | zero =>
    intro x1 x2 x3 σ q  h
    rw [fm_170_20] at h
    exact fx_no h
  | succ n ih =>
    intro x1 x2 x3 σ q  h
    rw [fm_170_20] at h
    refine fs_iload_n (k := 3) (p := 21) (by decide +kernel) rfl rfl ?_
    refine fs_bipush (n := 9) (p := 23) (by decide +kernel) rfl kb_9 ?_
    by_cases c2 : (9 : Int32) ≤ x3
    · rw [if_pos c2] at h
      refine fs_icmp_ge_t (off := 16) (t := 39) (by decide +kernel) (by decide +kernel) c2 ?_
      refine fs_aload_n (k := 0) (p := 40) (by decide +kernel) rfl rfl ?_
      refine fs_gfr (idx := 57) (ci := 10) (j := 24) (p := 43) (by decide +kernel) rfl (by decide +kernel) fo_215 (fr_a215_24) ?_
      refine fs_iload_n (k := 2) (p := 44) (by decide +kernel) rfl rfl ?_
      obtain ⟨v3, w4, h⟩ := fx_bd h
      refine fs_laload (p := 45) (by decide +kernel) rfl w4 ?_
      refine fs_lconst (n := 0) (p := 46) (by decide +kernel) rfl kl_0 ?_
      by_cases c7 : v3 ≤ (0 : Int64)
      · rw [if_pos c7] at h
        refine fs_lcmp_le_t (off := 23) (t := 70) (by decide +kernel) (by decide +kernel) (by decide +kernel) c7 ?_
        exact fe_170_70 hd hk_10 _ _ _ _ _ h
      · rw [if_neg c7] at h
        refine fs_lcmp_le_f (off := 23) (t := 70) (p := 50) (by decide +kernel) (by decide +kernel) (by decide +kernel) rfl c7 ?_
        refine fs_aload_n (k := 0) (p := 51) (by decide +kernel) rfl rfl ?_
        refine fs_iload_n (k := 2) (p := 52) (by decide +kernel) rfl rfl ?_
        obtain ⟨q9, w8, h⟩ := fx_bd h
        refine fs_callV (idx := 242) (mj := 168) (ci := 10) (na := 1) (mx := 3) (p := 55) (args := [.ref 215, .int x2]) (rest := []) (al2 := [some (.ref 215), some (.int x2), none]) (by decide +kernel) rfl (by decide +kernel) fo_215 rfl rfl rfl rfl rfl rfl rfl (by omega) (fun d' hd' => fe_168 (by omega) w8) rfl ?_
        by_cases c10 : (fx_b q9.1) = 0
        · rw [if_pos c10] at h
          refine fs_if_eq_t (off := 15) (t := 70) (by decide +kernel) (by decide +kernel) c10 ?_
          exact fe_170_70 hd hk_10 _ _ _ _ _ h
        · rw [if_neg c10] at h
          refine fs_if_eq_f (off := 15) (t := 70) (p := 58) (by decide +kernel) (by decide +kernel) rfl c10 ?_
          refine fs_aload_n (k := 0) (p := 59) (by decide +kernel) rfl rfl ?_
          refine fs_gfr (idx := 57) (ci := 10) (j := 24) (p := 62) (by decide +kernel) rfl (by decide +kernel) fo_215 (fr_a215_24) ?_
          refine fs_iload_n (k := 2) (p := 63) (by decide +kernel) rfl rfl ?_
          refine fs_dup2 (p := 64) (by decide +kernel) rfl rfl rfl ?_
          obtain ⟨v11, w12, h⟩ := fx_bd h
          refine fs_laload (p := 65) (by decide +kernel) rfl w12 ?_
          refine fs_lconst (n := 1) (p := 66) (by decide +kernel) rfl kl_1 ?_
          refine fs_lsub (p := 67) (by decide +kernel) rfl ?_
          obtain ⟨t13, w14, h⟩ := fx_bd h
          refine fs_lastore (p := 68) (by decide +kernel) rfl w14 ?_
          refine fs_iconst (n := 1) (p := 69) (by decide +kernel) rfl kc_1 ?_
          refine fs_istore_n (k := 1) (p := 70) (M := 4) (al' := [some (.ref 215), some (.int (1 : Int32)), some (.int x2), some (.int x3)]) (by decide +kernel) rfl mx_170 rfl rfl ?_
          exact fe_170_70 hd hk_10 _ _ _ _ _ h
    · rw [if_neg c2] at h
      refine fs_icmp_ge_f (off := 16) (t := 39) (p := 26) (by decide +kernel) (by decide +kernel) rfl c2 ?_
      refine fs_aload_n (k := 0) (p := 27) (by decide +kernel) rfl rfl ?_
      refine fs_gfr (idx := 70) (ci := 10) (j := 28) (p := 30) (by decide +kernel) rfl (by decide +kernel) fo_215 (fr_a215_28) ?_
      refine fs_iload_n (k := 3) (p := 31) (by decide +kernel) rfl rfl ?_
      refine fs_iconst (n := 0) (p := 32) (by decide +kernel) rfl kc_0 ?_
      obtain ⟨t15, w16, h⟩ := fx_bd h
      refine fs_bastore (p := 33) (by decide +kernel) rfl w16 ?_
      refine fs_iinc (k := 3) (n := 1) (p := 36) (M := 4) (al' := [some (.ref 215), some (.int x1), some (.int x2), some (.int (x3 + (1 : Int32)))]) (by decide +kernel) rfl kc_1 mx_170 rfl rfl rfl ?_
      refine fs_goto (off := -16) (p := 20) (by decide +kernel) (by decide +kernel) ?_
      exact ih _ _ _ _ _ h
def fm_170_10 (k_2 : Int32 → fx_S → Option (fx_S)) : Nat → Int32 → Int32 → fx_S → Option (fx_S)
  | 0, _, _, _ => none
  | n + 1, x1, x2, σ =>
    if (σ.1 215 17) ≤ x2 then (
      k_2 x1 σ) else (
      fm_170_20 (fm_170_10 k_2 n) 100000 x1 x2 (0 : Int32) σ)
theorem fe_170_10 {d : Nat} (hd : 27 ≤ d) {k_2 : Int32 → fx_S → Option (fx_S)} (hk_2 : ∀ (x1 : Int32) (o2 : Option Value) (o3 : Option Value) (σ : fx_S) (q : fx_S), k_2 x1 σ = some q → fx_E none 170 d 2 [some (.ref 215), some (.int x1), o2, o3] [] σ none q) : ∀ (n : Nat) (x1 : Int32) (x2 : Int32) (o3 : Option Value) (σ : fx_S) (q : fx_S), fm_170_10 k_2 n x1 x2 σ = some q → fx_E none 170 d 10 [some (.ref 215), some (.int x1), some (.int x2), o3] [] σ none q := by
  intro n
  induction n with
  | zero =>
    intro x1 x2 o3 σ q  h
    rw [fm_170_10] at h
    exact fx_no h
  | succ n ih =>
    intro x1 x2 o3 σ q  h
    rw [fm_170_10] at h
    refine fs_iload_n (k := 2) (p := 11) (by decide +kernel) rfl rfl ?_
    refine fs_aload_n (k := 0) (p := 12) (by decide +kernel) rfl rfl ?_
    refine fs_gfi (idx := 208) (ci := 10) (j := 17) (p := 15) (by decide +kernel) rfl (by decide +kernel) fo_215 ?_
    by_cases c3 : (σ.1 215 17) ≤ x2
    · rw [if_pos c3] at h
      refine fs_icmp_ge_t (off := 61) (t := 76) (by decide +kernel) (by decide +kernel) c3 ?_
      refine fs_goto (off := -74) (p := 2) (by decide +kernel) (by decide +kernel) ?_
      exact hk_2 _ _ _ _ _ h
    · rw [if_neg c3] at h
      refine fs_icmp_ge_f (off := 61) (t := 76) (p := 18) (by decide +kernel) (by decide +kernel) rfl c3 ?_
      refine fs_iconst (n := 0) (p := 19) (by decide +kernel) rfl kc_0 ?_
      refine fs_istore_n (k := 3) (p := 20) (M := 4) (al' := [some (.ref 215), some (.int x1), some (.int x2), some (.int (0 : Int32))]) (by decide +kernel) rfl mx_170 rfl rfl ?_
      exact fe_170_20 hd ih 100000 _ _ _ _ _ h
def fm_170_2 : Nat → Int32 → fx_S → Option (fx_S)
  | 0, _, _ => none
  | n + 1, x1, σ =>
    if x1 = 0 then (
      some σ) else (
      fm_170_10 (fm_170_2 n) 100000 (0 : Int32) (0 : Int32) σ)
theorem fe_170_2 {d : Nat} (hd : 27 ≤ d) : ∀ (n : Nat) (x1 : Int32) (o2 : Option Value) (o3 : Option Value) (σ : fx_S) (q : fx_S), fm_170_2 n x1 σ = some q → fx_E none 170 d 2 [some (.ref 215), some (.int x1), o2, o3] [] σ none q := by
  intro n
  induction n with
  | zero =>
    intro x1 o2 o3 σ q  h
    rw [fm_170_2] at h
    exact fx_no h
  | succ n ih =>
    intro x1 o2 o3 σ q  h
    rw [fm_170_2] at h
    refine fs_iload_n (k := 1) (p := 3) (by decide +kernel) rfl rfl ?_
    by_cases c2 : x1 = 0
    · rw [if_pos c2] at h
      refine fs_if_eq_t (off := 76) (t := 79) (by decide +kernel) (by decide +kernel) c2 ?_
      have h := Option.some.inj h
      subst h
      exact fs_ret (by decide +kernel) rt_170
    · rw [if_neg c2] at h
      refine fs_if_eq_f (off := 76) (t := 79) (p := 6) (by decide +kernel) (by decide +kernel) rfl c2 ?_
      refine fs_iconst (n := 0) (p := 7) (by decide +kernel) rfl kc_0 ?_
      refine fs_istore_n (k := 1) (p := 8) (M := 4) (al' := [some (.ref 215), some (.int (0 : Int32)), o2, o3]) (by decide +kernel) rfl mx_170 rfl rfl ?_
      refine fs_iconst (n := 0) (p := 9) (by decide +kernel) rfl kc_0 ?_
      refine fs_istore_n (k := 2) (p := 10) (M := 4) (al' := [some (.ref 215), some (.int (0 : Int32)), some (.int (0 : Int32)), o3]) (by decide +kernel) rfl mx_170 rfl rfl ?_
      exact fe_170_10 hd ih 100000 _ _ _ _ _ h
def fm_170 (σ : fx_S) : Option (fx_S) :=
  fm_170_2 100000 (1 : Int32) σ
theorem fe_170 {d : Nat} (hd : 27 ≤ d) {σ : fx_S} {q : fx_S} (h : fm_170 σ = some q) : fx_E none 170 d 0 [some (.ref 215), none, none, none] [] σ none q := by
  unfold fm_170 at h
  refine fs_iconst (n := 1) (p := 1) (by decide +kernel) rfl kc_1 ?_
  refine fs_istore_n (k := 1) (p := 2) (M := 4) (al' := [some (.ref 215), some (.int (1 : Int32)), none, none]) (by decide +kernel) rfl mx_170 rfl rfl ?_
  exact fe_170_2 hd 100000 _ _ _ _ _ h
end
section
/-! ZoneSharesModel.canBe()Z -/
theorem mx_171 : iv_mx 171 = 3 := by decide +kernel
theorem rt_171 : iv_rt 171 = some .boolean := by decide +kernel
def fm_171_254 : Nat → Int32 → fx_S → Option (Bool × fx_S)
  | 0, _, _ => none
  | n + 1, x1, σ =>
    if (σ.1 215 17) ≤ x1 then (
      some (true, σ)) else (
      (fx_ldl σ 231 x1).bind fun v4 =>
      if v4 = (0 : Int64) then (
        fm_171_254 n (x1 + (1 : Int32)) σ) else (
        some (false, σ)))
theorem fe_171_254 {d : Nat} (hd : 28 ≤ d) : ∀ (n : Nat) (x1 : Int32) (o2 : Option Value) (σ : fx_S) (q : Bool × fx_S), fm_171_254 n x1 σ = some q → fx_E none 171 d 254 [some (.ref 215), some (.int x1), o2] [] σ (some (.int (fx_b q.1))) q.2 := by
  intro n
  induction n with
  | zero =>
    intro x1 o2 σ q  h
    rw [fm_171_254] at h
    exact fx_no h
  | succ n ih =>
    intro x1 o2 σ q  h
    rw [fm_171_254] at h
    refine fs_iload_n (k := 1) (p := 255) (by decide +kernel) rfl rfl ?_
    refine fs_aload_n (k := 0) (p := 256) (by decide +kernel) rfl rfl ?_
    refine fs_gfi (idx := 208) (ci := 10) (j := 17) (p := 259) (by decide +kernel) rfl (by decide +kernel) fo_215 ?_
    by_cases c3 : (σ.1 215 17) ≤ x1
    · rw [if_pos c3] at h
      refine fs_icmp_ge_t (off := 22) (t := 281) (by decide +kernel) (by decide +kernel) c3 ?_
      refine fs_iconst (n := 1) (p := 282) (by decide +kernel) rfl kc_1 ?_
      have h := Option.some.inj h
      subst h
      exact fs_zret (b := true) (by decide +kernel) rt_171
    · rw [if_neg c3] at h
      refine fs_icmp_ge_f (off := 22) (t := 281) (p := 262) (by decide +kernel) (by decide +kernel) rfl c3 ?_
      refine fs_aload_n (k := 0) (p := 263) (by decide +kernel) rfl rfl ?_
      refine fs_gfr (idx := 57) (ci := 10) (j := 24) (p := 266) (by decide +kernel) rfl (by decide +kernel) fo_215 (fr_a215_24) ?_
      refine fs_iload_n (k := 1) (p := 267) (by decide +kernel) rfl rfl ?_
      obtain ⟨v4, w5, h⟩ := fx_bd h
      refine fs_laload (p := 268) (by decide +kernel) rfl w5 ?_
      refine fs_lconst (n := 0) (p := 269) (by decide +kernel) rfl kl_0 ?_
      by_cases c8 : v4 = (0 : Int64)
      · rw [if_pos c8] at h
        refine fs_lcmp_eq_t (off := 5) (t := 275) (by decide +kernel) (by decide +kernel) (by decide +kernel) c8 ?_
        refine fs_iinc (k := 1) (n := 1) (p := 278) (M := 3) (al' := [some (.ref 215), some (.int (x1 + (1 : Int32))), o2]) (by decide +kernel) rfl kc_1 mx_171 rfl rfl rfl ?_
        refine fs_goto (off := -24) (p := 254) (by decide +kernel) (by decide +kernel) ?_
        exact ih _ _ _ _ h
      · rw [if_neg c8] at h
        refine fs_lcmp_eq_f (off := 5) (t := 275) (p := 273) (by decide +kernel) (by decide +kernel) (by decide +kernel) rfl c8 ?_
        refine fs_iconst (n := 0) (p := 274) (by decide +kernel) rfl kc_0 ?_
        have h := Option.some.inj h
        subst h
        exact fs_zret (b := false) (by decide +kernel) rt_171
def fm_171_188 : Nat → Int32 → fx_S → Option (Bool × fx_S)
  | 0, _, _ => none
  | n + 1, x1, σ =>
    if (σ.1 215 18) ≤ x1 then (
      (fm_170 σ).bind fun q5 =>
      fm_171_254 100000 (0 : Int32) q5) else (
      (fx_ldl σ 230 x1).bind fun v6 =>
      (fx_ldl σ 227 x1).bind fun v9 =>
      if v6 < v9 then (
        some (false, σ)) else (
        (fx_ldl σ 230 x1).bind fun v14 =>
        (fx_ldl σ 228 x1).bind fun v16 =>
        if v14 ≤ v16 then (
          (fx_ldl σ 228 x1).bind fun v20 =>
          (fx_stl σ 229 x1 v20).bind fun t22 =>
          fm_171_188 n (x1 + (1 : Int32)) t22) else (
          some (false, σ))))
theorem fe_171_188 {d : Nat} (hd : 28 ≤ d) : ∀ (n : Nat) (x1 : Int32) (o2 : Option Value) (σ : fx_S) (q : Bool × fx_S), fm_171_188 n x1 σ = some q → fx_E none 171 d 188 [some (.ref 215), some (.int x1), o2] [] σ (some (.int (fx_b q.1))) q.2 := by
  intro n
  induction n with
  | zero =>
    intro x1 o2 σ q  h
    rw [fm_171_188] at h
    exact fx_no h
  | succ n ih =>
    intro x1 o2 σ q  h
    rw [fm_171_188] at h
    refine fs_iload_n (k := 1) (p := 189) (by decide +kernel) rfl rfl ?_
    refine fs_aload_n (k := 0) (p := 190) (by decide +kernel) rfl rfl ?_
    refine fs_gfi (idx := 211) (ci := 10) (j := 18) (p := 193) (by decide +kernel) rfl (by decide +kernel) fo_215 ?_
    by_cases c3 : (σ.1 215 18) ≤ x1
    · rw [if_pos c3] at h
      refine fs_icmp_ge_t (off := 55) (t := 248) (by decide +kernel) (by decide +kernel) c3 ?_
      refine fs_aload_n (k := 0) (p := 249) (by decide +kernel) rfl rfl ?_
      obtain ⟨q5, w4, h⟩ := fx_bd h
      refine fs_callV (idx := 245) (mj := 170) (ci := 10) (na := 0) (mx := 4) (p := 252) (args := [.ref 215]) (rest := []) (al2 := [some (.ref 215), none, none, none]) (by decide +kernel) rfl (by decide +kernel) fo_215 rfl rfl rfl rfl rfl rfl rfl (by omega) (fun d' hd' => fe_170 (by omega) w4) rfl ?_
      refine fs_iconst (n := 0) (p := 253) (by decide +kernel) rfl kc_0 ?_
      refine fs_istore_n (k := 1) (p := 254) (M := 3) (al' := [some (.ref 215), some (.int (0 : Int32)), o2]) (by decide +kernel) rfl mx_171 rfl rfl ?_
      exact fe_171_254 hd 100000 _ _ _ _ h
    · rw [if_neg c3] at h
      refine fs_icmp_ge_f (off := 55) (t := 248) (p := 196) (by decide +kernel) (by decide +kernel) rfl c3 ?_
      refine fs_aload_n (k := 0) (p := 197) (by decide +kernel) rfl rfl ?_
      refine fs_gfr (idx := 54) (ci := 10) (j := 23) (p := 200) (by decide +kernel) rfl (by decide +kernel) fo_215 (fr_a215_23) ?_
      refine fs_iload_n (k := 1) (p := 201) (by decide +kernel) rfl rfl ?_
      obtain ⟨v6, w7, h⟩ := fx_bd h
      refine fs_laload (p := 202) (by decide +kernel) rfl w7 ?_
      refine fs_aload_n (k := 0) (p := 203) (by decide +kernel) rfl rfl ?_
      refine fs_gfr (idx := 45) (ci := 10) (j := 20) (p := 206) (by decide +kernel) rfl (by decide +kernel) fo_215 (fr_a215_20) ?_
      refine fs_iload_n (k := 1) (p := 207) (by decide +kernel) rfl rfl ?_
      obtain ⟨v9, w10, h⟩ := fx_bd h
      refine fs_laload (p := 208) (by decide +kernel) rfl w10 ?_
      by_cases c13 : v6 < v9
      · rw [if_pos c13] at h
        refine fs_lcmp_lt_t (off := 19) (t := 228) (by decide +kernel) (by decide +kernel) (by decide +kernel) c13 ?_
        refine fs_iconst (n := 0) (p := 229) (by decide +kernel) rfl kc_0 ?_
        have h := Option.some.inj h
        subst h
        exact fs_zret (b := false) (by decide +kernel) rt_171
      · rw [if_neg c13] at h
        refine fs_lcmp_lt_f (off := 19) (t := 228) (p := 212) (by decide +kernel) (by decide +kernel) (by decide +kernel) rfl c13 ?_
        refine fs_aload_n (k := 0) (p := 213) (by decide +kernel) rfl rfl ?_
        refine fs_gfr (idx := 54) (ci := 10) (j := 23) (p := 216) (by decide +kernel) rfl (by decide +kernel) fo_215 (fr_a215_23) ?_
        refine fs_iload_n (k := 1) (p := 217) (by decide +kernel) rfl rfl ?_
        obtain ⟨v14, w15, h⟩ := fx_bd h
        refine fs_laload (p := 218) (by decide +kernel) rfl w15 ?_
        refine fs_aload_n (k := 0) (p := 219) (by decide +kernel) rfl rfl ?_
        refine fs_gfr (idx := 48) (ci := 10) (j := 21) (p := 222) (by decide +kernel) rfl (by decide +kernel) fo_215 (fr_a215_21) ?_
        refine fs_iload_n (k := 1) (p := 223) (by decide +kernel) rfl rfl ?_
        obtain ⟨v16, w17, h⟩ := fx_bd h
        refine fs_laload (p := 224) (by decide +kernel) rfl w17 ?_
        by_cases c19 : v14 ≤ v16
        · rw [if_pos c19] at h
          refine fs_lcmp_le_t (off := 5) (t := 230) (by decide +kernel) (by decide +kernel) (by decide +kernel) c19 ?_
          refine fs_aload_n (k := 0) (p := 231) (by decide +kernel) rfl rfl ?_
          refine fs_gfr (idx := 51) (ci := 10) (j := 22) (p := 234) (by decide +kernel) rfl (by decide +kernel) fo_215 (fr_a215_22) ?_
          refine fs_iload_n (k := 1) (p := 235) (by decide +kernel) rfl rfl ?_
          refine fs_aload_n (k := 0) (p := 236) (by decide +kernel) rfl rfl ?_
          refine fs_gfr (idx := 48) (ci := 10) (j := 21) (p := 239) (by decide +kernel) rfl (by decide +kernel) fo_215 (fr_a215_21) ?_
          refine fs_iload_n (k := 1) (p := 240) (by decide +kernel) rfl rfl ?_
          obtain ⟨v20, w21, h⟩ := fx_bd h
          refine fs_laload (p := 241) (by decide +kernel) rfl w21 ?_
          obtain ⟨t22, w23, h⟩ := fx_bd h
          refine fs_lastore (p := 242) (by decide +kernel) rfl w23 ?_
          refine fs_iinc (k := 1) (n := 1) (p := 245) (M := 3) (al' := [some (.ref 215), some (.int (x1 + (1 : Int32))), o2]) (by decide +kernel) rfl kc_1 mx_171 rfl rfl rfl ?_
          refine fs_goto (off := -57) (p := 188) (by decide +kernel) (by decide +kernel) ?_
          exact ih _ _ _ _ h
        · rw [if_neg c19] at h
          refine fs_lcmp_le_f (off := 5) (t := 230) (p := 228) (by decide +kernel) (by decide +kernel) (by decide +kernel) rfl c19 ?_
          refine fs_iconst (n := 0) (p := 229) (by decide +kernel) rfl kc_0 ?_
          have h := Option.some.inj h
          subst h
          exact fs_zret (b := false) (by decide +kernel) rt_171
def fm_171_123 (k_75 : Int32 → Int32 → fx_S → Option (Bool × fx_S)) (x1 : Int32) (x2 : Int32) (s1 : Int32) (s2 : Int32) (σ : fx_S) : Option (Bool × fx_S) :=
  (fx_stb σ 232 s1 s2).bind fun t1 =>
  (fx_ldl t1 231 x1).bind fun v4 =>
  (fm_160 x1 x2 t1).bind fun q8 =>
  (fx_ldb q8.2 232 q8.1).bind fun v9 =>
  (fm_131 v9 q8.2).bind fun q13 =>
  (fx_stl q13.2 231 x1 (v4 - (q13.1).toInt64)).bind fun t15 =>
  (fx_ldl t15 230 x2).bind fun v17 =>
  (fm_160 x1 x2 t15).bind fun q21 =>
  (fx_ldb q21.2 232 q21.1).bind fun v22 =>
  (fm_131 v22 q21.2).bind fun q26 =>
  (fx_stl q26.2 230 x2 (v17 + (q26.1).toInt64)).bind fun t28 =>
  k_75 x1 (x2 + (1 : Int32)) t28
theorem fe_171_123 {d : Nat} (hd : 28 ≤ d) {k_75 : Int32 → Int32 → fx_S → Option (Bool × fx_S)} (hk_75 : ∀ (x1 : Int32) (x2 : Int32) (σ : fx_S) (q : Bool × fx_S), k_75 x1 x2 σ = some q → fx_E none 171 d 75 [some (.ref 215), some (.int x1), some (.int x2)] [] σ (some (.int (fx_b q.1))) q.2) (x1 : Int32) (x2 : Int32) (s1 : Int32) (s2 : Int32) (σ : fx_S) (q : Bool × fx_S) (h : fm_171_123 k_75  x1 x2 s1 s2 σ = some q) : fx_E none 171 d 123 [some (.ref 215), some (.int x1), some (.int x2)] [.int s2, .int s1, .ref 232] σ (some (.int (fx_b q.1))) q.2 := by
  unfold fm_171_123 at h
  obtain ⟨t1, w2, h⟩ := fx_bd h
  refine fs_bastore (p := 124) (by decide +kernel) rfl w2 ?_
  refine fs_aload_n (k := 0) (p := 125) (by decide +kernel) rfl rfl ?_
  refine fs_gfr (idx := 57) (ci := 10) (j := 24) (p := 128) (by decide +kernel) rfl (by decide +kernel) fo_215 (fr_a215_24) ?_
  refine fs_iload_n (k := 1) (p := 129) (by decide +kernel) rfl rfl ?_
  refine fs_dup2 (p := 130) (by decide +kernel) rfl rfl rfl ?_
  obtain ⟨v4, w5, h⟩ := fx_bd h
  refine fs_laload (p := 131) (by decide +kernel) rfl w5 ?_
  refine fs_aload_n (k := 0) (p := 132) (by decide +kernel) rfl rfl ?_
  refine fs_gfr (idx := 60) (ci := 10) (j := 25) (p := 135) (by decide +kernel) rfl (by decide +kernel) fo_215 (fr_a215_25) ?_
  refine fs_iload_n (k := 1) (p := 136) (by decide +kernel) rfl rfl ?_
  refine fs_iload_n (k := 2) (p := 137) (by decide +kernel) rfl rfl ?_
  obtain ⟨q8, w7, h⟩ := fx_bd h
  refine fs_callS (idx := 214) (mj := 160) (na := 2) (mx := 2) (p := 140) (args := [.int x1, .int x2]) (rest := [.ref 232, .long v4, .int x1, .ref 231]) (al2 := [some (.int x1), some (.int x2)]) (by decide +kernel) rfl (by decide +kernel) rfl rfl rfl rfl rfl rfl rfl (by omega) (fun d' hd' => fe_160 (by omega) w7) rfl ?_
  obtain ⟨v9, w10, h⟩ := fx_bd h
  refine fs_baload (p := 141) (by decide +kernel) rfl w10 ?_
  obtain ⟨q13, w12, h⟩ := fx_bd h
  refine fs_callS (idx := 186) (mj := 131) (na := 1) (mx := 1) (p := 144) (args := [.int v9]) (rest := [.long v4, .int x1, .ref 231]) (al2 := [some (.int v9)]) (by decide +kernel) rfl (by decide +kernel) rfl rfl rfl rfl rfl rfl rfl (by omega) (fun d' hd' => fe_131 (by omega) w12) rfl ?_
  refine fs_i2l (p := 145) (by decide +kernel) rfl ?_
  refine fs_lsub (p := 146) (by decide +kernel) rfl ?_
  obtain ⟨t15, w16, h⟩ := fx_bd h
  refine fs_lastore (p := 147) (by decide +kernel) rfl w16 ?_
  refine fs_aload_n (k := 0) (p := 148) (by decide +kernel) rfl rfl ?_
  refine fs_gfr (idx := 54) (ci := 10) (j := 23) (p := 151) (by decide +kernel) rfl (by decide +kernel) fo_215 (fr_a215_23) ?_
  refine fs_iload_n (k := 2) (p := 152) (by decide +kernel) rfl rfl ?_
  refine fs_dup2 (p := 153) (by decide +kernel) rfl rfl rfl ?_
  obtain ⟨v17, w18, h⟩ := fx_bd h
  refine fs_laload (p := 154) (by decide +kernel) rfl w18 ?_
  refine fs_aload_n (k := 0) (p := 155) (by decide +kernel) rfl rfl ?_
  refine fs_gfr (idx := 60) (ci := 10) (j := 25) (p := 158) (by decide +kernel) rfl (by decide +kernel) fo_215 (fr_a215_25) ?_
  refine fs_iload_n (k := 1) (p := 159) (by decide +kernel) rfl rfl ?_
  refine fs_iload_n (k := 2) (p := 160) (by decide +kernel) rfl rfl ?_
  obtain ⟨q21, w20, h⟩ := fx_bd h
  refine fs_callS (idx := 214) (mj := 160) (na := 2) (mx := 2) (p := 163) (args := [.int x1, .int x2]) (rest := [.ref 232, .long v17, .int x2, .ref 230]) (al2 := [some (.int x1), some (.int x2)]) (by decide +kernel) rfl (by decide +kernel) rfl rfl rfl rfl rfl rfl rfl (by omega) (fun d' hd' => fe_160 (by omega) w20) rfl ?_
  obtain ⟨v22, w23, h⟩ := fx_bd h
  refine fs_baload (p := 164) (by decide +kernel) rfl w23 ?_
  obtain ⟨q26, w25, h⟩ := fx_bd h
  refine fs_callS (idx := 186) (mj := 131) (na := 1) (mx := 1) (p := 167) (args := [.int v22]) (rest := [.long v17, .int x2, .ref 230]) (al2 := [some (.int v22)]) (by decide +kernel) rfl (by decide +kernel) rfl rfl rfl rfl rfl rfl rfl (by omega) (fun d' hd' => fe_131 (by omega) w25) rfl ?_
  refine fs_i2l (p := 168) (by decide +kernel) rfl ?_
  refine fs_ladd (p := 169) (by decide +kernel) rfl ?_
  obtain ⟨t28, w29, h⟩ := fx_bd h
  refine fs_lastore (p := 170) (by decide +kernel) rfl w29 ?_
  refine fs_iinc (k := 2) (n := 1) (p := 173) (M := 3) (al' := [some (.ref 215), some (.int x1), some (.int (x2 + (1 : Int32)))]) (by decide +kernel) rfl kc_1 mx_171 rfl rfl rfl ?_
  refine fs_goto (off := -98) (p := 75) (by decide +kernel) (by decide +kernel) ?_
  exact hk_75 _ _ _ _ h
def fm_171_75 (k_65 : Int32 → fx_S → Option (Bool × fx_S)) : Nat → Int32 → Int32 → fx_S → Option (Bool × fx_S)
  | 0, _, _, _ => none
  | n + 1, x1, x2, σ =>
    if (σ.1 215 18) ≤ x2 then (
      k_65 (x1 + (1 : Int32)) σ) else (
      (fm_160 x1 x2 σ).bind fun q5 =>
      (fm_160 x1 x2 q5.2).bind fun q7 =>
      (fx_ldb q7.2 233 q7.1).bind fun v8 =>
      if v8 = 0 then (
        fm_171_123 (fm_171_75 k_65 n) x1 x2 q5.1 (0 : Int32) q7.2) else (
        (fm_160 x1 x2 q7.2).bind fun q14 =>
        (fx_ldb q14.2 234 q14.1).bind fun v15 =>
        if v15 = 0 then (
          fm_171_123 (fm_171_75 k_65 n) x1 x2 q5.1 (0 : Int32) q14.2) else (
          fm_171_123 (fm_171_75 k_65 n) x1 x2 q5.1 (1 : Int32) q14.2)))
theorem fe_171_75 {d : Nat} (hd : 28 ≤ d) {k_65 : Int32 → fx_S → Option (Bool × fx_S)} (hk_65 : ∀ (x1 : Int32) (o2 : Option Value) (σ : fx_S) (q : Bool × fx_S), k_65 x1 σ = some q → fx_E none 171 d 65 [some (.ref 215), some (.int x1), o2] [] σ (some (.int (fx_b q.1))) q.2) : ∀ (n : Nat) (x1 : Int32) (x2 : Int32) (σ : fx_S) (q : Bool × fx_S), fm_171_75 k_65 n x1 x2 σ = some q → fx_E none 171 d 75 [some (.ref 215), some (.int x1), some (.int x2)] [] σ (some (.int (fx_b q.1))) q.2 := by
  intro n
  induction n with
  | zero =>
    intro x1 x2 σ q  h
    rw [fm_171_75] at h
    exact fx_no h
  | succ n ih =>
    intro x1 x2 σ q  h
    rw [fm_171_75] at h
    refine fs_iload_n (k := 2) (p := 76) (by decide +kernel) rfl rfl ?_
    refine fs_aload_n (k := 0) (p := 77) (by decide +kernel) rfl rfl ?_
    refine fs_gfi (idx := 211) (ci := 10) (j := 18) (p := 80) (by decide +kernel) rfl (by decide +kernel) fo_215 ?_
    by_cases c3 : (σ.1 215 18) ≤ x2
    · rw [if_pos c3] at h
      refine fs_icmp_ge_t (off := 96) (t := 176) (by decide +kernel) (by decide +kernel) c3 ?_
      refine fs_iinc (k := 1) (n := 1) (p := 179) (M := 3) (al' := [some (.ref 215), some (.int (x1 + (1 : Int32))), some (.int x2)]) (by decide +kernel) rfl kc_1 mx_171 rfl rfl rfl ?_
      refine fs_goto (off := -114) (p := 65) (by decide +kernel) (by decide +kernel) ?_
      exact hk_65 _ _ _ _ h
    · rw [if_neg c3] at h
      refine fs_icmp_ge_f (off := 96) (t := 176) (p := 83) (by decide +kernel) (by decide +kernel) rfl c3 ?_
      refine fs_aload_n (k := 0) (p := 84) (by decide +kernel) rfl rfl ?_
      refine fs_gfr (idx := 60) (ci := 10) (j := 25) (p := 87) (by decide +kernel) rfl (by decide +kernel) fo_215 (fr_a215_25) ?_
      refine fs_iload_n (k := 1) (p := 88) (by decide +kernel) rfl rfl ?_
      refine fs_iload_n (k := 2) (p := 89) (by decide +kernel) rfl rfl ?_
      obtain ⟨q5, w4, h⟩ := fx_bd h
      refine fs_callS (idx := 214) (mj := 160) (na := 2) (mx := 2) (p := 92) (args := [.int x1, .int x2]) (rest := [.ref 232]) (al2 := [some (.int x1), some (.int x2)]) (by decide +kernel) rfl (by decide +kernel) rfl rfl rfl rfl rfl rfl rfl (by omega) (fun d' hd' => fe_160 (by omega) w4) rfl ?_
      refine fs_aload_n (k := 0) (p := 93) (by decide +kernel) rfl rfl ?_
      refine fs_gfr (idx := 64) (ci := 10) (j := 26) (p := 96) (by decide +kernel) rfl (by decide +kernel) fo_215 (fr_a215_26) ?_
      refine fs_iload_n (k := 1) (p := 97) (by decide +kernel) rfl rfl ?_
      refine fs_iload_n (k := 2) (p := 98) (by decide +kernel) rfl rfl ?_
      obtain ⟨q7, w6, h⟩ := fx_bd h
      refine fs_callS (idx := 214) (mj := 160) (na := 2) (mx := 2) (p := 101) (args := [.int x1, .int x2]) (rest := [.ref 233, .int q5.1, .ref 232]) (al2 := [some (.int x1), some (.int x2)]) (by decide +kernel) rfl (by decide +kernel) rfl rfl rfl rfl rfl rfl rfl (by omega) (fun d' hd' => fe_160 (by omega) w6) rfl ?_
      obtain ⟨v8, w9, h⟩ := fx_bd h
      refine fs_baload (p := 102) (by decide +kernel) rfl w9 ?_
      by_cases c12 : v8 = 0
      · rw [if_pos c12] at h
        refine fs_if_eq_t (off := 20) (t := 122) (by decide +kernel) (by decide +kernel) c12 ?_
        refine fs_iconst (n := 0) (p := 123) (by decide +kernel) rfl kc_0 ?_
        exact fe_171_123 hd ih _ _ _ _ _ _ h
      · rw [if_neg c12] at h
        refine fs_if_eq_f (off := 20) (t := 122) (p := 105) (by decide +kernel) (by decide +kernel) rfl c12 ?_
        refine fs_aload_n (k := 0) (p := 106) (by decide +kernel) rfl rfl ?_
        refine fs_gfr (idx := 67) (ci := 10) (j := 27) (p := 109) (by decide +kernel) rfl (by decide +kernel) fo_215 (fr_a215_27) ?_
        refine fs_iload_n (k := 1) (p := 110) (by decide +kernel) rfl rfl ?_
        refine fs_iload_n (k := 2) (p := 111) (by decide +kernel) rfl rfl ?_
        obtain ⟨q14, w13, h⟩ := fx_bd h
        refine fs_callS (idx := 214) (mj := 160) (na := 2) (mx := 2) (p := 114) (args := [.int x1, .int x2]) (rest := [.ref 234, .int q5.1, .ref 232]) (al2 := [some (.int x1), some (.int x2)]) (by decide +kernel) rfl (by decide +kernel) rfl rfl rfl rfl rfl rfl rfl (by omega) (fun d' hd' => fe_160 (by omega) w13) rfl ?_
        obtain ⟨v15, w16, h⟩ := fx_bd h
        refine fs_baload (p := 115) (by decide +kernel) rfl w16 ?_
        by_cases c19 : v15 = 0
        · rw [if_pos c19] at h
          refine fs_if_eq_t (off := 7) (t := 122) (by decide +kernel) (by decide +kernel) c19 ?_
          refine fs_iconst (n := 0) (p := 123) (by decide +kernel) rfl kc_0 ?_
          exact fe_171_123 hd ih _ _ _ _ _ _ h
        · rw [if_neg c19] at h
          refine fs_if_eq_f (off := 7) (t := 122) (p := 118) (by decide +kernel) (by decide +kernel) rfl c19 ?_
          refine fs_iconst (n := 1) (p := 119) (by decide +kernel) rfl kc_1 ?_
          refine fs_goto (off := 4) (p := 123) (by decide +kernel) (by decide +kernel) ?_
          exact fe_171_123 hd ih _ _ _ _ _ _ h
def fm_171_65 : Nat → Int32 → fx_S → Option (Bool × fx_S)
  | 0, _, _ => none
  | n + 1, x1, σ =>
    if (σ.1 215 17) ≤ x1 then (
      (fm_170 σ).bind fun q5 =>
      fm_171_188 100000 (0 : Int32) q5) else (
      fm_171_75 (fm_171_65 n) 100000 x1 (0 : Int32) σ)
theorem fe_171_65 {d : Nat} (hd : 28 ≤ d) : ∀ (n : Nat) (x1 : Int32) (o2 : Option Value) (σ : fx_S) (q : Bool × fx_S), fm_171_65 n x1 σ = some q → fx_E none 171 d 65 [some (.ref 215), some (.int x1), o2] [] σ (some (.int (fx_b q.1))) q.2 := by
  intro n
  induction n with
  | zero =>
    intro x1 o2 σ q  h
    rw [fm_171_65] at h
    exact fx_no h
  | succ n ih =>
    intro x1 o2 σ q  h
    rw [fm_171_65] at h
    refine fs_iload_n (k := 1) (p := 66) (by decide +kernel) rfl rfl ?_
    refine fs_aload_n (k := 0) (p := 67) (by decide +kernel) rfl rfl ?_
    refine fs_gfi (idx := 208) (ci := 10) (j := 17) (p := 70) (by decide +kernel) rfl (by decide +kernel) fo_215 ?_
    by_cases c3 : (σ.1 215 17) ≤ x1
    · rw [if_pos c3] at h
      refine fs_icmp_ge_t (off := 112) (t := 182) (by decide +kernel) (by decide +kernel) c3 ?_
      refine fs_aload_n (k := 0) (p := 183) (by decide +kernel) rfl rfl ?_
      obtain ⟨q5, w4, h⟩ := fx_bd h
      refine fs_callV (idx := 245) (mj := 170) (ci := 10) (na := 0) (mx := 4) (p := 186) (args := [.ref 215]) (rest := []) (al2 := [some (.ref 215), none, none, none]) (by decide +kernel) rfl (by decide +kernel) fo_215 rfl rfl rfl rfl rfl rfl rfl (by omega) (fun d' hd' => fe_170 (by omega) w4) rfl ?_
      refine fs_iconst (n := 0) (p := 187) (by decide +kernel) rfl kc_0 ?_
      refine fs_istore_n (k := 1) (p := 188) (M := 3) (al' := [some (.ref 215), some (.int (0 : Int32)), o2]) (by decide +kernel) rfl mx_171 rfl rfl ?_
      exact fe_171_188 hd 100000 _ _ _ _ h
    · rw [if_neg c3] at h
      refine fs_icmp_ge_f (off := 112) (t := 182) (p := 73) (by decide +kernel) (by decide +kernel) rfl c3 ?_
      refine fs_iconst (n := 0) (p := 74) (by decide +kernel) rfl kc_0 ?_
      refine fs_istore_n (k := 2) (p := 75) (M := 3) (al' := [some (.ref 215), some (.int x1), some (.int (0 : Int32))]) (by decide +kernel) rfl mx_171 rfl rfl ?_
      exact fe_171_75 hd ih 100000 _ _ _ _ h
def fm_171_30 : Nat → Int32 → fx_S → Option (Bool × fx_S)
  | 0, _, _ => none
  | n + 1, x1, σ =>
    if (σ.1 215 18) ≤ x1 then (
      fm_171_65 100000 (0 : Int32) σ) else (
      (fx_stl σ 230 x1 (0 : Int64)).bind fun t4 =>
      (fx_ldl t4 227 x1).bind fun v7 =>
      (fx_stl t4 229 x1 v7).bind fun t9 =>
      fm_171_30 n (x1 + (1 : Int32)) t9)
theorem fe_171_30 {d : Nat} (hd : 28 ≤ d) : ∀ (n : Nat) (x1 : Int32) (σ : fx_S) (q : Bool × fx_S), fm_171_30 n x1 σ = some q → fx_E none 171 d 30 [some (.ref 215), some (.int x1), none] [] σ (some (.int (fx_b q.1))) q.2 := by
  intro n
  induction n with
  | zero =>
    intro x1 σ q  h
    rw [fm_171_30] at h
    exact fx_no h
  | succ n ih =>
    intro x1 σ q  h
    rw [fm_171_30] at h
    refine fs_iload_n (k := 1) (p := 31) (by decide +kernel) rfl rfl ?_
    refine fs_aload_n (k := 0) (p := 32) (by decide +kernel) rfl rfl ?_
    refine fs_gfi (idx := 211) (ci := 10) (j := 18) (p := 35) (by decide +kernel) rfl (by decide +kernel) fo_215 ?_
    by_cases c3 : (σ.1 215 18) ≤ x1
    · rw [if_pos c3] at h
      refine fs_icmp_ge_t (off := 28) (t := 63) (by decide +kernel) (by decide +kernel) c3 ?_
      refine fs_iconst (n := 0) (p := 64) (by decide +kernel) rfl kc_0 ?_
      refine fs_istore_n (k := 1) (p := 65) (M := 3) (al' := [some (.ref 215), some (.int (0 : Int32)), none]) (by decide +kernel) rfl mx_171 rfl rfl ?_
      exact fe_171_65 hd 100000 _ _ _ _ h
    · rw [if_neg c3] at h
      refine fs_icmp_ge_f (off := 28) (t := 63) (p := 38) (by decide +kernel) (by decide +kernel) rfl c3 ?_
      refine fs_aload_n (k := 0) (p := 39) (by decide +kernel) rfl rfl ?_
      refine fs_gfr (idx := 54) (ci := 10) (j := 23) (p := 42) (by decide +kernel) rfl (by decide +kernel) fo_215 (fr_a215_23) ?_
      refine fs_iload_n (k := 1) (p := 43) (by decide +kernel) rfl rfl ?_
      refine fs_lconst (n := 0) (p := 44) (by decide +kernel) rfl kl_0 ?_
      obtain ⟨t4, w5, h⟩ := fx_bd h
      refine fs_lastore (p := 45) (by decide +kernel) rfl w5 ?_
      refine fs_aload_n (k := 0) (p := 46) (by decide +kernel) rfl rfl ?_
      refine fs_gfr (idx := 51) (ci := 10) (j := 22) (p := 49) (by decide +kernel) rfl (by decide +kernel) fo_215 (fr_a215_22) ?_
      refine fs_iload_n (k := 1) (p := 50) (by decide +kernel) rfl rfl ?_
      refine fs_aload_n (k := 0) (p := 51) (by decide +kernel) rfl rfl ?_
      refine fs_gfr (idx := 45) (ci := 10) (j := 20) (p := 54) (by decide +kernel) rfl (by decide +kernel) fo_215 (fr_a215_20) ?_
      refine fs_iload_n (k := 1) (p := 55) (by decide +kernel) rfl rfl ?_
      obtain ⟨v7, w8, h⟩ := fx_bd h
      refine fs_laload (p := 56) (by decide +kernel) rfl w8 ?_
      obtain ⟨t9, w10, h⟩ := fx_bd h
      refine fs_lastore (p := 57) (by decide +kernel) rfl w10 ?_
      refine fs_iinc (k := 1) (n := 1) (p := 60) (M := 3) (al' := [some (.ref 215), some (.int (x1 + (1 : Int32))), none]) (by decide +kernel) rfl kc_1 mx_171 rfl rfl rfl ?_
      refine fs_goto (off := -30) (p := 30) (by decide +kernel) (by decide +kernel) ?_
      exact ih _ _ _ h
def fm_171_2 : Nat → Int32 → fx_S → Option (Bool × fx_S)
  | 0, _, _ => none
  | n + 1, x1, σ =>
    if (σ.1 215 17) ≤ x1 then (
      fm_171_30 100000 (0 : Int32) σ) else (
      (fx_ldl σ 226 x1).bind fun v4 =>
      (fx_stl σ 231 x1 v4).bind fun t7 =>
      fm_171_2 n (x1 + (1 : Int32)) t7)
theorem fe_171_2 {d : Nat} (hd : 28 ≤ d) : ∀ (n : Nat) (x1 : Int32) (σ : fx_S) (q : Bool × fx_S), fm_171_2 n x1 σ = some q → fx_E none 171 d 2 [some (.ref 215), some (.int x1), none] [] σ (some (.int (fx_b q.1))) q.2 := by
  intro n
  induction n with
  | zero =>
    intro x1 σ q  h
    rw [fm_171_2] at h
    exact fx_no h
  | succ n ih =>
    intro x1 σ q  h
    rw [fm_171_2] at h
    refine fs_iload_n (k := 1) (p := 3) (by decide +kernel) rfl rfl ?_
    refine fs_aload_n (k := 0) (p := 4) (by decide +kernel) rfl rfl ?_
    refine fs_gfi (idx := 208) (ci := 10) (j := 17) (p := 7) (by decide +kernel) rfl (by decide +kernel) fo_215 ?_
    by_cases c3 : (σ.1 215 17) ≤ x1
    · rw [if_pos c3] at h
      refine fs_icmp_ge_t (off := 21) (t := 28) (by decide +kernel) (by decide +kernel) c3 ?_
      refine fs_iconst (n := 0) (p := 29) (by decide +kernel) rfl kc_0 ?_
      refine fs_istore_n (k := 1) (p := 30) (M := 3) (al' := [some (.ref 215), some (.int (0 : Int32)), none]) (by decide +kernel) rfl mx_171 rfl rfl ?_
      exact fe_171_30 hd 100000 _ _ _ h
    · rw [if_neg c3] at h
      refine fs_icmp_ge_f (off := 21) (t := 28) (p := 10) (by decide +kernel) (by decide +kernel) rfl c3 ?_
      refine fs_aload_n (k := 0) (p := 11) (by decide +kernel) rfl rfl ?_
      refine fs_gfr (idx := 57) (ci := 10) (j := 24) (p := 14) (by decide +kernel) rfl (by decide +kernel) fo_215 (fr_a215_24) ?_
      refine fs_iload_n (k := 1) (p := 15) (by decide +kernel) rfl rfl ?_
      refine fs_aload_n (k := 0) (p := 16) (by decide +kernel) rfl rfl ?_
      refine fs_gfr (idx := 42) (ci := 10) (j := 19) (p := 19) (by decide +kernel) rfl (by decide +kernel) fo_215 (fr_a215_19) ?_
      refine fs_iload_n (k := 1) (p := 20) (by decide +kernel) rfl rfl ?_
      obtain ⟨v4, w5, h⟩ := fx_bd h
      refine fs_laload (p := 21) (by decide +kernel) rfl w5 ?_
      obtain ⟨t7, w8, h⟩ := fx_bd h
      refine fs_lastore (p := 22) (by decide +kernel) rfl w8 ?_
      refine fs_iinc (k := 1) (n := 1) (p := 25) (M := 3) (al' := [some (.ref 215), some (.int (x1 + (1 : Int32))), none]) (by decide +kernel) rfl kc_1 mx_171 rfl rfl rfl ?_
      refine fs_goto (off := -23) (p := 2) (by decide +kernel) (by decide +kernel) ?_
      exact ih _ _ _ h
def fm_171 (σ : fx_S) : Option (Bool × fx_S) :=
  fm_171_2 100000 (0 : Int32) σ
theorem fe_171 {d : Nat} (hd : 28 ≤ d) {σ : fx_S} {q : Bool × fx_S} (h : fm_171 σ = some q) : fx_E none 171 d 0 [some (.ref 215), none, none] [] σ (some (.int (fx_b q.1))) q.2 := by
  unfold fm_171 at h
  refine fs_iconst (n := 0) (p := 1) (by decide +kernel) rfl kc_0 ?_
  refine fs_istore_n (k := 1) (p := 2) (M := 3) (al' := [some (.ref 215), some (.int (0 : Int32)), none]) (by decide +kernel) rfl mx_171 rfl rfl ?_
  exact fe_171_2 hd 100000 _ _ _ h

/-! ZoneSharesModel.balances()V -/
theorem mx_172 : iv_mx 172 = 3 := by decide +kernel
theorem rt_172 : iv_rt 172 = none := by decide +kernel
def fm_172_146 (k_81 : Int32 → Int32 → fx_S → Option (fx_S)) (x1 : Int32) (x2 : Int32) (s1 : Int32) (s2 : Int32) (σ : fx_S) : Option (fx_S) :=
  (fx_stb σ 234 s1 s2).bind fun t1 =>
  (fm_160 x1 x2 t1).bind fun q5 =>
  (fx_ldl q5.2 224 q5.1).bind fun v6 =>
  (fm_160 x1 x2 q5.2).bind fun q10 =>
  (fx_ldb q10.2 234 q10.1).bind fun v11 =>
  (fm_131 v11 q10.2).bind fun q15 =>
  (fx_stl q15.2 224 q5.1 (v6 + (q15.1).toInt64)).bind fun t17 =>
  k_81 x1 (x2 + (1 : Int32)) t17
theorem fe_172_146 {d : Nat} (hd : 29 ≤ d) {k_81 : Int32 → Int32 → fx_S → Option (fx_S)} (hk_81 : ∀ (x1 : Int32) (x2 : Int32) (σ : fx_S) (q : fx_S), k_81 x1 x2 σ = some q → fx_E none 172 d 81 [some (.ref 215), some (.int x1), some (.int x2)] [] σ none q) (x1 : Int32) (x2 : Int32) (s1 : Int32) (s2 : Int32) (σ : fx_S) (q : fx_S) (h : fm_172_146 k_81  x1 x2 s1 s2 σ = some q) : fx_E none 172 d 146 [some (.ref 215), some (.int x1), some (.int x2)] [.int s2, .int s1, .ref 234] σ none q := by
  unfold fm_172_146 at h
  obtain ⟨t1, w2, h⟩ := fx_bd h
  refine fs_bastore (p := 147) (by decide +kernel) rfl w2 ?_
  refine fs_aload_n (k := 0) (p := 148) (by decide +kernel) rfl rfl ?_
  refine fs_gfr (idx := 36) (ci := 10) (j := 15) (p := 151) (by decide +kernel) rfl (by decide +kernel) fo_215 (fr_a215_15) ?_
  refine fs_iload_n (k := 1) (p := 152) (by decide +kernel) rfl rfl ?_
  refine fs_iload_n (k := 2) (p := 153) (by decide +kernel) rfl rfl ?_
  obtain ⟨q5, w4, h⟩ := fx_bd h
  refine fs_callS (idx := 214) (mj := 160) (na := 2) (mx := 2) (p := 156) (args := [.int x1, .int x2]) (rest := [.ref 224]) (al2 := [some (.int x1), some (.int x2)]) (by decide +kernel) rfl (by decide +kernel) rfl rfl rfl rfl rfl rfl rfl (by omega) (fun d' hd' => fe_160 (by omega) w4) rfl ?_
  refine fs_dup2 (p := 157) (by decide +kernel) rfl rfl rfl ?_
  obtain ⟨v6, w7, h⟩ := fx_bd h
  refine fs_laload (p := 158) (by decide +kernel) rfl w7 ?_
  refine fs_aload_n (k := 0) (p := 159) (by decide +kernel) rfl rfl ?_
  refine fs_gfr (idx := 67) (ci := 10) (j := 27) (p := 162) (by decide +kernel) rfl (by decide +kernel) fo_215 (fr_a215_27) ?_
  refine fs_iload_n (k := 1) (p := 163) (by decide +kernel) rfl rfl ?_
  refine fs_iload_n (k := 2) (p := 164) (by decide +kernel) rfl rfl ?_
  obtain ⟨q10, w9, h⟩ := fx_bd h
  refine fs_callS (idx := 214) (mj := 160) (na := 2) (mx := 2) (p := 167) (args := [.int x1, .int x2]) (rest := [.ref 234, .long v6, .int q5.1, .ref 224]) (al2 := [some (.int x1), some (.int x2)]) (by decide +kernel) rfl (by decide +kernel) rfl rfl rfl rfl rfl rfl rfl (by omega) (fun d' hd' => fe_160 (by omega) w9) rfl ?_
  obtain ⟨v11, w12, h⟩ := fx_bd h
  refine fs_baload (p := 168) (by decide +kernel) rfl w12 ?_
  obtain ⟨q15, w14, h⟩ := fx_bd h
  refine fs_callS (idx := 186) (mj := 131) (na := 1) (mx := 1) (p := 171) (args := [.int v11]) (rest := [.long v6, .int q5.1, .ref 224]) (al2 := [some (.int v11)]) (by decide +kernel) rfl (by decide +kernel) rfl rfl rfl rfl rfl rfl rfl (by omega) (fun d' hd' => fe_131 (by omega) w14) rfl ?_
  refine fs_i2l (p := 172) (by decide +kernel) rfl ?_
  refine fs_ladd (p := 173) (by decide +kernel) rfl ?_
  obtain ⟨t17, w18, h⟩ := fx_bd h
  refine fs_lastore (p := 174) (by decide +kernel) rfl w18 ?_
  refine fs_iinc (k := 2) (n := 1) (p := 177) (M := 3) (al' := [some (.ref 215), some (.int x1), some (.int (x2 + (1 : Int32)))]) (by decide +kernel) rfl kc_1 mx_172 rfl rfl rfl ?_
  refine fs_goto (off := -96) (p := 81) (by decide +kernel) (by decide +kernel) ?_
  exact hk_81 _ _ _ _ h
def fm_172_81 (k_71 : Int32 → fx_S → Option (fx_S)) : Nat → Int32 → Int32 → fx_S → Option (fx_S)
  | 0, _, _, _ => none
  | n + 1, x1, x2, σ =>
    if (σ.1 215 18) ≤ x2 then (
      k_71 (x1 + (1 : Int32)) σ) else (
      (fm_160 x1 x2 σ).bind fun q5 =>
      (fx_stb q5.2 233 q5.1 (1 : Int32)).bind fun t6 =>
      (fm_160 x1 x2 t6).bind fun q10 =>
      (fm_167 x1 x2 q10.2).bind fun q12 =>
      (fx_stb q12.2 234 q10.1 (fx_b q12.1)).bind fun t13 =>
      (fm_160 x1 x2 t13).bind fun q17 =>
      (fm_167 x1 x2 q17.2).bind fun q19 =>
      if (fx_b q19.1) = 0 then (
        fm_172_146 (fm_172_81 k_71 n) x1 x2 q17.1 (0 : Int32) q19.2) else (
        (fm_171 q19.2).bind fun q22 =>
        if (fx_b q22.1) = 0 then (
          fm_172_146 (fm_172_81 k_71 n) x1 x2 q17.1 (0 : Int32) q22.2) else (
          fm_172_146 (fm_172_81 k_71 n) x1 x2 q17.1 (1 : Int32) q22.2)))
theorem fe_172_81 {d : Nat} (hd : 29 ≤ d) {k_71 : Int32 → fx_S → Option (fx_S)} (hk_71 : ∀ (x1 : Int32) (o2 : Option Value) (σ : fx_S) (q : fx_S), k_71 x1 σ = some q → fx_E none 172 d 71 [some (.ref 215), some (.int x1), o2] [] σ none q) : ∀ (n : Nat) (x1 : Int32) (x2 : Int32) (σ : fx_S) (q : fx_S), fm_172_81 k_71 n x1 x2 σ = some q → fx_E none 172 d 81 [some (.ref 215), some (.int x1), some (.int x2)] [] σ none q := by
  intro n
  induction n with
  | zero =>
    intro x1 x2 σ q  h
    rw [fm_172_81] at h
    exact fx_no h
  | succ n ih =>
    intro x1 x2 σ q  h
    rw [fm_172_81] at h
    refine fs_iload_n (k := 2) (p := 82) (by decide +kernel) rfl rfl ?_
    refine fs_aload_n (k := 0) (p := 83) (by decide +kernel) rfl rfl ?_
    refine fs_gfi (idx := 211) (ci := 10) (j := 18) (p := 86) (by decide +kernel) rfl (by decide +kernel) fo_215 ?_
    by_cases c3 : (σ.1 215 18) ≤ x2
    · rw [if_pos c3] at h
      refine fs_icmp_ge_t (off := 94) (t := 180) (by decide +kernel) (by decide +kernel) c3 ?_
      refine fs_iinc (k := 1) (n := 1) (p := 183) (M := 3) (al' := [some (.ref 215), some (.int (x1 + (1 : Int32))), some (.int x2)]) (by decide +kernel) rfl kc_1 mx_172 rfl rfl rfl ?_
      refine fs_goto (off := -112) (p := 71) (by decide +kernel) (by decide +kernel) ?_
      exact hk_71 _ _ _ _ h
    · rw [if_neg c3] at h
      refine fs_icmp_ge_f (off := 94) (t := 180) (p := 89) (by decide +kernel) (by decide +kernel) rfl c3 ?_
      refine fs_aload_n (k := 0) (p := 90) (by decide +kernel) rfl rfl ?_
      refine fs_gfr (idx := 64) (ci := 10) (j := 26) (p := 93) (by decide +kernel) rfl (by decide +kernel) fo_215 (fr_a215_26) ?_
      refine fs_iload_n (k := 1) (p := 94) (by decide +kernel) rfl rfl ?_
      refine fs_iload_n (k := 2) (p := 95) (by decide +kernel) rfl rfl ?_
      obtain ⟨q5, w4, h⟩ := fx_bd h
      refine fs_callS (idx := 214) (mj := 160) (na := 2) (mx := 2) (p := 98) (args := [.int x1, .int x2]) (rest := [.ref 233]) (al2 := [some (.int x1), some (.int x2)]) (by decide +kernel) rfl (by decide +kernel) rfl rfl rfl rfl rfl rfl rfl (by omega) (fun d' hd' => fe_160 (by omega) w4) rfl ?_
      refine fs_iconst (n := 1) (p := 99) (by decide +kernel) rfl kc_1 ?_
      obtain ⟨t6, w7, h⟩ := fx_bd h
      refine fs_bastore (p := 100) (by decide +kernel) rfl w7 ?_
      refine fs_aload_n (k := 0) (p := 101) (by decide +kernel) rfl rfl ?_
      refine fs_gfr (idx := 67) (ci := 10) (j := 27) (p := 104) (by decide +kernel) rfl (by decide +kernel) fo_215 (fr_a215_27) ?_
      refine fs_iload_n (k := 1) (p := 105) (by decide +kernel) rfl rfl ?_
      refine fs_iload_n (k := 2) (p := 106) (by decide +kernel) rfl rfl ?_
      obtain ⟨q10, w9, h⟩ := fx_bd h
      refine fs_callS (idx := 214) (mj := 160) (na := 2) (mx := 2) (p := 109) (args := [.int x1, .int x2]) (rest := [.ref 234]) (al2 := [some (.int x1), some (.int x2)]) (by decide +kernel) rfl (by decide +kernel) rfl rfl rfl rfl rfl rfl rfl (by omega) (fun d' hd' => fe_160 (by omega) w9) rfl ?_
      refine fs_aload_n (k := 0) (p := 110) (by decide +kernel) rfl rfl ?_
      refine fs_iload_n (k := 1) (p := 111) (by decide +kernel) rfl rfl ?_
      refine fs_iload_n (k := 2) (p := 112) (by decide +kernel) rfl rfl ?_
      obtain ⟨q12, w11, h⟩ := fx_bd h
      refine fs_callV (idx := 236) (mj := 167) (ci := 10) (na := 2) (mx := 3) (p := 115) (args := [.ref 215, .int x1, .int x2]) (rest := [.int q10.1, .ref 234]) (al2 := [some (.ref 215), some (.int x1), some (.int x2)]) (by decide +kernel) rfl (by decide +kernel) fo_215 rfl rfl rfl rfl rfl rfl rfl (by omega) (fun d' hd' => fe_167 (by omega) w11) rfl ?_
      obtain ⟨t13, w14, h⟩ := fx_bd h
      refine fs_bastore (p := 116) (by decide +kernel) rfl w14 ?_
      refine fs_aload_n (k := 0) (p := 117) (by decide +kernel) rfl rfl ?_
      refine fs_gfr (idx := 67) (ci := 10) (j := 27) (p := 120) (by decide +kernel) rfl (by decide +kernel) fo_215 (fr_a215_27) ?_
      refine fs_iload_n (k := 1) (p := 121) (by decide +kernel) rfl rfl ?_
      refine fs_iload_n (k := 2) (p := 122) (by decide +kernel) rfl rfl ?_
      obtain ⟨q17, w16, h⟩ := fx_bd h
      refine fs_callS (idx := 214) (mj := 160) (na := 2) (mx := 2) (p := 125) (args := [.int x1, .int x2]) (rest := [.ref 234]) (al2 := [some (.int x1), some (.int x2)]) (by decide +kernel) rfl (by decide +kernel) rfl rfl rfl rfl rfl rfl rfl (by omega) (fun d' hd' => fe_160 (by omega) w16) rfl ?_
      refine fs_aload_n (k := 0) (p := 126) (by decide +kernel) rfl rfl ?_
      refine fs_iload_n (k := 1) (p := 127) (by decide +kernel) rfl rfl ?_
      refine fs_iload_n (k := 2) (p := 128) (by decide +kernel) rfl rfl ?_
      obtain ⟨q19, w18, h⟩ := fx_bd h
      refine fs_callV (idx := 236) (mj := 167) (ci := 10) (na := 2) (mx := 3) (p := 131) (args := [.ref 215, .int x1, .int x2]) (rest := [.int q17.1, .ref 234]) (al2 := [some (.ref 215), some (.int x1), some (.int x2)]) (by decide +kernel) rfl (by decide +kernel) fo_215 rfl rfl rfl rfl rfl rfl rfl (by omega) (fun d' hd' => fe_167 (by omega) w18) rfl ?_
      by_cases c20 : (fx_b q19.1) = 0
      · rw [if_pos c20] at h
        refine fs_if_eq_t (off := 14) (t := 145) (by decide +kernel) (by decide +kernel) c20 ?_
        refine fs_iconst (n := 0) (p := 146) (by decide +kernel) rfl kc_0 ?_
        exact fe_172_146 hd ih _ _ _ _ _ _ h
      · rw [if_neg c20] at h
        refine fs_if_eq_f (off := 14) (t := 145) (p := 134) (by decide +kernel) (by decide +kernel) rfl c20 ?_
        refine fs_aload_n (k := 0) (p := 135) (by decide +kernel) rfl rfl ?_
        obtain ⟨q22, w21, h⟩ := fx_bd h
        refine fs_callV (idx := 251) (mj := 171) (ci := 10) (na := 0) (mx := 3) (p := 138) (args := [.ref 215]) (rest := [.int q17.1, .ref 234]) (al2 := [some (.ref 215), none, none]) (by decide +kernel) rfl (by decide +kernel) fo_215 rfl rfl rfl rfl rfl rfl rfl (by omega) (fun d' hd' => fe_171 (by omega) w21) rfl ?_
        by_cases c23 : (fx_b q22.1) = 0
        · rw [if_pos c23] at h
          refine fs_if_eq_t (off := 7) (t := 145) (by decide +kernel) (by decide +kernel) c23 ?_
          refine fs_iconst (n := 0) (p := 146) (by decide +kernel) rfl kc_0 ?_
          exact fe_172_146 hd ih _ _ _ _ _ _ h
        · rw [if_neg c23] at h
          refine fs_if_eq_f (off := 7) (t := 145) (p := 141) (by decide +kernel) (by decide +kernel) rfl c23 ?_
          refine fs_iconst (n := 1) (p := 142) (by decide +kernel) rfl kc_1 ?_
          refine fs_goto (off := 4) (p := 146) (by decide +kernel) (by decide +kernel) ?_
          exact fe_172_146 hd ih _ _ _ _ _ _ h
def fm_172_71 : Nat → Int32 → fx_S → Option (fx_S)
  | 0, _, _ => none
  | n + 1, x1, σ =>
    if (σ.1 215 17) ≤ x1 then (
      some σ) else (
      fm_172_81 (fm_172_71 n) 100000 x1 (0 : Int32) σ)
theorem fe_172_71 {d : Nat} (hd : 29 ≤ d) : ∀ (n : Nat) (x1 : Int32) (o2 : Option Value) (σ : fx_S) (q : fx_S), fm_172_71 n x1 σ = some q → fx_E none 172 d 71 [some (.ref 215), some (.int x1), o2] [] σ none q := by
  intro n
  induction n with
  | zero =>
    intro x1 o2 σ q  h
    rw [fm_172_71] at h
    exact fx_no h
  | succ n ih =>
    intro x1 o2 σ q  h
    rw [fm_172_71] at h
    refine fs_iload_n (k := 1) (p := 72) (by decide +kernel) rfl rfl ?_
    refine fs_aload_n (k := 0) (p := 73) (by decide +kernel) rfl rfl ?_
    refine fs_gfi (idx := 208) (ci := 10) (j := 17) (p := 76) (by decide +kernel) rfl (by decide +kernel) fo_215 ?_
    by_cases c3 : (σ.1 215 17) ≤ x1
    · rw [if_pos c3] at h
      refine fs_icmp_ge_t (off := 110) (t := 186) (by decide +kernel) (by decide +kernel) c3 ?_
      have h := Option.some.inj h
      subst h
      exact fs_ret (by decide +kernel) rt_172
    · rw [if_neg c3] at h
      refine fs_icmp_ge_f (off := 110) (t := 186) (p := 79) (by decide +kernel) (by decide +kernel) rfl c3 ?_
      refine fs_iconst (n := 0) (p := 80) (by decide +kernel) rfl kc_0 ?_
      refine fs_istore_n (k := 2) (p := 81) (M := 3) (al' := [some (.ref 215), some (.int x1), some (.int (0 : Int32))]) (by decide +kernel) rfl mx_172 rfl rfl ?_
      exact fe_172_81 hd ih 100000 _ _ _ _ h
def fm_172_50 : Nat → Int32 → fx_S → Option (fx_S)
  | 0, _, _ => none
  | n + 1, x1, σ =>
    if (72 : Int32) ≤ x1 then (
      fm_172_71 100000 (0 : Int32) σ) else (
      (fx_stb σ 233 x1 (0 : Int32)).bind fun t3 =>
      fm_172_50 n (x1 + (1 : Int32)) t3)
theorem fe_172_50 {d : Nat} (hd : 29 ≤ d) : ∀ (n : Nat) (x1 : Int32) (σ : fx_S) (q : fx_S), fm_172_50 n x1 σ = some q → fx_E none 172 d 50 [some (.ref 215), some (.int x1), none] [] σ none q := by
  intro n
  induction n with
  | zero =>
    intro x1 σ q  h
    rw [fm_172_50] at h
    exact fx_no h
  | succ n ih =>
    intro x1 σ q  h
    rw [fm_172_50] at h
    refine fs_iload_n (k := 1) (p := 51) (by decide +kernel) rfl rfl ?_
    refine fs_bipush (n := 72) (p := 53) (by decide +kernel) rfl kb_72 ?_
    by_cases c2 : (72 : Int32) ≤ x1
    · rw [if_pos c2] at h
      refine fs_icmp_ge_t (off := 16) (t := 69) (by decide +kernel) (by decide +kernel) c2 ?_
      refine fs_iconst (n := 0) (p := 70) (by decide +kernel) rfl kc_0 ?_
      refine fs_istore_n (k := 1) (p := 71) (M := 3) (al' := [some (.ref 215), some (.int (0 : Int32)), none]) (by decide +kernel) rfl mx_172 rfl rfl ?_
      exact fe_172_71 hd 100000 _ _ _ _ h
    · rw [if_neg c2] at h
      refine fs_icmp_ge_f (off := 16) (t := 69) (p := 56) (by decide +kernel) (by decide +kernel) rfl c2 ?_
      refine fs_aload_n (k := 0) (p := 57) (by decide +kernel) rfl rfl ?_
      refine fs_gfr (idx := 64) (ci := 10) (j := 26) (p := 60) (by decide +kernel) rfl (by decide +kernel) fo_215 (fr_a215_26) ?_
      refine fs_iload_n (k := 1) (p := 61) (by decide +kernel) rfl rfl ?_
      refine fs_iconst (n := 0) (p := 62) (by decide +kernel) rfl kc_0 ?_
      obtain ⟨t3, w4, h⟩ := fx_bd h
      refine fs_bastore (p := 63) (by decide +kernel) rfl w4 ?_
      refine fs_iinc (k := 1) (n := 1) (p := 66) (M := 3) (al' := [some (.ref 215), some (.int (x1 + (1 : Int32))), none]) (by decide +kernel) rfl kc_1 mx_172 rfl rfl rfl ?_
      refine fs_goto (off := -16) (p := 50) (by decide +kernel) (by decide +kernel) ?_
      exact ih _ _ _ h
def fm_172_29 : Nat → Int32 → fx_S → Option (fx_S)
  | 0, _, _ => none
  | n + 1, x1, σ =>
    if (σ.1 215 18) ≤ x1 then (
      fm_172_50 100000 (0 : Int32) σ) else (
      (fm_166 x1 σ).bind fun q5 =>
      fm_172_29 n (x1 + (1 : Int32)) q5)
theorem fe_172_29 {d : Nat} (hd : 29 ≤ d) : ∀ (n : Nat) (x1 : Int32) (σ : fx_S) (q : fx_S), fm_172_29 n x1 σ = some q → fx_E none 172 d 29 [some (.ref 215), some (.int x1), none] [] σ none q := by
  intro n
  induction n with
  | zero =>
    intro x1 σ q  h
    rw [fm_172_29] at h
    exact fx_no h
  | succ n ih =>
    intro x1 σ q  h
    rw [fm_172_29] at h
    refine fs_iload_n (k := 1) (p := 30) (by decide +kernel) rfl rfl ?_
    refine fs_aload_n (k := 0) (p := 31) (by decide +kernel) rfl rfl ?_
    refine fs_gfi (idx := 211) (ci := 10) (j := 18) (p := 34) (by decide +kernel) rfl (by decide +kernel) fo_215 ?_
    by_cases c3 : (σ.1 215 18) ≤ x1
    · rw [if_pos c3] at h
      refine fs_icmp_ge_t (off := 14) (t := 48) (by decide +kernel) (by decide +kernel) c3 ?_
      refine fs_iconst (n := 0) (p := 49) (by decide +kernel) rfl kc_0 ?_
      refine fs_istore_n (k := 1) (p := 50) (M := 3) (al' := [some (.ref 215), some (.int (0 : Int32)), none]) (by decide +kernel) rfl mx_172 rfl rfl ?_
      exact fe_172_50 hd 100000 _ _ _ h
    · rw [if_neg c3] at h
      refine fs_icmp_ge_f (off := 14) (t := 48) (p := 37) (by decide +kernel) (by decide +kernel) rfl c3 ?_
      refine fs_aload_n (k := 0) (p := 38) (by decide +kernel) rfl rfl ?_
      refine fs_iload_n (k := 1) (p := 39) (by decide +kernel) rfl rfl ?_
      obtain ⟨q5, w4, h⟩ := fx_bd h
      refine fs_callV (idx := 248) (mj := 166) (ci := 10) (na := 1) (mx := 3) (p := 42) (args := [.ref 215, .int x1]) (rest := []) (al2 := [some (.ref 215), some (.int x1), none]) (by decide +kernel) rfl (by decide +kernel) fo_215 rfl rfl rfl rfl rfl rfl rfl (by omega) (fun d' hd' => fe_166 (by omega) w4) rfl ?_
      refine fs_iinc (k := 1) (n := 1) (p := 45) (M := 3) (al' := [some (.ref 215), some (.int (x1 + (1 : Int32))), none]) (by decide +kernel) rfl kc_1 mx_172 rfl rfl rfl ?_
      refine fs_goto (off := -16) (p := 29) (by decide +kernel) (by decide +kernel) ?_
      exact ih _ _ _ h
def fm_172_2 : Nat → Int32 → fx_S → Option (fx_S)
  | 0, _, _ => none
  | n + 1, x1, σ =>
    if (σ.1 215 17) ≤ x1 then (
      fm_172_29 100000 (0 : Int32) σ) else (
      (fm_162 x1 σ).bind fun q5 =>
      (fx_stl q5.2 226 x1 q5.1).bind fun t6 =>
      fm_172_2 n (x1 + (1 : Int32)) t6)
theorem fe_172_2 {d : Nat} (hd : 29 ≤ d) : ∀ (n : Nat) (x1 : Int32) (σ : fx_S) (q : fx_S), fm_172_2 n x1 σ = some q → fx_E none 172 d 2 [some (.ref 215), some (.int x1), none] [] σ none q := by
  intro n
  induction n with
  | zero =>
    intro x1 σ q  h
    rw [fm_172_2] at h
    exact fx_no h
  | succ n ih =>
    intro x1 σ q  h
    rw [fm_172_2] at h
    refine fs_iload_n (k := 1) (p := 3) (by decide +kernel) rfl rfl ?_
    refine fs_aload_n (k := 0) (p := 4) (by decide +kernel) rfl rfl ?_
    refine fs_gfi (idx := 208) (ci := 10) (j := 17) (p := 7) (by decide +kernel) rfl (by decide +kernel) fo_215 ?_
    by_cases c3 : (σ.1 215 17) ≤ x1
    · rw [if_pos c3] at h
      refine fs_icmp_ge_t (off := 20) (t := 27) (by decide +kernel) (by decide +kernel) c3 ?_
      refine fs_iconst (n := 0) (p := 28) (by decide +kernel) rfl kc_0 ?_
      refine fs_istore_n (k := 1) (p := 29) (M := 3) (al' := [some (.ref 215), some (.int (0 : Int32)), none]) (by decide +kernel) rfl mx_172 rfl rfl ?_
      exact fe_172_29 hd 100000 _ _ _ h
    · rw [if_neg c3] at h
      refine fs_icmp_ge_f (off := 20) (t := 27) (p := 10) (by decide +kernel) (by decide +kernel) rfl c3 ?_
      refine fs_aload_n (k := 0) (p := 11) (by decide +kernel) rfl rfl ?_
      refine fs_gfr (idx := 42) (ci := 10) (j := 19) (p := 14) (by decide +kernel) rfl (by decide +kernel) fo_215 (fr_a215_19) ?_
      refine fs_iload_n (k := 1) (p := 15) (by decide +kernel) rfl rfl ?_
      refine fs_aload_n (k := 0) (p := 16) (by decide +kernel) rfl rfl ?_
      refine fs_iload_n (k := 1) (p := 17) (by decide +kernel) rfl rfl ?_
      obtain ⟨q5, w4, h⟩ := fx_bd h
      refine fs_callV (idx := 217) (mj := 162) (ci := 10) (na := 1) (mx := 7) (p := 20) (args := [.ref 215, .int x1]) (rest := [.int x1, .ref 226]) (al2 := [some (.ref 215), some (.int x1), none, none, none, none, none]) (by decide +kernel) rfl (by decide +kernel) fo_215 rfl rfl rfl rfl rfl rfl rfl (by omega) (fun d' hd' => fe_162 (by omega) w4) rfl ?_
      obtain ⟨t6, w7, h⟩ := fx_bd h
      refine fs_lastore (p := 21) (by decide +kernel) rfl w7 ?_
      refine fs_iinc (k := 1) (n := 1) (p := 24) (M := 3) (al' := [some (.ref 215), some (.int (x1 + (1 : Int32))), none]) (by decide +kernel) rfl kc_1 mx_172 rfl rfl rfl ?_
      refine fs_goto (off := -22) (p := 2) (by decide +kernel) (by decide +kernel) ?_
      exact ih _ _ _ h
def fm_172 (σ : fx_S) : Option (fx_S) :=
  fm_172_2 100000 (0 : Int32) σ
theorem fe_172 {d : Nat} (hd : 29 ≤ d) {σ : fx_S} {q : fx_S} (h : fm_172 σ = some q) : fx_E none 172 d 0 [some (.ref 215), none, none] [] σ none q := by
  unfold fm_172 at h
  refine fs_iconst (n := 0) (p := 1) (by decide +kernel) rfl kc_0 ?_
  refine fs_istore_n (k := 1) (p := 2) (M := 3) (al' := [some (.ref 215), some (.int (0 : Int32)), none]) (by decide +kernel) rfl mx_172 rfl rfl ?_
  exact fe_172_2 hd 100000 _ _ _ h

/-! ZoneSharesModel.fills()V -/
theorem mx_173 : iv_mx 173 = 2 := by decide +kernel
theorem rt_173 : iv_rt 173 = none := by decide +kernel
def fm_173_39 : Nat → Int32 → fx_S → Option (fx_S)
  | 0, _, _ => none
  | n + 1, x1, σ =>
    if (σ.1 215 17) ≤ x1 then (
      some σ) else (
      (fm_163 x1 σ).bind fun q5 =>
      fm_173_39 n (x1 + (1 : Int32)) q5)
theorem fe_173_39 {d : Nat} (hd : 30 ≤ d) : ∀ (n : Nat) (x1 : Int32) (σ : fx_S) (q : fx_S), fm_173_39 n x1 σ = some q → fx_E none 173 d 39 [some (.ref 215), some (.int x1)] [] σ none q := by
  intro n
  induction n with
  | zero =>
    intro x1 σ q  h
    rw [fm_173_39] at h
    exact fx_no h
  | succ n ih =>
    intro x1 σ q  h
    rw [fm_173_39] at h
    refine fs_iload_n (k := 1) (p := 40) (by decide +kernel) rfl rfl ?_
    refine fs_aload_n (k := 0) (p := 41) (by decide +kernel) rfl rfl ?_
    refine fs_gfi (idx := 208) (ci := 10) (j := 17) (p := 44) (by decide +kernel) rfl (by decide +kernel) fo_215 ?_
    by_cases c3 : (σ.1 215 17) ≤ x1
    · rw [if_pos c3] at h
      refine fs_icmp_ge_t (off := 14) (t := 58) (by decide +kernel) (by decide +kernel) c3 ?_
      have h := Option.some.inj h
      subst h
      exact fs_ret (by decide +kernel) rt_173
    · rw [if_neg c3] at h
      refine fs_icmp_ge_f (off := 14) (t := 58) (p := 47) (by decide +kernel) (by decide +kernel) rfl c3 ?_
      refine fs_aload_n (k := 0) (p := 48) (by decide +kernel) rfl rfl ?_
      refine fs_iload_n (k := 1) (p := 49) (by decide +kernel) rfl rfl ?_
      obtain ⟨q5, w4, h⟩ := fx_bd h
      refine fs_callV (idx := 261) (mj := 163) (ci := 10) (na := 1) (mx := 6) (p := 52) (args := [.ref 215, .int x1]) (rest := []) (al2 := [some (.ref 215), some (.int x1), none, none, none, none]) (by decide +kernel) rfl (by decide +kernel) fo_215 rfl rfl rfl rfl rfl rfl rfl (by omega) (fun d' hd' => fe_163 (by omega) w4) rfl ?_
      refine fs_iinc (k := 1) (n := 1) (p := 55) (M := 2) (al' := [some (.ref 215), some (.int (x1 + (1 : Int32)))]) (by decide +kernel) rfl kc_1 mx_173 rfl rfl rfl ?_
      refine fs_goto (off := -16) (p := 39) (by decide +kernel) (by decide +kernel) ?_
      exact ih _ _ _ h
def fm_173_2 : Nat → Int32 → fx_S → Option (fx_S)
  | 0, _, _ => none
  | n + 1, x1, σ =>
    if (σ.1 215 17) ≤ x1 then (
      (fx_ld σ 216 (3 : Int32)).bind fun v4 =>
      if ¬ v4 = (1 : Int32) then (
        fm_173_39 100000 (0 : Int32) σ) else (
        (fm_172 σ).bind fun q9 =>
        some q9)) else (
      (fm_161 x1 σ).bind fun q11 =>
      fm_173_2 n (x1 + (1 : Int32)) q11.2)
theorem fe_173_2 {d : Nat} (hd : 30 ≤ d) : ∀ (n : Nat) (x1 : Int32) (σ : fx_S) (q : fx_S), fm_173_2 n x1 σ = some q → fx_E none 173 d 2 [some (.ref 215), some (.int x1)] [] σ none q := by
  intro n
  induction n with
  | zero =>
    intro x1 σ q  h
    rw [fm_173_2] at h
    exact fx_no h
  | succ n ih =>
    intro x1 σ q  h
    rw [fm_173_2] at h
    refine fs_iload_n (k := 1) (p := 3) (by decide +kernel) rfl rfl ?_
    refine fs_aload_n (k := 0) (p := 4) (by decide +kernel) rfl rfl ?_
    refine fs_gfi (idx := 208) (ci := 10) (j := 17) (p := 7) (by decide +kernel) rfl (by decide +kernel) fo_215 ?_
    by_cases c3 : (σ.1 215 17) ≤ x1
    · rw [if_pos c3] at h
      refine fs_icmp_ge_t (off := 15) (t := 22) (by decide +kernel) (by decide +kernel) c3 ?_
      refine fs_aload_n (k := 0) (p := 23) (by decide +kernel) rfl rfl ?_
      refine fs_gfr (idx := 9) (ci := 10) (j := 0) (p := 26) (by decide +kernel) rfl (by decide +kernel) fo_215 (fr_a215_0) ?_
      refine fs_iconst (n := 3) (p := 27) (by decide +kernel) rfl kc_3 ?_
      obtain ⟨v4, w5, h⟩ := fx_bd h
      refine fs_iaload (p := 28) (by decide +kernel) rfl w5 ?_
      refine fs_iconst (n := 1) (p := 29) (by decide +kernel) rfl kc_1 ?_
      by_cases c7 : ¬ v4 = (1 : Int32)
      · rw [if_pos c7] at h
        refine fs_icmp_ne_t (off := 8) (t := 37) (by decide +kernel) (by decide +kernel) c7 ?_
        refine fs_iconst (n := 0) (p := 38) (by decide +kernel) rfl kc_0 ?_
        refine fs_istore_n (k := 1) (p := 39) (M := 2) (al' := [some (.ref 215), some (.int (0 : Int32))]) (by decide +kernel) rfl mx_173 rfl rfl ?_
        exact fe_173_39 hd 100000 _ _ _ h
      · rw [if_neg c7] at h
        refine fs_icmp_ne_f (off := 8) (t := 37) (p := 32) (by decide +kernel) (by decide +kernel) rfl c7 ?_
        refine fs_aload_n (k := 0) (p := 33) (by decide +kernel) rfl rfl ?_
        obtain ⟨q9, w8, h⟩ := fx_bd h
        refine fs_callV (idx := 258) (mj := 172) (ci := 10) (na := 0) (mx := 3) (p := 36) (args := [.ref 215]) (rest := []) (al2 := [some (.ref 215), none, none]) (by decide +kernel) rfl (by decide +kernel) fo_215 rfl rfl rfl rfl rfl rfl rfl (by omega) (fun d' hd' => fe_172 (by omega) w8) rfl ?_
        have h := Option.some.inj h
        subst h
        exact fs_ret (by decide +kernel) rt_173
    · rw [if_neg c3] at h
      refine fs_icmp_ge_f (off := 15) (t := 22) (p := 10) (by decide +kernel) (by decide +kernel) rfl c3 ?_
      refine fs_aload_n (k := 0) (p := 11) (by decide +kernel) rfl rfl ?_
      refine fs_iload_n (k := 1) (p := 12) (by decide +kernel) rfl rfl ?_
      obtain ⟨q11, w10, h⟩ := fx_bd h
      refine fs_callV (idx := 254) (mj := 161) (ci := 10) (na := 1) (mx := 4) (p := 15) (args := [.ref 215, .int x1]) (rest := []) (al2 := [some (.ref 215), some (.int x1), none, none]) (by decide +kernel) rfl (by decide +kernel) fo_215 rfl rfl rfl rfl rfl rfl rfl (by omega) (fun d' hd' => fe_161 (by omega) w10) rfl ?_
      refine fs_pop (p := 16) (by decide +kernel) rfl rfl ?_
      refine fs_iinc (k := 1) (n := 1) (p := 19) (M := 2) (al' := [some (.ref 215), some (.int (x1 + (1 : Int32)))]) (by decide +kernel) rfl kc_1 mx_173 rfl rfl rfl ?_
      refine fs_goto (off := -17) (p := 2) (by decide +kernel) (by decide +kernel) ?_
      exact ih _ _ _ h
def fm_173 (σ : fx_S) : Option (fx_S) :=
  fm_173_2 100000 (0 : Int32) σ
theorem fe_173 {d : Nat} (hd : 30 ≤ d) {σ : fx_S} {q : fx_S} (h : fm_173 σ = some q) : fx_E none 173 d 0 [some (.ref 215), none] [] σ none q := by
  unfold fm_173 at h
  refine fs_iconst (n := 0) (p := 1) (by decide +kernel) rfl kc_0 ?_
  refine fs_istore_n (k := 1) (p := 2) (M := 2) (al' := [some (.ref 215), some (.int (0 : Int32))]) (by decide +kernel) rfl mx_173 rfl rfl ?_
  exact fe_173_2 hd 100000 _ _ _ h

/-! ZoneSharesModel.moved(III)I -/
theorem mx_185 : iv_mx 185 = 4 := by decide +kernel
theorem rt_185 : iv_rt 185 = some .int := by decide +kernel
def fm_185 (x1 : Int32) (x2 : Int32) (x3 : Int32) (σ : fx_S) : Option (Int32 × fx_S) :=
  (fm_150 σ).bind fun q34 =>
  if (fx_b q34.1) = 0 then (
    some ((-1 : Int32), q34.2)) else (
    (fm_148 x1 q34.2).bind fun q37 =>
    if (fx_b q37.1) = 0 then (
      some ((-1 : Int32), q37.2)) else (
      (fm_130 (x2).toInt64 (-1 : Int64) (7 : Int64) q37.2).bind fun q41 =>
      if (fx_b q41.1) = 0 then (
        some ((-1 : Int32), q41.2)) else (
        (fm_130 (x3).toInt64 (-1 : Int64) (8 : Int64) q41.2).bind fun q45 =>
        if ¬ (fx_b q45.1) = 0 then (
          (fm_181 x1 q45.2).bind fun q48 =>
          (fm_173 q48).bind fun q50 =>
          if ¬ x2 = (-1 : Int32) then (
            if ¬ x3 = (-1 : Int32) then (
              (fm_160 x2 x3 q50).bind fun q54 =>
              (fx_ldl q54.2 224 q54.1).bind fun v55 =>
              some ((v55).toInt32, q54.2)) else (
              (fm_182 x2 q50).bind fun q59 =>
              some (q59.1, q59.2))) else (
            if ¬ x3 = (-1 : Int32) then (
              (fm_183 x3 q50).bind fun q62 =>
              some (q62.1, q62.2)) else (
              (fm_184 q50).bind fun q64 =>
              some (q64.1, q64.2)))) else (
          some ((-1 : Int32), q45.2)))))
theorem fe_185 {d : Nat} (hd : 31 ≤ d) {x1 : Int32} {x2 : Int32} {x3 : Int32} {σ : fx_S} {q : Int32 × fx_S} (h : fm_185 x1 x2 x3 σ = some q) : fx_E none 185 d 0 [some (.ref 215), some (.int x1), some (.int x2), some (.int x3)] [] σ (some (.int q.1)) q.2 := by
  unfold fm_185 at h
  refine fs_aload_n (k := 0) (p := 1) (by decide +kernel) rfl rfl ?_
  obtain ⟨q34, w33, h⟩ := fx_bd h
  refine fs_callV (idx := 303) (mj := 150) (ci := 10) (na := 0) (mx := 1) (p := 4) (args := [.ref 215]) (rest := []) (al2 := [some (.ref 215)]) (by decide +kernel) rfl (by decide +kernel) fo_215 rfl rfl rfl rfl rfl rfl rfl (by omega) (fun d' hd' => fe_150 (by omega) w33) rfl ?_
  by_cases c35 : (fx_b q34.1) = 0
  · rw [if_pos c35] at h
    refine fs_if_eq_t (off := 38) (t := 42) (by decide +kernel) (by decide +kernel) c35 ?_
    refine fs_iconst (n := -1) (p := 43) (by decide +kernel) rfl kc_m1 ?_
    have h := Option.some.inj h
    subst h
    exact fs_iret (by decide +kernel) rt_185
  · rw [if_neg c35] at h
    refine fs_if_eq_f (off := 38) (t := 42) (p := 7) (by decide +kernel) (by decide +kernel) rfl c35 ?_
    refine fs_iload_n (k := 1) (p := 8) (by decide +kernel) rfl rfl ?_
    obtain ⟨q37, w36, h⟩ := fx_bd h
    refine fs_callS (idx := 190) (mj := 148) (na := 1) (mx := 1) (p := 11) (args := [.int x1]) (rest := []) (al2 := [some (.int x1)]) (by decide +kernel) rfl (by decide +kernel) rfl rfl rfl rfl rfl rfl rfl (by omega) (fun d' hd' => fe_148 (by omega) w36) rfl ?_
    by_cases c38 : (fx_b q37.1) = 0
    · rw [if_pos c38] at h
      refine fs_if_eq_t (off := 31) (t := 42) (by decide +kernel) (by decide +kernel) c38 ?_
      refine fs_iconst (n := -1) (p := 43) (by decide +kernel) rfl kc_m1 ?_
      have h := Option.some.inj h
      subst h
      exact fs_iret (by decide +kernel) rt_185
    · rw [if_neg c38] at h
      refine fs_if_eq_f (off := 31) (t := 42) (p := 14) (by decide +kernel) (by decide +kernel) rfl c38 ?_
      refine fs_iload_n (k := 2) (p := 15) (by decide +kernel) rfl rfl ?_
      refine fs_i2l (p := 16) (by decide +kernel) rfl ?_
      refine fs_ldc2 (idx := 306) (p := 19) (x := -1) (by decide +kernel) rfl (by decide +kernel) ?_
      refine fs_ldc2 (idx := 308) (p := 22) (x := 7) (by decide +kernel) rfl (by decide +kernel) ?_
      obtain ⟨q41, w40, h⟩ := fx_bd h
      refine fs_callS (idx := 128) (mj := 130) (na := 3) (mx := 6) (p := 25) (args := [.long (x2).toInt64, .long (-1 : Int64), .long (7 : Int64)]) (rest := []) (al2 := [some (.long (x2).toInt64), none, some (.long (-1 : Int64)), none, some (.long (7 : Int64)), none]) (by decide +kernel) rfl (by decide +kernel) rfl rfl rfl rfl rfl rfl rfl (by omega) (fun d' hd' => fe_130 (by omega) w40) rfl ?_
      by_cases c42 : (fx_b q41.1) = 0
      · rw [if_pos c42] at h
        refine fs_if_eq_t (off := 17) (t := 42) (by decide +kernel) (by decide +kernel) c42 ?_
        refine fs_iconst (n := -1) (p := 43) (by decide +kernel) rfl kc_m1 ?_
        have h := Option.some.inj h
        subst h
        exact fs_iret (by decide +kernel) rt_185
      · rw [if_neg c42] at h
        refine fs_if_eq_f (off := 17) (t := 42) (p := 28) (by decide +kernel) (by decide +kernel) rfl c42 ?_
        refine fs_iload_n (k := 3) (p := 29) (by decide +kernel) rfl rfl ?_
        refine fs_i2l (p := 30) (by decide +kernel) rfl ?_
        refine fs_ldc2 (idx := 306) (p := 33) (x := -1) (by decide +kernel) rfl (by decide +kernel) ?_
        refine fs_ldc2 (idx := 310) (p := 36) (x := 8) (by decide +kernel) rfl (by decide +kernel) ?_
        obtain ⟨q45, w44, h⟩ := fx_bd h
        refine fs_callS (idx := 128) (mj := 130) (na := 3) (mx := 6) (p := 39) (args := [.long (x3).toInt64, .long (-1 : Int64), .long (8 : Int64)]) (rest := []) (al2 := [some (.long (x3).toInt64), none, some (.long (-1 : Int64)), none, some (.long (8 : Int64)), none]) (by decide +kernel) rfl (by decide +kernel) rfl rfl rfl rfl rfl rfl rfl (by omega) (fun d' hd' => fe_130 (by omega) w44) rfl ?_
        by_cases c46 : ¬ (fx_b q45.1) = 0
        · rw [if_pos c46] at h
          refine fs_if_ne_t (off := 5) (t := 44) (by decide +kernel) (by decide +kernel) c46 ?_
          refine fs_aload_n (k := 0) (p := 45) (by decide +kernel) rfl rfl ?_
          refine fs_iload_n (k := 1) (p := 46) (by decide +kernel) rfl rfl ?_
          obtain ⟨q48, w47, h⟩ := fx_bd h
          refine fs_callV (idx := 312) (mj := 181) (ci := 10) (na := 1) (mx := 5) (p := 49) (args := [.ref 215, .int x1]) (rest := []) (al2 := [some (.ref 215), some (.int x1), none, none, none]) (by decide +kernel) rfl (by decide +kernel) fo_215 rfl rfl rfl rfl rfl rfl rfl (by omega) (fun d' hd' => fe_181 (by omega) w47) rfl ?_
          refine fs_aload_n (k := 0) (p := 50) (by decide +kernel) rfl rfl ?_
          obtain ⟨q50, w49, h⟩ := fx_bd h
          refine fs_callV (idx := 315) (mj := 173) (ci := 10) (na := 0) (mx := 2) (p := 53) (args := [.ref 215]) (rest := []) (al2 := [some (.ref 215), none]) (by decide +kernel) rfl (by decide +kernel) fo_215 rfl rfl rfl rfl rfl rfl rfl (by omega) (fun d' hd' => fe_173 (by omega) w49) rfl ?_
          refine fs_iload_n (k := 2) (p := 54) (by decide +kernel) rfl rfl ?_
          refine fs_iconst (n := -1) (p := 55) (by decide +kernel) rfl kc_m1 ?_
          by_cases c51 : ¬ x2 = (-1 : Int32)
          · rw [if_pos c51] at h
            refine fs_icmp_ne_t (off := 21) (t := 76) (by decide +kernel) (by decide +kernel) c51 ?_
            refine fs_iload_n (k := 3) (p := 77) (by decide +kernel) rfl rfl ?_
            refine fs_iconst (n := -1) (p := 78) (by decide +kernel) rfl kc_m1 ?_
            by_cases c52 : ¬ x3 = (-1 : Int32)
            · rw [if_pos c52] at h
              refine fs_icmp_ne_t (off := 11) (t := 89) (by decide +kernel) (by decide +kernel) c52 ?_
              refine fs_aload_n (k := 0) (p := 90) (by decide +kernel) rfl rfl ?_
              refine fs_gfr (idx := 36) (ci := 10) (j := 15) (p := 93) (by decide +kernel) rfl (by decide +kernel) fo_215 (fr_a215_15) ?_
              refine fs_iload_n (k := 2) (p := 94) (by decide +kernel) rfl rfl ?_
              refine fs_iload_n (k := 3) (p := 95) (by decide +kernel) rfl rfl ?_
              obtain ⟨q54, w53, h⟩ := fx_bd h
              refine fs_callS (idx := 214) (mj := 160) (na := 2) (mx := 2) (p := 98) (args := [.int x2, .int x3]) (rest := [.ref 224]) (al2 := [some (.int x2), some (.int x3)]) (by decide +kernel) rfl (by decide +kernel) rfl rfl rfl rfl rfl rfl rfl (by omega) (fun d' hd' => fe_160 (by omega) w53) rfl ?_
              obtain ⟨v55, w56, h⟩ := fx_bd h
              refine fs_laload (p := 99) (by decide +kernel) rfl w56 ?_
              refine fs_l2i (p := 100) (by decide +kernel) rfl ?_
              have h := Option.some.inj h
              subst h
              exact fs_iret (by decide +kernel) rt_185
            · rw [if_neg c52] at h
              refine fs_icmp_ne_f (off := 11) (t := 89) (p := 81) (by decide +kernel) (by decide +kernel) rfl c52 ?_
              refine fs_aload_n (k := 0) (p := 82) (by decide +kernel) rfl rfl ?_
              refine fs_iload_n (k := 2) (p := 83) (by decide +kernel) rfl rfl ?_
              obtain ⟨q59, w58, h⟩ := fx_bd h
              refine fs_callV (idx := 300) (mj := 182) (ci := 10) (na := 1) (mx := 4) (p := 86) (args := [.ref 215, .int x2]) (rest := []) (al2 := [some (.ref 215), some (.int x2), none, none]) (by decide +kernel) rfl (by decide +kernel) fo_215 rfl rfl rfl rfl rfl rfl rfl (by omega) (fun d' hd' => fe_182 (by omega) w58) rfl ?_
              refine fs_goto (off := 14) (p := 100) (by decide +kernel) (by decide +kernel) ?_
              have h := Option.some.inj h
              subst h
              exact fs_iret (by decide +kernel) rt_185
          · rw [if_neg c51] at h
            refine fs_icmp_ne_f (off := 21) (t := 76) (p := 58) (by decide +kernel) (by decide +kernel) rfl c51 ?_
            refine fs_iload_n (k := 3) (p := 59) (by decide +kernel) rfl rfl ?_
            refine fs_iconst (n := -1) (p := 60) (by decide +kernel) rfl kc_m1 ?_
            by_cases c60 : ¬ x3 = (-1 : Int32)
            · rw [if_pos c60] at h
              refine fs_icmp_ne_t (off := 10) (t := 70) (by decide +kernel) (by decide +kernel) c60 ?_
              refine fs_aload_n (k := 0) (p := 71) (by decide +kernel) rfl rfl ?_
              refine fs_iload_n (k := 3) (p := 72) (by decide +kernel) rfl rfl ?_
              obtain ⟨q62, w61, h⟩ := fx_bd h
              refine fs_callV (idx := 321) (mj := 183) (ci := 10) (na := 1) (mx := 4) (p := 75) (args := [.ref 215, .int x3]) (rest := []) (al2 := [some (.ref 215), some (.int x3), none, none]) (by decide +kernel) rfl (by decide +kernel) fo_215 rfl rfl rfl rfl rfl rfl rfl (by omega) (fun d' hd' => fe_183 (by omega) w61) rfl ?_
              have h := Option.some.inj h
              subst h
              exact fs_iret (by decide +kernel) rt_185
            · rw [if_neg c60] at h
              refine fs_icmp_ne_f (off := 10) (t := 70) (p := 63) (by decide +kernel) (by decide +kernel) rfl c60 ?_
              refine fs_aload_n (k := 0) (p := 64) (by decide +kernel) rfl rfl ?_
              obtain ⟨q64, w63, h⟩ := fx_bd h
              refine fs_callV (idx := 318) (mj := 184) (ci := 10) (na := 0) (mx := 3) (p := 67) (args := [.ref 215]) (rest := []) (al2 := [some (.ref 215), none, none]) (by decide +kernel) rfl (by decide +kernel) fo_215 rfl rfl rfl rfl rfl rfl rfl (by omega) (fun d' hd' => fe_184 (by omega) w63) rfl ?_
              refine fs_goto (off := 8) (p := 75) (by decide +kernel) (by decide +kernel) ?_
              have h := Option.some.inj h
              subst h
              exact fs_iret (by decide +kernel) rt_185
        · rw [if_neg c46] at h
          refine fs_if_ne_f (off := 5) (t := 44) (p := 42) (by decide +kernel) (by decide +kernel) rfl c46 ?_
          refine fs_iconst (n := -1) (p := 43) (by decide +kernel) rfl kc_m1 ?_
          have h := Option.some.inj h
          subst h
          exact fs_iret (by decide +kernel) rt_185

/-! ZoneSharesModel.coarse(III)I -/
theorem mx_188 : iv_mx 188 = 6 := by decide +kernel
theorem rt_188 : iv_rt 188 = some .int := by decide +kernel
def fm_188_102 (k_73 : Int32 → Int32 → Int32 → fx_S → Option (Int32 × fx_S)) (x2 : Int32) (x5 : Int32) (s0 : Int32) (s1 : Int32) (σ : fx_S) : Option (Int32 × fx_S) :=
  k_73 x2 (s0 + s1) (x5 + (1 : Int32)) σ
theorem fe_188_102 {d : Nat} (hd : 31 ≤ d) {k_73 : Int32 → Int32 → Int32 → fx_S → Option (Int32 × fx_S)} (hk_73 : ∀ (x2 : Int32) (x4 : Int32) (x5 : Int32) (o1 : Option Value) (o3 : Option Value) (σ : fx_S) (q : Int32 × fx_S), k_73 x2 x4 x5 σ = some q → fx_E none 188 d 73 [some (.ref 215), o1, some (.int x2), o3, some (.int x4), some (.int x5)] [] σ (some (.int q.1)) q.2) (x2 : Int32) (x5 : Int32) (s0 : Int32) (s1 : Int32) (o1 : Option Value) (o3 : Option Value) (o4 : Option Value) (σ : fx_S) (q : Int32 × fx_S) (h : fm_188_102 k_73  x2 x5 s0 s1 σ = some q) : fx_E none 188 d 102 [some (.ref 215), o1, some (.int x2), o3, o4, some (.int x5)] [.int s1, .int s0] σ (some (.int q.1)) q.2 := by
  unfold fm_188_102 at h
  refine fs_iadd (p := 103) (by decide +kernel) rfl ?_
  refine fs_istore (k := 4) (p := 105) (M := 6) (al' := [some (.ref 215), o1, some (.int x2), (fx_kl o3), some (.int (s0 + s1)), some (.int x5)]) (by decide +kernel) rfl mx_188 rfl rfl ?_
  refine fs_iinc (k := 5) (n := 1) (p := 108) (M := 6) (al' := [some (.ref 215), o1, some (.int x2), (fx_kl o3), some (.int (s0 + s1)), some (.int (x5 + (1 : Int32)))]) (by decide +kernel) rfl kc_1 mx_188 rfl rfl rfl ?_
  refine fs_goto (off := -35) (p := 73) (by decide +kernel) (by decide +kernel) ?_
  exact hk_73 _ _ _ _ _ _ _ h
def fm_188_73 : Nat → Int32 → Int32 → Int32 → fx_S → Option (Int32 × fx_S)
  | 0, _, _, _, _ => none
  | n + 1, x2, x4, x5, σ =>
    if (8 : Int32) ≤ x5 then (
      some (x4, σ)) else (
      (fm_186 x5 σ).bind fun q4 =>
      if ¬ q4.1 = x2 then (
        fm_188_102 (fm_188_73 n) x2 x5 x4 (0 : Int32) q4.2) else (
        (fm_183 x5 q4.2).bind fun q9 =>
        fm_188_102 (fm_188_73 n) x2 x5 x4 q9.1 q9.2))
theorem fe_188_73 {d : Nat} (hd : 31 ≤ d) : ∀ (n : Nat) (x2 : Int32) (x4 : Int32) (x5 : Int32) (o1 : Option Value) (o3 : Option Value) (σ : fx_S) (q : Int32 × fx_S), fm_188_73 n x2 x4 x5 σ = some q → fx_E none 188 d 73 [some (.ref 215), o1, some (.int x2), o3, some (.int x4), some (.int x5)] [] σ (some (.int q.1)) q.2 := by
  intro n
  induction n with
  | zero =>
    intro x2 x4 x5 o1 o3 σ q  h
    rw [fm_188_73] at h
    exact fx_no h
  | succ n ih =>
    intro x2 x4 x5 o1 o3 σ q  h
    rw [fm_188_73] at h
    refine fs_iload (k := 5) (p := 75) (by decide +kernel) rfl rfl ?_
    refine fs_bipush (n := 8) (p := 77) (by decide +kernel) rfl kb_8 ?_
    by_cases c2 : (8 : Int32) ≤ x5
    · rw [if_pos c2] at h
      refine fs_icmp_ge_t (off := 34) (t := 111) (by decide +kernel) (by decide +kernel) c2 ?_
      refine fs_iload (k := 4) (p := 113) (by decide +kernel) rfl rfl ?_
      have h := Option.some.inj h
      subst h
      exact fs_iret (by decide +kernel) rt_188
    · rw [if_neg c2] at h
      refine fs_icmp_ge_f (off := 34) (t := 111) (p := 80) (by decide +kernel) (by decide +kernel) rfl c2 ?_
      refine fs_iload (k := 4) (p := 82) (by decide +kernel) rfl rfl ?_
      refine fs_aload_n (k := 0) (p := 83) (by decide +kernel) rfl rfl ?_
      refine fs_iload (k := 5) (p := 85) (by decide +kernel) rfl rfl ?_
      obtain ⟨q4, w3, h⟩ := fx_bd h
      refine fs_callV (idx := 324) (mj := 186) (ci := 10) (na := 1) (mx := 2) (p := 88) (args := [.ref 215, .int x5]) (rest := [.int x4]) (al2 := [some (.ref 215), some (.int x5)]) (by decide +kernel) rfl (by decide +kernel) fo_215 rfl rfl rfl rfl rfl rfl rfl (by omega) (fun d' hd' => fe_186 (by omega) w3) rfl ?_
      refine fs_iload_n (k := 2) (p := 89) (by decide +kernel) rfl rfl ?_
      by_cases c7 : ¬ q4.1 = x2
      · rw [if_pos c7] at h
        refine fs_icmp_ne_t (off := 12) (t := 101) (by decide +kernel) (by decide +kernel) c7 ?_
        refine fs_iconst (n := 0) (p := 102) (by decide +kernel) rfl kc_0 ?_
        exact fe_188_102 hd ih _ _ _ _ _ _ _ _ _ h
      · rw [if_neg c7] at h
        refine fs_icmp_ne_f (off := 12) (t := 101) (p := 92) (by decide +kernel) (by decide +kernel) rfl c7 ?_
        refine fs_aload_n (k := 0) (p := 93) (by decide +kernel) rfl rfl ?_
        refine fs_iload (k := 5) (p := 95) (by decide +kernel) rfl rfl ?_
        obtain ⟨q9, w8, h⟩ := fx_bd h
        refine fs_callV (idx := 321) (mj := 183) (ci := 10) (na := 1) (mx := 4) (p := 98) (args := [.ref 215, .int x5]) (rest := [.int x4]) (al2 := [some (.ref 215), some (.int x5), none, none]) (by decide +kernel) rfl (by decide +kernel) fo_215 rfl rfl rfl rfl rfl rfl rfl (by omega) (fun d' hd' => fe_183 (by omega) w8) rfl ?_
        refine fs_goto (off := 4) (p := 102) (by decide +kernel) (by decide +kernel) ?_
        exact fe_188_102 hd ih _ _ _ _ _ _ _ _ _ h
def fm_188 (x1 : Int32) (x2 : Int32) (x3 : Int32) (σ : fx_S) : Option (Int32 × fx_S) :=
  (fm_150 σ).bind fun q36 =>
  if (fx_b q36.1) = 0 then (
    some ((-1 : Int32), q36.2)) else (
    (fm_148 x1 q36.2).bind fun q39 =>
    if (fx_b q39.1) = 0 then (
      some ((-1 : Int32), q39.2)) else (
      (fm_130 (x2).toInt64 (0 : Int64) (3 : Int64) q39.2).bind fun q43 =>
      if (fx_b q43.1) = 0 then (
        some ((-1 : Int32), q43.2)) else (
        (fm_130 (x3).toInt64 (0 : Int64) (1 : Int64) q43.2).bind fun q47 =>
        if ¬ (fx_b q47.1) = 0 then (
          if ¬ x3 = (1 : Int32) then (
            (fm_181 x1 q47.2).bind fun q51 =>
            (fm_173 q51).bind fun q53 =>
            fm_188_73 100000 x2 (0 : Int32) (0 : Int32) q53) else (
            (fm_187 x1 q47.2).bind fun q55 =>
            (fm_173 q55).bind fun q57 =>
            (fm_183 x2 q57).bind fun q59 =>
            some (q59.1, q59.2))) else (
          some ((-1 : Int32), q47.2)))))
theorem fe_188 {d : Nat} (hd : 31 ≤ d) {x1 : Int32} {x2 : Int32} {x3 : Int32} {σ : fx_S} {q : Int32 × fx_S} (h : fm_188 x1 x2 x3 σ = some q) : fx_E none 188 d 0 [some (.ref 215), some (.int x1), some (.int x2), some (.int x3), none, none] [] σ (some (.int q.1)) q.2 := by
  unfold fm_188 at h
  refine fs_aload_n (k := 0) (p := 1) (by decide +kernel) rfl rfl ?_
  obtain ⟨q36, w35, h⟩ := fx_bd h
  refine fs_callV (idx := 303) (mj := 150) (ci := 10) (na := 0) (mx := 1) (p := 4) (args := [.ref 215]) (rest := []) (al2 := [some (.ref 215)]) (by decide +kernel) rfl (by decide +kernel) fo_215 rfl rfl rfl rfl rfl rfl rfl (by omega) (fun d' hd' => fe_150 (by omega) w35) rfl ?_
  by_cases c37 : (fx_b q36.1) = 0
  · rw [if_pos c37] at h
    refine fs_if_eq_t (off := 32) (t := 36) (by decide +kernel) (by decide +kernel) c37 ?_
    refine fs_iconst (n := -1) (p := 37) (by decide +kernel) rfl kc_m1 ?_
    have h := Option.some.inj h
    subst h
    exact fs_iret (by decide +kernel) rt_188
  · rw [if_neg c37] at h
    refine fs_if_eq_f (off := 32) (t := 36) (p := 7) (by decide +kernel) (by decide +kernel) rfl c37 ?_
    refine fs_iload_n (k := 1) (p := 8) (by decide +kernel) rfl rfl ?_
    obtain ⟨q39, w38, h⟩ := fx_bd h
    refine fs_callS (idx := 190) (mj := 148) (na := 1) (mx := 1) (p := 11) (args := [.int x1]) (rest := []) (al2 := [some (.int x1)]) (by decide +kernel) rfl (by decide +kernel) rfl rfl rfl rfl rfl rfl rfl (by omega) (fun d' hd' => fe_148 (by omega) w38) rfl ?_
    by_cases c40 : (fx_b q39.1) = 0
    · rw [if_pos c40] at h
      refine fs_if_eq_t (off := 25) (t := 36) (by decide +kernel) (by decide +kernel) c40 ?_
      refine fs_iconst (n := -1) (p := 37) (by decide +kernel) rfl kc_m1 ?_
      have h := Option.some.inj h
      subst h
      exact fs_iret (by decide +kernel) rt_188
    · rw [if_neg c40] at h
      refine fs_if_eq_f (off := 25) (t := 36) (p := 14) (by decide +kernel) (by decide +kernel) rfl c40 ?_
      refine fs_iload_n (k := 2) (p := 15) (by decide +kernel) rfl rfl ?_
      refine fs_i2l (p := 16) (by decide +kernel) rfl ?_
      refine fs_lconst (n := 0) (p := 17) (by decide +kernel) rfl kl_0 ?_
      refine fs_ldc2 (idx := 327) (p := 20) (x := 3) (by decide +kernel) rfl (by decide +kernel) ?_
      obtain ⟨q43, w42, h⟩ := fx_bd h
      refine fs_callS (idx := 128) (mj := 130) (na := 3) (mx := 6) (p := 23) (args := [.long (x2).toInt64, .long (0 : Int64), .long (3 : Int64)]) (rest := []) (al2 := [some (.long (x2).toInt64), none, some (.long (0 : Int64)), none, some (.long (3 : Int64)), none]) (by decide +kernel) rfl (by decide +kernel) rfl rfl rfl rfl rfl rfl rfl (by omega) (fun d' hd' => fe_130 (by omega) w42) rfl ?_
      by_cases c44 : (fx_b q43.1) = 0
      · rw [if_pos c44] at h
        refine fs_if_eq_t (off := 13) (t := 36) (by decide +kernel) (by decide +kernel) c44 ?_
        refine fs_iconst (n := -1) (p := 37) (by decide +kernel) rfl kc_m1 ?_
        have h := Option.some.inj h
        subst h
        exact fs_iret (by decide +kernel) rt_188
      · rw [if_neg c44] at h
        refine fs_if_eq_f (off := 13) (t := 36) (p := 26) (by decide +kernel) (by decide +kernel) rfl c44 ?_
        refine fs_iload_n (k := 3) (p := 27) (by decide +kernel) rfl rfl ?_
        refine fs_i2l (p := 28) (by decide +kernel) rfl ?_
        refine fs_lconst (n := 0) (p := 29) (by decide +kernel) rfl kl_0 ?_
        refine fs_lconst (n := 1) (p := 30) (by decide +kernel) rfl kl_1 ?_
        obtain ⟨q47, w46, h⟩ := fx_bd h
        refine fs_callS (idx := 128) (mj := 130) (na := 3) (mx := 6) (p := 33) (args := [.long (x3).toInt64, .long (0 : Int64), .long (1 : Int64)]) (rest := []) (al2 := [some (.long (x3).toInt64), none, some (.long (0 : Int64)), none, some (.long (1 : Int64)), none]) (by decide +kernel) rfl (by decide +kernel) rfl rfl rfl rfl rfl rfl rfl (by omega) (fun d' hd' => fe_130 (by omega) w46) rfl ?_
        by_cases c48 : ¬ (fx_b q47.1) = 0
        · rw [if_pos c48] at h
          refine fs_if_ne_t (off := 5) (t := 38) (by decide +kernel) (by decide +kernel) c48 ?_
          refine fs_iload_n (k := 3) (p := 39) (by decide +kernel) rfl rfl ?_
          refine fs_iconst (n := 1) (p := 40) (by decide +kernel) rfl kc_1 ?_
          by_cases c49 : ¬ x3 = (1 : Int32)
          · rw [if_pos c49] at h
            refine fs_icmp_ne_t (off := 18) (t := 58) (by decide +kernel) (by decide +kernel) c49 ?_
            refine fs_aload_n (k := 0) (p := 59) (by decide +kernel) rfl rfl ?_
            refine fs_iload_n (k := 1) (p := 60) (by decide +kernel) rfl rfl ?_
            obtain ⟨q51, w50, h⟩ := fx_bd h
            refine fs_callV (idx := 312) (mj := 181) (ci := 10) (na := 1) (mx := 5) (p := 63) (args := [.ref 215, .int x1]) (rest := []) (al2 := [some (.ref 215), some (.int x1), none, none, none]) (by decide +kernel) rfl (by decide +kernel) fo_215 rfl rfl rfl rfl rfl rfl rfl (by omega) (fun d' hd' => fe_181 (by omega) w50) rfl ?_
            refine fs_aload_n (k := 0) (p := 64) (by decide +kernel) rfl rfl ?_
            obtain ⟨q53, w52, h⟩ := fx_bd h
            refine fs_callV (idx := 315) (mj := 173) (ci := 10) (na := 0) (mx := 2) (p := 67) (args := [.ref 215]) (rest := []) (al2 := [some (.ref 215), none]) (by decide +kernel) rfl (by decide +kernel) fo_215 rfl rfl rfl rfl rfl rfl rfl (by omega) (fun d' hd' => fe_173 (by omega) w52) rfl ?_
            refine fs_iconst (n := 0) (p := 68) (by decide +kernel) rfl kc_0 ?_
            refine fs_istore (k := 4) (p := 70) (M := 6) (al' := [some (.ref 215), some (.int x1), some (.int x2), some (.int x3), some (.int (0 : Int32)), none]) (by decide +kernel) rfl mx_188 rfl rfl ?_
            refine fs_iconst (n := 0) (p := 71) (by decide +kernel) rfl kc_0 ?_
            refine fs_istore (k := 5) (p := 73) (M := 6) (al' := [some (.ref 215), some (.int x1), some (.int x2), some (.int x3), some (.int (0 : Int32)), some (.int (0 : Int32))]) (by decide +kernel) rfl mx_188 rfl rfl ?_
            exact fe_188_73 hd 100000 _ _ _ _ _ _ _ h
          · rw [if_neg c49] at h
            refine fs_icmp_ne_f (off := 18) (t := 58) (p := 43) (by decide +kernel) (by decide +kernel) rfl c49 ?_
            refine fs_aload_n (k := 0) (p := 44) (by decide +kernel) rfl rfl ?_
            refine fs_iload_n (k := 1) (p := 45) (by decide +kernel) rfl rfl ?_
            obtain ⟨q55, w54, h⟩ := fx_bd h
            refine fs_callV (idx := 329) (mj := 187) (ci := 10) (na := 1) (mx := 5) (p := 48) (args := [.ref 215, .int x1]) (rest := []) (al2 := [some (.ref 215), some (.int x1), none, none, none]) (by decide +kernel) rfl (by decide +kernel) fo_215 rfl rfl rfl rfl rfl rfl rfl (by omega) (fun d' hd' => fe_187 (by omega) w54) rfl ?_
            refine fs_aload_n (k := 0) (p := 49) (by decide +kernel) rfl rfl ?_
            obtain ⟨q57, w56, h⟩ := fx_bd h
            refine fs_callV (idx := 315) (mj := 173) (ci := 10) (na := 0) (mx := 2) (p := 52) (args := [.ref 215]) (rest := []) (al2 := [some (.ref 215), none]) (by decide +kernel) rfl (by decide +kernel) fo_215 rfl rfl rfl rfl rfl rfl rfl (by omega) (fun d' hd' => fe_173 (by omega) w56) rfl ?_
            refine fs_aload_n (k := 0) (p := 53) (by decide +kernel) rfl rfl ?_
            refine fs_iload_n (k := 2) (p := 54) (by decide +kernel) rfl rfl ?_
            obtain ⟨q59, w58, h⟩ := fx_bd h
            refine fs_callV (idx := 321) (mj := 183) (ci := 10) (na := 1) (mx := 4) (p := 57) (args := [.ref 215, .int x2]) (rest := []) (al2 := [some (.ref 215), some (.int x2), none, none]) (by decide +kernel) rfl (by decide +kernel) fo_215 rfl rfl rfl rfl rfl rfl rfl (by omega) (fun d' hd' => fe_183 (by omega) w58) rfl ?_
            have h := Option.some.inj h
            subst h
            exact fs_iret (by decide +kernel) rt_188
        · rw [if_neg c48] at h
          refine fs_if_ne_f (off := 5) (t := 38) (p := 36) (by decide +kernel) (by decide +kernel) rfl c48 ?_
          refine fs_iconst (n := -1) (p := 37) (by decide +kernel) rfl kc_m1 ?_
          have h := Option.some.inj h
          subst h
          exact fs_iret (by decide +kernel) rt_188

/-! ZoneSharesModel.byWay(II)I -/
theorem mx_189 : iv_mx 189 = 4 := by decide +kernel
theorem rt_189 : iv_rt 189 = some .int := by decide +kernel
def fm_189_110 (k_70 : Int32 → Int32 → Int32 → fx_S → Option (Int32 × fx_S)) (x1 : Int32) (x2 : Int32) (x3 : Int32) (σ : fx_S) : Option (Int32 × fx_S) :=
  k_70 x1 x2 (x3 + (1 : Int32)) σ
theorem fe_189_110 {d : Nat} (hd : 31 ≤ d) {k_70 : Int32 → Int32 → Int32 → fx_S → Option (Int32 × fx_S)} (hk_70 : ∀ (x1 : Int32) (x2 : Int32) (x3 : Int32) (σ : fx_S) (q : Int32 × fx_S), k_70 x1 x2 x3 σ = some q → fx_E none 189 d 70 [some (.ref 215), some (.int x1), some (.int x2), some (.int x3)] [] σ (some (.int q.1)) q.2) (x1 : Int32) (x2 : Int32) (x3 : Int32) (σ : fx_S) (q : Int32 × fx_S) (h : fm_189_110 k_70  x1 x2 x3 σ = some q) : fx_E none 189 d 110 [some (.ref 215), some (.int x1), some (.int x2), some (.int x3)] [] σ (some (.int q.1)) q.2 := by
  unfold fm_189_110 at h
  refine fs_iinc (k := 3) (n := 1) (p := 113) (M := 4) (al' := [some (.ref 215), some (.int x1), some (.int x2), some (.int (x3 + (1 : Int32)))]) (by decide +kernel) rfl kc_1 mx_189 rfl rfl rfl ?_
  refine fs_goto (off := -43) (p := 70) (by decide +kernel) (by decide +kernel) ?_
  exact hk_70 _ _ _ _ _ h
def fm_189_70 : Nat → Int32 → Int32 → Int32 → fx_S → Option (Int32 × fx_S)
  | 0, _, _, _, _ => none
  | n + 1, x1, x2, x3, σ =>
    if (4 : Int32) ≤ x3 then (
      (fm_173 σ).bind fun q4 =>
      (fm_183 x2 q4).bind fun q6 =>
      some (q6.1, q6.2)) else (
      (fx_ld σ 238 x3).bind fun v7 =>
      (fx_stl σ 221 x3 (v7).toInt64).bind fun t11 =>
      (fm_190 x1 x3 (0 : Int32) t11).bind fun q15 =>
      (fm_161 x3 q15).bind fun q17 =>
      if ¬ q17.1 = 0 then (
        fm_189_110 (fm_189_70 n) x1 x2 x3 q17.2) else (
        (fm_190 x1 x3 (1 : Int32) q17.2).bind fun q21 =>
        fm_189_110 (fm_189_70 n) x1 x2 x3 q21))
theorem fe_189_70 {d : Nat} (hd : 31 ≤ d) : ∀ (n : Nat) (x1 : Int32) (x2 : Int32) (x3 : Int32) (σ : fx_S) (q : Int32 × fx_S), fm_189_70 n x1 x2 x3 σ = some q → fx_E none 189 d 70 [some (.ref 215), some (.int x1), some (.int x2), some (.int x3)] [] σ (some (.int q.1)) q.2 := by
  intro n
  induction n with
  | zero =>
    intro x1 x2 x3 σ q  h
    rw [fm_189_70] at h
    exact fx_no h
  | succ n ih =>
    intro x1 x2 x3 σ q  h
    rw [fm_189_70] at h
    refine fs_iload_n (k := 3) (p := 71) (by decide +kernel) rfl rfl ?_
    refine fs_iconst (n := 4) (p := 72) (by decide +kernel) rfl kc_4 ?_
    by_cases c2 : (4 : Int32) ≤ x3
    · rw [if_pos c2] at h
      refine fs_icmp_ge_t (off := 44) (t := 116) (by decide +kernel) (by decide +kernel) c2 ?_
      refine fs_aload_n (k := 0) (p := 117) (by decide +kernel) rfl rfl ?_
      obtain ⟨q4, w3, h⟩ := fx_bd h
      refine fs_callV (idx := 315) (mj := 173) (ci := 10) (na := 0) (mx := 2) (p := 120) (args := [.ref 215]) (rest := []) (al2 := [some (.ref 215), none]) (by decide +kernel) rfl (by decide +kernel) fo_215 rfl rfl rfl rfl rfl rfl rfl (by omega) (fun d' hd' => fe_173 (by omega) w3) rfl ?_
      refine fs_aload_n (k := 0) (p := 121) (by decide +kernel) rfl rfl ?_
      refine fs_iload_n (k := 2) (p := 122) (by decide +kernel) rfl rfl ?_
      obtain ⟨q6, w5, h⟩ := fx_bd h
      refine fs_callV (idx := 321) (mj := 183) (ci := 10) (na := 1) (mx := 4) (p := 125) (args := [.ref 215, .int x2]) (rest := []) (al2 := [some (.ref 215), some (.int x2), none, none]) (by decide +kernel) rfl (by decide +kernel) fo_215 rfl rfl rfl rfl rfl rfl rfl (by omega) (fun d' hd' => fe_183 (by omega) w5) rfl ?_
      have h := Option.some.inj h
      subst h
      exact fs_iret (by decide +kernel) rt_189
    · rw [if_neg c2] at h
      refine fs_icmp_ge_f (off := 44) (t := 116) (p := 75) (by decide +kernel) (by decide +kernel) rfl c2 ?_
      refine fs_aload_n (k := 0) (p := 76) (by decide +kernel) rfl rfl ?_
      refine fs_gfr (idx := 26) (ci := 10) (j := 12) (p := 79) (by decide +kernel) rfl (by decide +kernel) fo_215 (fr_a215_12) ?_
      refine fs_iload_n (k := 3) (p := 80) (by decide +kernel) rfl rfl ?_
      refine fs_aload_n (k := 0) (p := 81) (by decide +kernel) rfl rfl ?_
      refine fs_gfr (idx := 79) (ci := 10) (j := 33) (p := 84) (by decide +kernel) rfl (by decide +kernel) fo_215 (fr_a215_33) ?_
      refine fs_iload_n (k := 3) (p := 85) (by decide +kernel) rfl rfl ?_
      obtain ⟨v7, w8, h⟩ := fx_bd h
      refine fs_iaload (p := 86) (by decide +kernel) rfl w8 ?_
      refine fs_i2l (p := 87) (by decide +kernel) rfl ?_
      obtain ⟨t11, w12, h⟩ := fx_bd h
      refine fs_lastore (p := 88) (by decide +kernel) rfl w12 ?_
      refine fs_aload_n (k := 0) (p := 89) (by decide +kernel) rfl rfl ?_
      refine fs_iload_n (k := 1) (p := 90) (by decide +kernel) rfl rfl ?_
      refine fs_iload_n (k := 3) (p := 91) (by decide +kernel) rfl rfl ?_
      refine fs_iconst (n := 0) (p := 92) (by decide +kernel) rfl kc_0 ?_
      obtain ⟨q15, w14, h⟩ := fx_bd h
      refine fs_callV (idx := 332) (mj := 190) (ci := 10) (na := 3) (mx := 5) (p := 95) (args := [.ref 215, .int x1, .int x3, .int (0 : Int32)]) (rest := []) (al2 := [some (.ref 215), some (.int x1), some (.int x3), some (.int (0 : Int32)), none]) (by decide +kernel) rfl (by decide +kernel) fo_215 rfl rfl rfl rfl rfl rfl rfl (by omega) (fun d' hd' => fe_190 (by omega) w14) rfl ?_
      refine fs_aload_n (k := 0) (p := 96) (by decide +kernel) rfl rfl ?_
      refine fs_iload_n (k := 3) (p := 97) (by decide +kernel) rfl rfl ?_
      obtain ⟨q17, w16, h⟩ := fx_bd h
      refine fs_callV (idx := 254) (mj := 161) (ci := 10) (na := 1) (mx := 4) (p := 100) (args := [.ref 215, .int x3]) (rest := []) (al2 := [some (.ref 215), some (.int x3), none, none]) (by decide +kernel) rfl (by decide +kernel) fo_215 rfl rfl rfl rfl rfl rfl rfl (by omega) (fun d' hd' => fe_161 (by omega) w16) rfl ?_
      by_cases c19 : ¬ q17.1 = 0
      · rw [if_pos c19] at h
        refine fs_if_ne_t (off := 10) (t := 110) (by decide +kernel) (by decide +kernel) c19 ?_
        exact fe_189_110 hd ih _ _ _ _ _ h
      · rw [if_neg c19] at h
        refine fs_if_ne_f (off := 10) (t := 110) (p := 103) (by decide +kernel) (by decide +kernel) rfl c19 ?_
        refine fs_aload_n (k := 0) (p := 104) (by decide +kernel) rfl rfl ?_
        refine fs_iload_n (k := 1) (p := 105) (by decide +kernel) rfl rfl ?_
        refine fs_iload_n (k := 3) (p := 106) (by decide +kernel) rfl rfl ?_
        refine fs_iconst (n := 1) (p := 107) (by decide +kernel) rfl kc_1 ?_
        obtain ⟨q21, w20, h⟩ := fx_bd h
        refine fs_callV (idx := 332) (mj := 190) (ci := 10) (na := 3) (mx := 5) (p := 110) (args := [.ref 215, .int x1, .int x3, .int (1 : Int32)]) (rest := []) (al2 := [some (.ref 215), some (.int x1), some (.int x3), some (.int (1 : Int32)), none]) (by decide +kernel) rfl (by decide +kernel) fo_215 rfl rfl rfl rfl rfl rfl rfl (by omega) (fun d' hd' => fe_190 (by omega) w20) rfl ?_
        exact fe_189_110 hd ih _ _ _ _ _ h
def fm_189_39 : Nat → Int32 → Int32 → Int32 → fx_S → Option (Int32 × fx_S)
  | 0, _, _, _, _ => none
  | n + 1, x1, x2, x3, σ =>
    if (4 : Int32) ≤ x3 then (
      (fm_159 (4 : Int32) (8 : Int32) σ).bind fun q4 =>
      fm_189_70 100000 x1 x2 (0 : Int32) q4) else (
      (fm_183 x3 σ).bind fun q6 =>
      (fx_st q6.2 238 x3 q6.1).bind fun t7 =>
      fm_189_39 n x1 x2 (x3 + (1 : Int32)) t7)
theorem fe_189_39 {d : Nat} (hd : 31 ≤ d) : ∀ (n : Nat) (x1 : Int32) (x2 : Int32) (x3 : Int32) (σ : fx_S) (q : Int32 × fx_S), fm_189_39 n x1 x2 x3 σ = some q → fx_E none 189 d 39 [some (.ref 215), some (.int x1), some (.int x2), some (.int x3)] [] σ (some (.int q.1)) q.2 := by
  intro n
  induction n with
  | zero =>
    intro x1 x2 x3 σ q  h
    rw [fm_189_39] at h
    exact fx_no h
  | succ n ih =>
    intro x1 x2 x3 σ q  h
    rw [fm_189_39] at h
    refine fs_iload_n (k := 3) (p := 40) (by decide +kernel) rfl rfl ?_
    refine fs_iconst (n := 4) (p := 41) (by decide +kernel) rfl kc_4 ?_
    by_cases c2 : (4 : Int32) ≤ x3
    · rw [if_pos c2] at h
      refine fs_icmp_ge_t (off := 20) (t := 61) (by decide +kernel) (by decide +kernel) c2 ?_
      refine fs_aload_n (k := 0) (p := 62) (by decide +kernel) rfl rfl ?_
      refine fs_iconst (n := 4) (p := 63) (by decide +kernel) rfl kc_4 ?_
      refine fs_bipush (n := 8) (p := 65) (by decide +kernel) rfl kb_8 ?_
      obtain ⟨q4, w3, h⟩ := fx_bd h
      refine fs_callV (idx := 276) (mj := 159) (ci := 10) (na := 2) (mx := 4) (p := 68) (args := [.ref 215, .int (4 : Int32), .int (8 : Int32)]) (rest := []) (al2 := [some (.ref 215), some (.int (4 : Int32)), some (.int (8 : Int32)), none]) (by decide +kernel) rfl (by decide +kernel) fo_215 rfl rfl rfl rfl rfl rfl rfl (by omega) (fun d' hd' => fe_159 (by omega) w3) rfl ?_
      refine fs_iconst (n := 0) (p := 69) (by decide +kernel) rfl kc_0 ?_
      refine fs_istore_n (k := 3) (p := 70) (M := 4) (al' := [some (.ref 215), some (.int x1), some (.int x2), some (.int (0 : Int32))]) (by decide +kernel) rfl mx_189 rfl rfl ?_
      exact fe_189_70 hd 100000 _ _ _ _ _ h
    · rw [if_neg c2] at h
      refine fs_icmp_ge_f (off := 20) (t := 61) (p := 44) (by decide +kernel) (by decide +kernel) rfl c2 ?_
      refine fs_aload_n (k := 0) (p := 45) (by decide +kernel) rfl rfl ?_
      refine fs_gfr (idx := 79) (ci := 10) (j := 33) (p := 48) (by decide +kernel) rfl (by decide +kernel) fo_215 (fr_a215_33) ?_
      refine fs_iload_n (k := 3) (p := 49) (by decide +kernel) rfl rfl ?_
      refine fs_aload_n (k := 0) (p := 50) (by decide +kernel) rfl rfl ?_
      refine fs_iload_n (k := 3) (p := 51) (by decide +kernel) rfl rfl ?_
      obtain ⟨q6, w5, h⟩ := fx_bd h
      refine fs_callV (idx := 321) (mj := 183) (ci := 10) (na := 1) (mx := 4) (p := 54) (args := [.ref 215, .int x3]) (rest := [.int x3, .ref 238]) (al2 := [some (.ref 215), some (.int x3), none, none]) (by decide +kernel) rfl (by decide +kernel) fo_215 rfl rfl rfl rfl rfl rfl rfl (by omega) (fun d' hd' => fe_183 (by omega) w5) rfl ?_
      obtain ⟨t7, w8, h⟩ := fx_bd h
      refine fs_iastore (p := 55) (by decide +kernel) rfl w8 ?_
      refine fs_iinc (k := 3) (n := 1) (p := 58) (M := 4) (al' := [some (.ref 215), some (.int x1), some (.int x2), some (.int (x3 + (1 : Int32)))]) (by decide +kernel) rfl kc_1 mx_189 rfl rfl rfl ?_
      refine fs_goto (off := -19) (p := 39) (by decide +kernel) (by decide +kernel) ?_
      exact ih _ _ _ _ _ h
def fm_189 (x1 : Int32) (x2 : Int32) (σ : fx_S) : Option (Int32 × fx_S) :=
  (fm_150 σ).bind fun q46 =>
  if (fx_b q46.1) = 0 then (
    some ((-1 : Int32), q46.2)) else (
    (fm_148 x1 q46.2).bind fun q49 =>
    if (fx_b q49.1) = 0 then (
      some ((-1 : Int32), q49.2)) else (
      (fm_130 (x2).toInt64 (0 : Int64) (7 : Int64) q49.2).bind fun q53 =>
      if ¬ (fx_b q53.1) = 0 then (
        (fm_187 x1 q53.2).bind fun q56 =>
        (fm_173 q56).bind fun q58 =>
        fm_189_39 100000 x1 x2 (0 : Int32) q58) else (
        some ((-1 : Int32), q53.2))))
theorem fe_189 {d : Nat} (hd : 31 ≤ d) {x1 : Int32} {x2 : Int32} {σ : fx_S} {q : Int32 × fx_S} (h : fm_189 x1 x2 σ = some q) : fx_E none 189 d 0 [some (.ref 215), some (.int x1), some (.int x2), none] [] σ (some (.int q.1)) q.2 := by
  unfold fm_189 at h
  refine fs_aload_n (k := 0) (p := 1) (by decide +kernel) rfl rfl ?_
  obtain ⟨q46, w45, h⟩ := fx_bd h
  refine fs_callV (idx := 303) (mj := 150) (ci := 10) (na := 0) (mx := 1) (p := 4) (args := [.ref 215]) (rest := []) (al2 := [some (.ref 215)]) (by decide +kernel) rfl (by decide +kernel) fo_215 rfl rfl rfl rfl rfl rfl rfl (by omega) (fun d' hd' => fe_150 (by omega) w45) rfl ?_
  by_cases c47 : (fx_b q46.1) = 0
  · rw [if_pos c47] at h
    refine fs_if_eq_t (off := 22) (t := 26) (by decide +kernel) (by decide +kernel) c47 ?_
    refine fs_iconst (n := -1) (p := 27) (by decide +kernel) rfl kc_m1 ?_
    have h := Option.some.inj h
    subst h
    exact fs_iret (by decide +kernel) rt_189
  · rw [if_neg c47] at h
    refine fs_if_eq_f (off := 22) (t := 26) (p := 7) (by decide +kernel) (by decide +kernel) rfl c47 ?_
    refine fs_iload_n (k := 1) (p := 8) (by decide +kernel) rfl rfl ?_
    obtain ⟨q49, w48, h⟩ := fx_bd h
    refine fs_callS (idx := 190) (mj := 148) (na := 1) (mx := 1) (p := 11) (args := [.int x1]) (rest := []) (al2 := [some (.int x1)]) (by decide +kernel) rfl (by decide +kernel) rfl rfl rfl rfl rfl rfl rfl (by omega) (fun d' hd' => fe_148 (by omega) w48) rfl ?_
    by_cases c50 : (fx_b q49.1) = 0
    · rw [if_pos c50] at h
      refine fs_if_eq_t (off := 15) (t := 26) (by decide +kernel) (by decide +kernel) c50 ?_
      refine fs_iconst (n := -1) (p := 27) (by decide +kernel) rfl kc_m1 ?_
      have h := Option.some.inj h
      subst h
      exact fs_iret (by decide +kernel) rt_189
    · rw [if_neg c50] at h
      refine fs_if_eq_f (off := 15) (t := 26) (p := 14) (by decide +kernel) (by decide +kernel) rfl c50 ?_
      refine fs_iload_n (k := 2) (p := 15) (by decide +kernel) rfl rfl ?_
      refine fs_i2l (p := 16) (by decide +kernel) rfl ?_
      refine fs_lconst (n := 0) (p := 17) (by decide +kernel) rfl kl_0 ?_
      refine fs_ldc2 (idx := 308) (p := 20) (x := 7) (by decide +kernel) rfl (by decide +kernel) ?_
      obtain ⟨q53, w52, h⟩ := fx_bd h
      refine fs_callS (idx := 128) (mj := 130) (na := 3) (mx := 6) (p := 23) (args := [.long (x2).toInt64, .long (0 : Int64), .long (7 : Int64)]) (rest := []) (al2 := [some (.long (x2).toInt64), none, some (.long (0 : Int64)), none, some (.long (7 : Int64)), none]) (by decide +kernel) rfl (by decide +kernel) rfl rfl rfl rfl rfl rfl rfl (by omega) (fun d' hd' => fe_130 (by omega) w52) rfl ?_
      by_cases c54 : ¬ (fx_b q53.1) = 0
      · rw [if_pos c54] at h
        refine fs_if_ne_t (off := 5) (t := 28) (by decide +kernel) (by decide +kernel) c54 ?_
        refine fs_aload_n (k := 0) (p := 29) (by decide +kernel) rfl rfl ?_
        refine fs_iload_n (k := 1) (p := 30) (by decide +kernel) rfl rfl ?_
        obtain ⟨q56, w55, h⟩ := fx_bd h
        refine fs_callV (idx := 329) (mj := 187) (ci := 10) (na := 1) (mx := 5) (p := 33) (args := [.ref 215, .int x1]) (rest := []) (al2 := [some (.ref 215), some (.int x1), none, none, none]) (by decide +kernel) rfl (by decide +kernel) fo_215 rfl rfl rfl rfl rfl rfl rfl (by omega) (fun d' hd' => fe_187 (by omega) w55) rfl ?_
        refine fs_aload_n (k := 0) (p := 34) (by decide +kernel) rfl rfl ?_
        obtain ⟨q58, w57, h⟩ := fx_bd h
        refine fs_callV (idx := 315) (mj := 173) (ci := 10) (na := 0) (mx := 2) (p := 37) (args := [.ref 215]) (rest := []) (al2 := [some (.ref 215), none]) (by decide +kernel) rfl (by decide +kernel) fo_215 rfl rfl rfl rfl rfl rfl rfl (by omega) (fun d' hd' => fe_173 (by omega) w57) rfl ?_
        refine fs_iconst (n := 0) (p := 38) (by decide +kernel) rfl kc_0 ?_
        refine fs_istore_n (k := 3) (p := 39) (M := 4) (al' := [some (.ref 215), some (.int x1), some (.int x2), some (.int (0 : Int32))]) (by decide +kernel) rfl mx_189 rfl rfl ?_
        exact fe_189_39 hd 100000 _ _ _ _ _ h
      · rw [if_neg c54] at h
        refine fs_if_ne_f (off := 5) (t := 28) (p := 26) (by decide +kernel) (by decide +kernel) rfl c54 ?_
        refine fs_iconst (n := -1) (p := 27) (by decide +kernel) rfl kc_m1 ?_
        have h := Option.some.inj h
        subst h
        exact fs_iret (by decide +kernel) rt_189

/-! ZoneSharesModel.laysReturned(I)V -/
theorem mx_191 : iv_mx 191 = 5 := by decide +kernel
theorem rt_191 : iv_rt 191 = none := by decide +kernel
def fm_191_83 (k_44 : Int32 → Int32 → fx_S → Option (fx_S)) : Nat → Int32 → Int32 → Int32 → Int32 → fx_S → Option (fx_S)
  | 0, _, _, _, _, _ => none
  | n + 1, x1, x2, x3, x4, σ =>
    if (9 : Int32) ≤ x4 then (
      k_44 x1 (x2 + (1 : Int32)) σ) else (
      (fm_160 x2 x4 σ).bind fun q4 =>
      (fm_157 x1 x4 x2 x3 q4.2).bind fun q6 =>
      (fx_st q6.2 222 q4.1 q6.1).bind fun t7 =>
      fm_191_83 k_44 n x1 x2 x3 (x4 + (1 : Int32)) t7)
theorem fe_191_83 {d : Nat} (hd : 31 ≤ d) {k_44 : Int32 → Int32 → fx_S → Option (fx_S)} (hk_44 : ∀ (x1 : Int32) (x2 : Int32) (o3 : Option Value) (o4 : Option Value) (σ : fx_S) (q : fx_S), k_44 x1 x2 σ = some q → fx_E none 191 d 44 [some (.ref 215), some (.int x1), some (.int x2), o3, o4] [] σ none q) : ∀ (n : Nat) (x1 : Int32) (x2 : Int32) (x3 : Int32) (x4 : Int32) (σ : fx_S) (q : fx_S), fm_191_83 k_44 n x1 x2 x3 x4 σ = some q → fx_E none 191 d 83 [some (.ref 215), some (.int x1), some (.int x2), some (.int x3), some (.int x4)] [] σ none q := by
  intro n
  induction n with
  | zero =>
    intro x1 x2 x3 x4 σ q  h
    rw [fm_191_83] at h
    exact fx_no h
  | succ n ih =>
    intro x1 x2 x3 x4 σ q  h
    rw [fm_191_83] at h
    refine fs_iload (k := 4) (p := 85) (by decide +kernel) rfl rfl ?_
    refine fs_bipush (n := 9) (p := 87) (by decide +kernel) rfl kb_9 ?_
    by_cases c2 : (9 : Int32) ≤ x4
    · rw [if_pos c2] at h
      refine fs_icmp_ge_t (off := 29) (t := 116) (by decide +kernel) (by decide +kernel) c2 ?_
      refine fs_iinc (k := 2) (n := 1) (p := 119) (M := 5) (al' := [some (.ref 215), some (.int x1), some (.int (x2 + (1 : Int32))), some (.int x3), some (.int x4)]) (by decide +kernel) rfl kc_1 mx_191 rfl rfl rfl ?_
      refine fs_goto (off := -75) (p := 44) (by decide +kernel) (by decide +kernel) ?_
      exact hk_44 _ _ _ _ _ _ h
    · rw [if_neg c2] at h
      refine fs_icmp_ge_f (off := 29) (t := 116) (p := 90) (by decide +kernel) (by decide +kernel) rfl c2 ?_
      refine fs_aload_n (k := 0) (p := 91) (by decide +kernel) rfl rfl ?_
      refine fs_gfr (idx := 30) (ci := 10) (j := 13) (p := 94) (by decide +kernel) rfl (by decide +kernel) fo_215 (fr_a215_13) ?_
      refine fs_iload_n (k := 2) (p := 95) (by decide +kernel) rfl rfl ?_
      refine fs_iload (k := 4) (p := 97) (by decide +kernel) rfl rfl ?_
      obtain ⟨q4, w3, h⟩ := fx_bd h
      refine fs_callS (idx := 214) (mj := 160) (na := 2) (mx := 2) (p := 100) (args := [.int x2, .int x4]) (rest := [.ref 222]) (al2 := [some (.int x2), some (.int x4)]) (by decide +kernel) rfl (by decide +kernel) rfl rfl rfl rfl rfl rfl rfl (by omega) (fun d' hd' => fe_160 (by omega) w3) rfl ?_
      refine fs_aload_n (k := 0) (p := 101) (by decide +kernel) rfl rfl ?_
      refine fs_iload_n (k := 1) (p := 102) (by decide +kernel) rfl rfl ?_
      refine fs_iload (k := 4) (p := 104) (by decide +kernel) rfl rfl ?_
      refine fs_iload_n (k := 2) (p := 105) (by decide +kernel) rfl rfl ?_
      refine fs_iload_n (k := 3) (p := 106) (by decide +kernel) rfl rfl ?_
      obtain ⟨q6, w5, h⟩ := fx_bd h
      refine fs_callV (idx := 293) (mj := 157) (ci := 10) (na := 4) (mx := 8) (p := 109) (args := [.ref 215, .int x1, .int x4, .int x2, .int x3]) (rest := [.int q4.1, .ref 222]) (al2 := [some (.ref 215), some (.int x1), some (.int x4), some (.int x2), some (.int x3), none, none, none]) (by decide +kernel) rfl (by decide +kernel) fo_215 rfl rfl rfl rfl rfl rfl rfl (by omega) (fun d' hd' => fe_157 (by omega) w5) rfl ?_
      obtain ⟨t7, w8, h⟩ := fx_bd h
      refine fs_iastore (p := 110) (by decide +kernel) rfl w8 ?_
      refine fs_iinc (k := 4) (n := 1) (p := 113) (M := 5) (al' := [some (.ref 215), some (.int x1), some (.int x2), some (.int x3), some (.int (x4 + (1 : Int32)))]) (by decide +kernel) rfl kc_1 mx_191 rfl rfl rfl ?_
      refine fs_goto (off := -30) (p := 83) (by decide +kernel) (by decide +kernel) ?_
      exact ih _ _ _ _ _ _ h
def fm_191_79 (k_44 : Int32 → Int32 → fx_S → Option (fx_S)) (x1 : Int32) (x2 : Int32) (s0 : Int32) (σ : fx_S) : Option (fx_S) :=
  fm_191_83 k_44 100000 x1 x2 s0 (0 : Int32) σ
theorem fe_191_79 {d : Nat} (hd : 31 ≤ d) {k_44 : Int32 → Int32 → fx_S → Option (fx_S)} (hk_44 : ∀ (x1 : Int32) (x2 : Int32) (o3 : Option Value) (o4 : Option Value) (σ : fx_S) (q : fx_S), k_44 x1 x2 σ = some q → fx_E none 191 d 44 [some (.ref 215), some (.int x1), some (.int x2), o3, o4] [] σ none q) (x1 : Int32) (x2 : Int32) (s0 : Int32) (o3 : Option Value) (o4 : Option Value) (σ : fx_S) (q : fx_S) (h : fm_191_79 k_44  x1 x2 s0 σ = some q) : fx_E none 191 d 79 [some (.ref 215), some (.int x1), some (.int x2), o3, o4] [.int s0] σ none q := by
  unfold fm_191_79 at h
  refine fs_istore_n (k := 3) (p := 80) (M := 5) (al' := [some (.ref 215), some (.int x1), some (.int x2), some (.int s0), o4]) (by decide +kernel) rfl mx_191 rfl rfl ?_
  refine fs_iconst (n := 0) (p := 81) (by decide +kernel) rfl kc_0 ?_
  refine fs_istore (k := 4) (p := 83) (M := 5) (al' := [some (.ref 215), some (.int x1), some (.int x2), some (.int s0), some (.int (0 : Int32))]) (by decide +kernel) rfl mx_191 rfl rfl ?_
  exact fe_191_83 hd hk_44 100000 _ _ _ _ _ _ h
def fm_191_44 : Nat → Int32 → Int32 → fx_S → Option (fx_S)
  | 0, _, _, _ => none
  | n + 1, x1, x2, σ =>
    if (8 : Int32) ≤ x2 then (
      (fm_173 σ).bind fun q4 =>
      some q4) else (
      (fx_ld σ 239 x2).bind fun v5 =>
      (fx_stl σ 221 x2 (v5).toInt64).bind fun t9 =>
      (fm_157 x1 (-1 : Int32) x2 (0 : Int32) t9).bind fun q13 =>
      if ¬ q13.1 = 0 then (
        fm_191_79 (fm_191_44 n) x1 x2 (0 : Int32) q13.2) else (
        fm_191_79 (fm_191_44 n) x1 x2 (1 : Int32) q13.2))
theorem fe_191_44 {d : Nat} (hd : 31 ≤ d) : ∀ (n : Nat) (x1 : Int32) (x2 : Int32) (o3 : Option Value) (o4 : Option Value) (σ : fx_S) (q : fx_S), fm_191_44 n x1 x2 σ = some q → fx_E none 191 d 44 [some (.ref 215), some (.int x1), some (.int x2), o3, o4] [] σ none q := by
  intro n
  induction n with
  | zero =>
    intro x1 x2 o3 o4 σ q  h
    rw [fm_191_44] at h
    exact fx_no h
  | succ n ih =>
    intro x1 x2 o3 o4 σ q  h
    rw [fm_191_44] at h
    refine fs_iload_n (k := 2) (p := 45) (by decide +kernel) rfl rfl ?_
    refine fs_bipush (n := 8) (p := 47) (by decide +kernel) rfl kb_8 ?_
    by_cases c2 : (8 : Int32) ≤ x2
    · rw [if_pos c2] at h
      refine fs_icmp_ge_t (off := 75) (t := 122) (by decide +kernel) (by decide +kernel) c2 ?_
      refine fs_aload_n (k := 0) (p := 123) (by decide +kernel) rfl rfl ?_
      obtain ⟨q4, w3, h⟩ := fx_bd h
      refine fs_callV (idx := 315) (mj := 173) (ci := 10) (na := 0) (mx := 2) (p := 126) (args := [.ref 215]) (rest := []) (al2 := [some (.ref 215), none]) (by decide +kernel) rfl (by decide +kernel) fo_215 rfl rfl rfl rfl rfl rfl rfl (by omega) (fun d' hd' => fe_173 (by omega) w3) rfl ?_
      have h := Option.some.inj h
      subst h
      exact fs_ret (by decide +kernel) rt_191
    · rw [if_neg c2] at h
      refine fs_icmp_ge_f (off := 75) (t := 122) (p := 50) (by decide +kernel) (by decide +kernel) rfl c2 ?_
      refine fs_aload_n (k := 0) (p := 51) (by decide +kernel) rfl rfl ?_
      refine fs_gfr (idx := 26) (ci := 10) (j := 12) (p := 54) (by decide +kernel) rfl (by decide +kernel) fo_215 (fr_a215_12) ?_
      refine fs_iload_n (k := 2) (p := 55) (by decide +kernel) rfl rfl ?_
      refine fs_aload_n (k := 0) (p := 56) (by decide +kernel) rfl rfl ?_
      refine fs_gfr (idx := 82) (ci := 10) (j := 34) (p := 59) (by decide +kernel) rfl (by decide +kernel) fo_215 (fr_a215_34) ?_
      refine fs_iload_n (k := 2) (p := 60) (by decide +kernel) rfl rfl ?_
      obtain ⟨v5, w6, h⟩ := fx_bd h
      refine fs_iaload (p := 61) (by decide +kernel) rfl w6 ?_
      refine fs_i2l (p := 62) (by decide +kernel) rfl ?_
      obtain ⟨t9, w10, h⟩ := fx_bd h
      refine fs_lastore (p := 63) (by decide +kernel) rfl w10 ?_
      refine fs_aload_n (k := 0) (p := 64) (by decide +kernel) rfl rfl ?_
      refine fs_iload_n (k := 1) (p := 65) (by decide +kernel) rfl rfl ?_
      refine fs_iconst (n := -1) (p := 66) (by decide +kernel) rfl kc_m1 ?_
      refine fs_iload_n (k := 2) (p := 67) (by decide +kernel) rfl rfl ?_
      refine fs_iconst (n := 0) (p := 68) (by decide +kernel) rfl kc_0 ?_
      obtain ⟨q13, w12, h⟩ := fx_bd h
      refine fs_callV (idx := 293) (mj := 157) (ci := 10) (na := 4) (mx := 8) (p := 71) (args := [.ref 215, .int x1, .int (-1 : Int32), .int x2, .int (0 : Int32)]) (rest := []) (al2 := [some (.ref 215), some (.int x1), some (.int (-1 : Int32)), some (.int x2), some (.int (0 : Int32)), none, none, none]) (by decide +kernel) rfl (by decide +kernel) fo_215 rfl rfl rfl rfl rfl rfl rfl (by omega) (fun d' hd' => fe_157 (by omega) w12) rfl ?_
      by_cases c15 : ¬ q13.1 = 0
      · rw [if_pos c15] at h
        refine fs_if_ne_t (off := 7) (t := 78) (by decide +kernel) (by decide +kernel) c15 ?_
        refine fs_iconst (n := 0) (p := 79) (by decide +kernel) rfl kc_0 ?_
        exact fe_191_79 hd ih _ _ _ _ _ _ _ h
      · rw [if_neg c15] at h
        refine fs_if_ne_f (off := 7) (t := 78) (p := 74) (by decide +kernel) (by decide +kernel) rfl c15 ?_
        refine fs_iconst (n := 1) (p := 75) (by decide +kernel) rfl kc_1 ?_
        refine fs_goto (off := 4) (p := 79) (by decide +kernel) (by decide +kernel) ?_
        exact fe_191_79 hd ih _ _ _ _ _ _ _ h
def fm_191_11 : Nat → Int32 → Int32 → fx_S → Option (fx_S)
  | 0, _, _, _ => none
  | n + 1, x1, x2, σ =>
    if (8 : Int32) ≤ x2 then (
      (fm_159 (8 : Int32) (9 : Int32) σ).bind fun q4 =>
      fm_191_44 100000 x1 (0 : Int32) q4) else (
      (fm_183 x2 σ).bind fun q6 =>
      (fx_st q6.2 239 x2 q6.1).bind fun t7 =>
      fm_191_11 n x1 (x2 + (1 : Int32)) t7)
theorem fe_191_11 {d : Nat} (hd : 31 ≤ d) : ∀ (n : Nat) (x1 : Int32) (x2 : Int32) (σ : fx_S) (q : fx_S), fm_191_11 n x1 x2 σ = some q → fx_E none 191 d 11 [some (.ref 215), some (.int x1), some (.int x2), none, none] [] σ none q := by
  intro n
  induction n with
  | zero =>
    intro x1 x2 σ q  h
    rw [fm_191_11] at h
    exact fx_no h
  | succ n ih =>
    intro x1 x2 σ q  h
    rw [fm_191_11] at h
    refine fs_iload_n (k := 2) (p := 12) (by decide +kernel) rfl rfl ?_
    refine fs_bipush (n := 8) (p := 14) (by decide +kernel) rfl kb_8 ?_
    by_cases c2 : (8 : Int32) ≤ x2
    · rw [if_pos c2] at h
      refine fs_icmp_ge_t (off := 20) (t := 34) (by decide +kernel) (by decide +kernel) c2 ?_
      refine fs_aload_n (k := 0) (p := 35) (by decide +kernel) rfl rfl ?_
      refine fs_bipush (n := 8) (p := 37) (by decide +kernel) rfl kb_8 ?_
      refine fs_bipush (n := 9) (p := 39) (by decide +kernel) rfl kb_9 ?_
      obtain ⟨q4, w3, h⟩ := fx_bd h
      refine fs_callV (idx := 276) (mj := 159) (ci := 10) (na := 2) (mx := 4) (p := 42) (args := [.ref 215, .int (8 : Int32), .int (9 : Int32)]) (rest := []) (al2 := [some (.ref 215), some (.int (8 : Int32)), some (.int (9 : Int32)), none]) (by decide +kernel) rfl (by decide +kernel) fo_215 rfl rfl rfl rfl rfl rfl rfl (by omega) (fun d' hd' => fe_159 (by omega) w3) rfl ?_
      refine fs_iconst (n := 0) (p := 43) (by decide +kernel) rfl kc_0 ?_
      refine fs_istore_n (k := 2) (p := 44) (M := 5) (al' := [some (.ref 215), some (.int x1), some (.int (0 : Int32)), none, none]) (by decide +kernel) rfl mx_191 rfl rfl ?_
      exact fe_191_44 hd 100000 _ _ _ _ _ _ h
    · rw [if_neg c2] at h
      refine fs_icmp_ge_f (off := 20) (t := 34) (p := 17) (by decide +kernel) (by decide +kernel) rfl c2 ?_
      refine fs_aload_n (k := 0) (p := 18) (by decide +kernel) rfl rfl ?_
      refine fs_gfr (idx := 82) (ci := 10) (j := 34) (p := 21) (by decide +kernel) rfl (by decide +kernel) fo_215 (fr_a215_34) ?_
      refine fs_iload_n (k := 2) (p := 22) (by decide +kernel) rfl rfl ?_
      refine fs_aload_n (k := 0) (p := 23) (by decide +kernel) rfl rfl ?_
      refine fs_iload_n (k := 2) (p := 24) (by decide +kernel) rfl rfl ?_
      obtain ⟨q6, w5, h⟩ := fx_bd h
      refine fs_callV (idx := 321) (mj := 183) (ci := 10) (na := 1) (mx := 4) (p := 27) (args := [.ref 215, .int x2]) (rest := [.int x2, .ref 239]) (al2 := [some (.ref 215), some (.int x2), none, none]) (by decide +kernel) rfl (by decide +kernel) fo_215 rfl rfl rfl rfl rfl rfl rfl (by omega) (fun d' hd' => fe_183 (by omega) w5) rfl ?_
      obtain ⟨t7, w8, h⟩ := fx_bd h
      refine fs_iastore (p := 28) (by decide +kernel) rfl w8 ?_
      refine fs_iinc (k := 2) (n := 1) (p := 31) (M := 5) (al' := [some (.ref 215), some (.int x1), some (.int (x2 + (1 : Int32))), none, none]) (by decide +kernel) rfl kc_1 mx_191 rfl rfl rfl ?_
      refine fs_goto (off := -20) (p := 11) (by decide +kernel) (by decide +kernel) ?_
      exact ih _ _ _ _ h
def fm_191 (x1 : Int32) (σ : fx_S) : Option (fx_S) :=
  (fm_181 x1 σ).bind fun q54 =>
  (fm_173 q54).bind fun q56 =>
  fm_191_11 100000 x1 (0 : Int32) q56
theorem fe_191 {d : Nat} (hd : 31 ≤ d) {x1 : Int32} {σ : fx_S} {q : fx_S} (h : fm_191 x1 σ = some q) : fx_E none 191 d 0 [some (.ref 215), some (.int x1), none, none, none] [] σ none q := by
  unfold fm_191 at h
  refine fs_aload_n (k := 0) (p := 1) (by decide +kernel) rfl rfl ?_
  refine fs_iload_n (k := 1) (p := 2) (by decide +kernel) rfl rfl ?_
  obtain ⟨q54, w53, h⟩ := fx_bd h
  refine fs_callV (idx := 312) (mj := 181) (ci := 10) (na := 1) (mx := 5) (p := 5) (args := [.ref 215, .int x1]) (rest := []) (al2 := [some (.ref 215), some (.int x1), none, none, none]) (by decide +kernel) rfl (by decide +kernel) fo_215 rfl rfl rfl rfl rfl rfl rfl (by omega) (fun d' hd' => fe_181 (by omega) w53) rfl ?_
  refine fs_aload_n (k := 0) (p := 6) (by decide +kernel) rfl rfl ?_
  obtain ⟨q56, w55, h⟩ := fx_bd h
  refine fs_callV (idx := 315) (mj := 173) (ci := 10) (na := 0) (mx := 2) (p := 9) (args := [.ref 215]) (rest := []) (al2 := [some (.ref 215), none]) (by decide +kernel) rfl (by decide +kernel) fo_215 rfl rfl rfl rfl rfl rfl rfl (by omega) (fun d' hd' => fe_173 (by omega) w55) rfl ?_
  refine fs_iconst (n := 0) (p := 10) (by decide +kernel) rfl kc_0 ?_
  refine fs_istore_n (k := 2) (p := 11) (M := 5) (al' := [some (.ref 215), some (.int x1), some (.int (0 : Int32)), none, none]) (by decide +kernel) rfl mx_191 rfl rfl ?_
  exact fe_191_11 hd 100000 _ _ _ _ h

/-! ZoneSharesModel.returned(II)I -/
theorem mx_192 : iv_mx 192 = 3 := by decide +kernel
theorem rt_192 : iv_rt 192 = some .int := by decide +kernel
def fm_192 (x1 : Int32) (x2 : Int32) (σ : fx_S) : Option (Int32 × fx_S) :=
  (fm_150 σ).bind fun q16 =>
  if (fx_b q16.1) = 0 then (
    some ((-1 : Int32), q16.2)) else (
    (fm_148 x1 q16.2).bind fun q19 =>
    if (fx_b q19.1) = 0 then (
      some ((-1 : Int32), q19.2)) else (
      (fm_130 (x2).toInt64 (0 : Int64) (8 : Int64) q19.2).bind fun q23 =>
      if ¬ (fx_b q23.1) = 0 then (
        (fm_191 x1 q23.2).bind fun q26 =>
        (fm_183 x2 q26).bind fun q28 =>
        some (q28.1, q28.2)) else (
        some ((-1 : Int32), q23.2))))
theorem fe_192 {d : Nat} (hd : 32 ≤ d) {x1 : Int32} {x2 : Int32} {σ : fx_S} {q : Int32 × fx_S} (h : fm_192 x1 x2 σ = some q) : fx_E none 192 d 0 [some (.ref 215), some (.int x1), some (.int x2)] [] σ (some (.int q.1)) q.2 := by
  unfold fm_192 at h
  refine fs_aload_n (k := 0) (p := 1) (by decide +kernel) rfl rfl ?_
  obtain ⟨q16, w15, h⟩ := fx_bd h
  refine fs_callV (idx := 303) (mj := 150) (ci := 10) (na := 0) (mx := 1) (p := 4) (args := [.ref 215]) (rest := []) (al2 := [some (.ref 215)]) (by decide +kernel) rfl (by decide +kernel) fo_215 rfl rfl rfl rfl rfl rfl rfl (by omega) (fun d' hd' => fe_150 (by omega) w15) rfl ?_
  by_cases c17 : (fx_b q16.1) = 0
  · rw [if_pos c17] at h
    refine fs_if_eq_t (off := 22) (t := 26) (by decide +kernel) (by decide +kernel) c17 ?_
    refine fs_iconst (n := -1) (p := 27) (by decide +kernel) rfl kc_m1 ?_
    have h := Option.some.inj h
    subst h
    exact fs_iret (by decide +kernel) rt_192
  · rw [if_neg c17] at h
    refine fs_if_eq_f (off := 22) (t := 26) (p := 7) (by decide +kernel) (by decide +kernel) rfl c17 ?_
    refine fs_iload_n (k := 1) (p := 8) (by decide +kernel) rfl rfl ?_
    obtain ⟨q19, w18, h⟩ := fx_bd h
    refine fs_callS (idx := 190) (mj := 148) (na := 1) (mx := 1) (p := 11) (args := [.int x1]) (rest := []) (al2 := [some (.int x1)]) (by decide +kernel) rfl (by decide +kernel) rfl rfl rfl rfl rfl rfl rfl (by omega) (fun d' hd' => fe_148 (by omega) w18) rfl ?_
    by_cases c20 : (fx_b q19.1) = 0
    · rw [if_pos c20] at h
      refine fs_if_eq_t (off := 15) (t := 26) (by decide +kernel) (by decide +kernel) c20 ?_
      refine fs_iconst (n := -1) (p := 27) (by decide +kernel) rfl kc_m1 ?_
      have h := Option.some.inj h
      subst h
      exact fs_iret (by decide +kernel) rt_192
    · rw [if_neg c20] at h
      refine fs_if_eq_f (off := 15) (t := 26) (p := 14) (by decide +kernel) (by decide +kernel) rfl c20 ?_
      refine fs_iload_n (k := 2) (p := 15) (by decide +kernel) rfl rfl ?_
      refine fs_i2l (p := 16) (by decide +kernel) rfl ?_
      refine fs_lconst (n := 0) (p := 17) (by decide +kernel) rfl kl_0 ?_
      refine fs_ldc2 (idx := 310) (p := 20) (x := 8) (by decide +kernel) rfl (by decide +kernel) ?_
      obtain ⟨q23, w22, h⟩ := fx_bd h
      refine fs_callS (idx := 128) (mj := 130) (na := 3) (mx := 6) (p := 23) (args := [.long (x2).toInt64, .long (0 : Int64), .long (8 : Int64)]) (rest := []) (al2 := [some (.long (x2).toInt64), none, some (.long (0 : Int64)), none, some (.long (8 : Int64)), none]) (by decide +kernel) rfl (by decide +kernel) rfl rfl rfl rfl rfl rfl rfl (by omega) (fun d' hd' => fe_130 (by omega) w22) rfl ?_
      by_cases c24 : ¬ (fx_b q23.1) = 0
      · rw [if_pos c24] at h
        refine fs_if_ne_t (off := 5) (t := 28) (by decide +kernel) (by decide +kernel) c24 ?_
        refine fs_aload_n (k := 0) (p := 29) (by decide +kernel) rfl rfl ?_
        refine fs_iload_n (k := 1) (p := 30) (by decide +kernel) rfl rfl ?_
        obtain ⟨q26, w25, h⟩ := fx_bd h
        refine fs_callV (idx := 336) (mj := 191) (ci := 10) (na := 1) (mx := 5) (p := 33) (args := [.ref 215, .int x1]) (rest := []) (al2 := [some (.ref 215), some (.int x1), none, none, none]) (by decide +kernel) rfl (by decide +kernel) fo_215 rfl rfl rfl rfl rfl rfl rfl (by omega) (fun d' hd' => fe_191 (by omega) w25) rfl ?_
        refine fs_aload_n (k := 0) (p := 34) (by decide +kernel) rfl rfl ?_
        refine fs_iload_n (k := 2) (p := 35) (by decide +kernel) rfl rfl ?_
        obtain ⟨q28, w27, h⟩ := fx_bd h
        refine fs_callV (idx := 321) (mj := 183) (ci := 10) (na := 1) (mx := 4) (p := 38) (args := [.ref 215, .int x2]) (rest := []) (al2 := [some (.ref 215), some (.int x2), none, none]) (by decide +kernel) rfl (by decide +kernel) fo_215 rfl rfl rfl rfl rfl rfl rfl (by omega) (fun d' hd' => fe_183 (by omega) w27) rfl ?_
        have h := Option.some.inj h
        subst h
        exact fs_iret (by decide +kernel) rt_192
      · rw [if_neg c24] at h
        refine fs_if_ne_f (off := 5) (t := 28) (p := 26) (by decide +kernel) (by decide +kernel) rfl c24 ?_
        refine fs_iconst (n := -1) (p := 27) (by decide +kernel) rfl kc_m1 ?_
        have h := Option.some.inj h
        subst h
        exact fs_iret (by decide +kernel) rt_192

/-! ZoneSharesModel.astray(I)I -/
theorem mx_193 : iv_mx 193 = 4 := by decide +kernel
theorem rt_193 : iv_rt 193 = some .int := by decide +kernel
def fm_193_55 : Nat → Int32 → Int32 → fx_S → Option (Int32 × fx_S)
  | 0, _, _, _ => none
  | n + 1, x2, x3, σ =>
    if (8 : Int32) ≤ x3 then (
      some (x2, σ)) else (
      (fx_ld σ 236 x3).bind fun v3 =>
      (fx_ld σ 239 x3).bind fun v6 =>
      fm_193_55 n (x2 + (if 0 ≤ (v3 - v6) then (v3 - v6) else 0 - (v3 - v6))) (x3 + (1 : Int32)) σ)
theorem fe_193_55 {d : Nat} (hd : 32 ≤ d) : ∀ (n : Nat) (x2 : Int32) (x3 : Int32) (o1 : Option Value) (σ : fx_S) (q : Int32 × fx_S), fm_193_55 n x2 x3 σ = some q → fx_E none 193 d 55 [some (.ref 215), o1, some (.int x2), some (.int x3)] [] σ (some (.int q.1)) q.2 := by
  intro n
  induction n with
  | zero =>
    intro x2 x3 o1 σ q  h
    rw [fm_193_55] at h
    exact fx_no h
  | succ n ih =>
    intro x2 x3 o1 σ q  h
    rw [fm_193_55] at h
    refine fs_iload_n (k := 3) (p := 56) (by decide +kernel) rfl rfl ?_
    refine fs_bipush (n := 8) (p := 58) (by decide +kernel) rfl kb_8 ?_
    by_cases c2 : (8 : Int32) ≤ x3
    · rw [if_pos c2] at h
      refine fs_icmp_ge_t (off := 28) (t := 86) (by decide +kernel) (by decide +kernel) c2 ?_
      refine fs_iload_n (k := 2) (p := 87) (by decide +kernel) rfl rfl ?_
      have h := Option.some.inj h
      subst h
      exact fs_iret (by decide +kernel) rt_193
    · rw [if_neg c2] at h
      refine fs_icmp_ge_f (off := 28) (t := 86) (p := 61) (by decide +kernel) (by decide +kernel) rfl c2 ?_
      refine fs_iload_n (k := 2) (p := 62) (by decide +kernel) rfl rfl ?_
      refine fs_aload_n (k := 0) (p := 63) (by decide +kernel) rfl rfl ?_
      refine fs_gfr (idx := 73) (ci := 10) (j := 31) (p := 66) (by decide +kernel) rfl (by decide +kernel) fo_215 (fr_a215_31) ?_
      refine fs_iload_n (k := 3) (p := 67) (by decide +kernel) rfl rfl ?_
      obtain ⟨v3, w4, h⟩ := fx_bd h
      refine fs_iaload (p := 68) (by decide +kernel) rfl w4 ?_
      refine fs_aload_n (k := 0) (p := 69) (by decide +kernel) rfl rfl ?_
      refine fs_gfr (idx := 82) (ci := 10) (j := 34) (p := 72) (by decide +kernel) rfl (by decide +kernel) fo_215 (fr_a215_34) ?_
      refine fs_iload_n (k := 3) (p := 73) (by decide +kernel) rfl rfl ?_
      obtain ⟨v6, w7, h⟩ := fx_bd h
      refine fs_iaload (p := 74) (by decide +kernel) rfl w7 ?_
      refine fs_isub (p := 75) (by decide +kernel) rfl ?_
      refine fs_abi (idx := 339) (p := 78) (by decide +kernel) rfl (by decide +kernel) rfl ?_
      refine fs_iadd (p := 79) (by decide +kernel) rfl ?_
      refine fs_istore_n (k := 2) (p := 80) (M := 4) (al' := [some (.ref 215), (fx_kl o1), some (.int (x2 + (if 0 ≤ (v3 - v6) then (v3 - v6) else 0 - (v3 - v6)))), some (.int x3)]) (by decide +kernel) rfl mx_193 rfl rfl ?_
      refine fs_iinc (k := 3) (n := 1) (p := 83) (M := 4) (al' := [some (.ref 215), (fx_kl o1), some (.int (x2 + (if 0 ≤ (v3 - v6) then (v3 - v6) else 0 - (v3 - v6)))), some (.int (x3 + (1 : Int32)))]) (by decide +kernel) rfl kc_1 mx_193 rfl rfl rfl ?_
      refine fs_goto (off := -28) (p := 55) (by decide +kernel) (by decide +kernel) ?_
      exact ih _ _ _ _ _ h
def fm_193_23 : Nat → Int32 → Int32 → fx_S → Option (Int32 × fx_S)
  | 0, _, _, _ => none
  | n + 1, x1, x2, σ =>
    if (8 : Int32) ≤ x2 then (
      (fm_177 x1 σ).bind fun q4 =>
      fm_193_55 100000 (0 : Int32) (0 : Int32) q4) else (
      (fm_183 x2 σ).bind fun q6 =>
      (fx_st q6.2 239 x2 q6.1).bind fun t7 =>
      fm_193_23 n x1 (x2 + (1 : Int32)) t7)
theorem fe_193_23 {d : Nat} (hd : 32 ≤ d) : ∀ (n : Nat) (x1 : Int32) (x2 : Int32) (σ : fx_S) (q : Int32 × fx_S), fm_193_23 n x1 x2 σ = some q → fx_E none 193 d 23 [some (.ref 215), some (.int x1), some (.int x2), none] [] σ (some (.int q.1)) q.2 := by
  intro n
  induction n with
  | zero =>
    intro x1 x2 σ q  h
    rw [fm_193_23] at h
    exact fx_no h
  | succ n ih =>
    intro x1 x2 σ q  h
    rw [fm_193_23] at h
    refine fs_iload_n (k := 2) (p := 24) (by decide +kernel) rfl rfl ?_
    refine fs_bipush (n := 8) (p := 26) (by decide +kernel) rfl kb_8 ?_
    by_cases c2 : (8 : Int32) ≤ x2
    · rw [if_pos c2] at h
      refine fs_icmp_ge_t (off := 20) (t := 46) (by decide +kernel) (by decide +kernel) c2 ?_
      refine fs_aload_n (k := 0) (p := 47) (by decide +kernel) rfl rfl ?_
      refine fs_iload_n (k := 1) (p := 48) (by decide +kernel) rfl rfl ?_
      obtain ⟨q4, w3, h⟩ := fx_bd h
      refine fs_callV (idx := 290) (mj := 177) (ci := 10) (na := 1) (mx := 3) (p := 51) (args := [.ref 215, .int x1]) (rest := []) (al2 := [some (.ref 215), some (.int x1), none]) (by decide +kernel) rfl (by decide +kernel) fo_215 rfl rfl rfl rfl rfl rfl rfl (by omega) (fun d' hd' => fe_177 (by omega) w3) rfl ?_
      refine fs_iconst (n := 0) (p := 52) (by decide +kernel) rfl kc_0 ?_
      refine fs_istore_n (k := 2) (p := 53) (M := 4) (al' := [some (.ref 215), some (.int x1), some (.int (0 : Int32)), none]) (by decide +kernel) rfl mx_193 rfl rfl ?_
      refine fs_iconst (n := 0) (p := 54) (by decide +kernel) rfl kc_0 ?_
      refine fs_istore_n (k := 3) (p := 55) (M := 4) (al' := [some (.ref 215), some (.int x1), some (.int (0 : Int32)), some (.int (0 : Int32))]) (by decide +kernel) rfl mx_193 rfl rfl ?_
      exact fe_193_55 hd 100000 _ _ _ _ _ h
    · rw [if_neg c2] at h
      refine fs_icmp_ge_f (off := 20) (t := 46) (p := 29) (by decide +kernel) (by decide +kernel) rfl c2 ?_
      refine fs_aload_n (k := 0) (p := 30) (by decide +kernel) rfl rfl ?_
      refine fs_gfr (idx := 82) (ci := 10) (j := 34) (p := 33) (by decide +kernel) rfl (by decide +kernel) fo_215 (fr_a215_34) ?_
      refine fs_iload_n (k := 2) (p := 34) (by decide +kernel) rfl rfl ?_
      refine fs_aload_n (k := 0) (p := 35) (by decide +kernel) rfl rfl ?_
      refine fs_iload_n (k := 2) (p := 36) (by decide +kernel) rfl rfl ?_
      obtain ⟨q6, w5, h⟩ := fx_bd h
      refine fs_callV (idx := 321) (mj := 183) (ci := 10) (na := 1) (mx := 4) (p := 39) (args := [.ref 215, .int x2]) (rest := [.int x2, .ref 239]) (al2 := [some (.ref 215), some (.int x2), none, none]) (by decide +kernel) rfl (by decide +kernel) fo_215 rfl rfl rfl rfl rfl rfl rfl (by omega) (fun d' hd' => fe_183 (by omega) w5) rfl ?_
      obtain ⟨t7, w8, h⟩ := fx_bd h
      refine fs_iastore (p := 40) (by decide +kernel) rfl w8 ?_
      refine fs_iinc (k := 2) (n := 1) (p := 43) (M := 4) (al' := [some (.ref 215), some (.int x1), some (.int (x2 + (1 : Int32))), none]) (by decide +kernel) rfl kc_1 mx_193 rfl rfl rfl ?_
      refine fs_goto (off := -20) (p := 23) (by decide +kernel) (by decide +kernel) ?_
      exact ih _ _ _ _ h
def fm_193 (x1 : Int32) (σ : fx_S) : Option (Int32 × fx_S) :=
  (fm_150 σ).bind fun q28 =>
  if (fx_b q28.1) = 0 then (
    some ((-1 : Int32), q28.2)) else (
    (fm_148 x1 q28.2).bind fun q31 =>
    if ¬ (fx_b q31.1) = 0 then (
      (fm_191 x1 q31.2).bind fun q34 =>
      fm_193_23 100000 x1 (0 : Int32) q34) else (
      some ((-1 : Int32), q31.2)))
theorem fe_193 {d : Nat} (hd : 32 ≤ d) {x1 : Int32} {σ : fx_S} {q : Int32 × fx_S} (h : fm_193 x1 σ = some q) : fx_E none 193 d 0 [some (.ref 215), some (.int x1), none, none] [] σ (some (.int q.1)) q.2 := by
  unfold fm_193 at h
  refine fs_aload_n (k := 0) (p := 1) (by decide +kernel) rfl rfl ?_
  obtain ⟨q28, w27, h⟩ := fx_bd h
  refine fs_callV (idx := 303) (mj := 150) (ci := 10) (na := 0) (mx := 1) (p := 4) (args := [.ref 215]) (rest := []) (al2 := [some (.ref 215)]) (by decide +kernel) rfl (by decide +kernel) fo_215 rfl rfl rfl rfl rfl rfl rfl (by omega) (fun d' hd' => fe_150 (by omega) w27) rfl ?_
  by_cases c29 : (fx_b q28.1) = 0
  · rw [if_pos c29] at h
    refine fs_if_eq_t (off := 10) (t := 14) (by decide +kernel) (by decide +kernel) c29 ?_
    refine fs_iconst (n := -1) (p := 15) (by decide +kernel) rfl kc_m1 ?_
    have h := Option.some.inj h
    subst h
    exact fs_iret (by decide +kernel) rt_193
  · rw [if_neg c29] at h
    refine fs_if_eq_f (off := 10) (t := 14) (p := 7) (by decide +kernel) (by decide +kernel) rfl c29 ?_
    refine fs_iload_n (k := 1) (p := 8) (by decide +kernel) rfl rfl ?_
    obtain ⟨q31, w30, h⟩ := fx_bd h
    refine fs_callS (idx := 190) (mj := 148) (na := 1) (mx := 1) (p := 11) (args := [.int x1]) (rest := []) (al2 := [some (.int x1)]) (by decide +kernel) rfl (by decide +kernel) rfl rfl rfl rfl rfl rfl rfl (by omega) (fun d' hd' => fe_148 (by omega) w30) rfl ?_
    by_cases c32 : ¬ (fx_b q31.1) = 0
    · rw [if_pos c32] at h
      refine fs_if_ne_t (off := 5) (t := 16) (by decide +kernel) (by decide +kernel) c32 ?_
      refine fs_aload_n (k := 0) (p := 17) (by decide +kernel) rfl rfl ?_
      refine fs_iload_n (k := 1) (p := 18) (by decide +kernel) rfl rfl ?_
      obtain ⟨q34, w33, h⟩ := fx_bd h
      refine fs_callV (idx := 336) (mj := 191) (ci := 10) (na := 1) (mx := 5) (p := 21) (args := [.ref 215, .int x1]) (rest := []) (al2 := [some (.ref 215), some (.int x1), none, none, none]) (by decide +kernel) rfl (by decide +kernel) fo_215 rfl rfl rfl rfl rfl rfl rfl (by omega) (fun d' hd' => fe_191 (by omega) w33) rfl ?_
      refine fs_iconst (n := 0) (p := 22) (by decide +kernel) rfl kc_0 ?_
      refine fs_istore_n (k := 2) (p := 23) (M := 4) (al' := [some (.ref 215), some (.int x1), some (.int (0 : Int32)), none]) (by decide +kernel) rfl mx_193 rfl rfl ?_
      exact fe_193_23 hd 100000 _ _ _ _ h
    · rw [if_neg c32] at h
      refine fs_if_ne_f (off := 5) (t := 16) (p := 14) (by decide +kernel) (by decide +kernel) rfl c32 ?_
      refine fs_iconst (n := -1) (p := 15) (by decide +kernel) rfl kc_m1 ?_
      have h := Option.some.inj h
      subst h
      exact fs_iret (by decide +kernel) rt_193

/-! ZoneSharesModel.fit(I)I -/
theorem mx_212 : iv_mx 212 = 4 := by decide +kernel
theorem rt_212 : iv_rt 212 = some .int := by decide +kernel
def fm_212_102 : Nat → Int32 → Int32 → Int32 → fx_S → Option (Int32 × fx_S)
  | 0, _, _, _, _ => none
  | n + 1, x1, x2, x3, σ =>
    if (4 : Int32) ≤ x3 then (
      some (x2, σ)) else (
      (fx_ld σ 244 x3).bind fun v3 =>
      (fx_st σ 216 (((32 : Int32) + ((4 : Int32) * x1)) + x3) v3).bind fun t6 =>
      fm_212_102 n x1 x2 (x3 + (1 : Int32)) t6)
theorem fe_212_102 {d : Nat} (hd : 9 ≤ d) : ∀ (n : Nat) (x1 : Int32) (x2 : Int32) (x3 : Int32) (σ : fx_S) (q : Int32 × fx_S), fm_212_102 n x1 x2 x3 σ = some q → fx_E none 212 d 102 [some (.ref 215), some (.int x1), some (.int x2), some (.int x3)] [] σ (some (.int q.1)) q.2 := by
  intro n
  induction n with
  | zero =>
    intro x1 x2 x3 σ q  h
    rw [fm_212_102] at h
    exact fx_no h
  | succ n ih =>
    intro x1 x2 x3 σ q  h
    rw [fm_212_102] at h
    refine fs_iload_n (k := 3) (p := 103) (by decide +kernel) rfl rfl ?_
    refine fs_iconst (n := 4) (p := 104) (by decide +kernel) rfl kc_4 ?_
    by_cases c2 : (4 : Int32) ≤ x3
    · rw [if_pos c2] at h
      refine fs_icmp_ge_t (off := 28) (t := 132) (by decide +kernel) (by decide +kernel) c2 ?_
      refine fs_iload_n (k := 2) (p := 133) (by decide +kernel) rfl rfl ?_
      have h := Option.some.inj h
      subst h
      exact fs_iret (by decide +kernel) rt_212
    · rw [if_neg c2] at h
      refine fs_icmp_ge_f (off := 28) (t := 132) (p := 107) (by decide +kernel) (by decide +kernel) rfl c2 ?_
      refine fs_aload_n (k := 0) (p := 108) (by decide +kernel) rfl rfl ?_
      refine fs_gfr (idx := 9) (ci := 10) (j := 0) (p := 111) (by decide +kernel) rfl (by decide +kernel) fo_215 (fr_a215_0) ?_
      refine fs_bipush (n := 32) (p := 113) (by decide +kernel) rfl kb_32 ?_
      refine fs_iconst (n := 4) (p := 114) (by decide +kernel) rfl kc_4 ?_
      refine fs_iload_n (k := 1) (p := 115) (by decide +kernel) rfl rfl ?_
      refine fs_imul (p := 116) (by decide +kernel) rfl ?_
      refine fs_iadd (p := 117) (by decide +kernel) rfl ?_
      refine fs_iload_n (k := 3) (p := 118) (by decide +kernel) rfl rfl ?_
      refine fs_iadd (p := 119) (by decide +kernel) rfl ?_
      refine fs_aload_n (k := 0) (p := 120) (by decide +kernel) rfl rfl ?_
      refine fs_gfr (idx := 97) (ci := 10) (j := 39) (p := 123) (by decide +kernel) rfl (by decide +kernel) fo_215 (fr_a215_39) ?_
      refine fs_iload_n (k := 3) (p := 124) (by decide +kernel) rfl rfl ?_
      obtain ⟨v3, w4, h⟩ := fx_bd h
      refine fs_iaload (p := 125) (by decide +kernel) rfl w4 ?_
      obtain ⟨t6, w7, h⟩ := fx_bd h
      refine fs_iastore (p := 126) (by decide +kernel) rfl w7 ?_
      refine fs_iinc (k := 3) (n := 1) (p := 129) (M := 4) (al' := [some (.ref 215), some (.int x1), some (.int x2), some (.int (x3 + (1 : Int32)))]) (by decide +kernel) rfl kc_1 mx_212 rfl rfl rfl ?_
      refine fs_goto (off := -27) (p := 102) (by decide +kernel) (by decide +kernel) ?_
      exact ih _ _ _ _ _ h
def fm_212_78 (k_45 : Int32 → Int32 → Int32 → fx_S → Option (Int32 × fx_S)) (x1 : Int32) (x3 : Int32) (s0 : Int32) (s1 : Int32) (σ : fx_S) : Option (Int32 × fx_S) :=
  (fm_131 s1 σ).bind fun q2 =>
  k_45 x1 (s0 + q2.1) (x3 + (1 : Int32)) q2.2
theorem fe_212_78 {d : Nat} (hd : 9 ≤ d) {k_45 : Int32 → Int32 → Int32 → fx_S → Option (Int32 × fx_S)} (hk_45 : ∀ (x1 : Int32) (x2 : Int32) (x3 : Int32) (σ : fx_S) (q : Int32 × fx_S), k_45 x1 x2 x3 σ = some q → fx_E none 212 d 45 [some (.ref 215), some (.int x1), some (.int x2), some (.int x3)] [] σ (some (.int q.1)) q.2) (x1 : Int32) (x3 : Int32) (s0 : Int32) (s1 : Int32) (o2 : Option Value) (σ : fx_S) (q : Int32 × fx_S) (h : fm_212_78 k_45  x1 x3 s0 s1 σ = some q) : fx_E none 212 d 78 [some (.ref 215), some (.int x1), o2, some (.int x3)] [.int s1, .int s0] σ (some (.int q.1)) q.2 := by
  unfold fm_212_78 at h
  obtain ⟨q2, w1, h⟩ := fx_bd h
  refine fs_callS (idx := 186) (mj := 131) (na := 1) (mx := 1) (p := 81) (args := [.int s1]) (rest := [.int s0]) (al2 := [some (.int s1)]) (by decide +kernel) rfl (by decide +kernel) rfl rfl rfl rfl rfl rfl rfl (by omega) (fun d' hd' => fe_131 (by omega) w1) rfl ?_
  refine fs_iadd (p := 82) (by decide +kernel) rfl ?_
  refine fs_istore_n (k := 2) (p := 83) (M := 4) (al' := [some (.ref 215), some (.int x1), some (.int (s0 + q2.1)), some (.int x3)]) (by decide +kernel) rfl mx_212 rfl rfl ?_
  refine fs_iinc (k := 3) (n := 1) (p := 86) (M := 4) (al' := [some (.ref 215), some (.int x1), some (.int (s0 + q2.1)), some (.int (x3 + (1 : Int32)))]) (by decide +kernel) rfl kc_1 mx_212 rfl rfl rfl ?_
  refine fs_goto (off := -41) (p := 45) (by decide +kernel) (by decide +kernel) ?_
  exact hk_45 _ _ _ _ _ h
def fm_212_45 : Nat → Int32 → Int32 → Int32 → fx_S → Option (Int32 × fx_S)
  | 0, _, _, _, _ => none
  | n + 1, x1, x2, x3, σ =>
    if (4 : Int32) ≤ x3 then (
      if ¬ x2 = 0 then (
        (fm_132 σ).bind fun q6 =>
        fm_212_102 100000 x1 x2 (0 : Int32) q6) else (
        some ((-2 : Int32), σ))) else (
      (fx_ld σ 244 x3).bind fun v7 =>
      (fx_ld σ 216 (((32 : Int32) + ((4 : Int32) * x1)) + x3)).bind fun v10 =>
      if v7 = v10 then (
        fm_212_78 (fm_212_45 n) x1 x3 x2 (0 : Int32) σ) else (
        fm_212_78 (fm_212_45 n) x1 x3 x2 (1 : Int32) σ))
theorem fe_212_45 {d : Nat} (hd : 9 ≤ d) : ∀ (n : Nat) (x1 : Int32) (x2 : Int32) (x3 : Int32) (σ : fx_S) (q : Int32 × fx_S), fm_212_45 n x1 x2 x3 σ = some q → fx_E none 212 d 45 [some (.ref 215), some (.int x1), some (.int x2), some (.int x3)] [] σ (some (.int q.1)) q.2 := by
  intro n
  induction n with
  | zero =>
    intro x1 x2 x3 σ q  h
    rw [fm_212_45] at h
    exact fx_no h
  | succ n ih =>
    intro x1 x2 x3 σ q  h
    rw [fm_212_45] at h
    refine fs_iload_n (k := 3) (p := 46) (by decide +kernel) rfl rfl ?_
    refine fs_iconst (n := 4) (p := 47) (by decide +kernel) rfl kc_4 ?_
    by_cases c2 : (4 : Int32) ≤ x3
    · rw [if_pos c2] at h
      refine fs_icmp_ge_t (off := 42) (t := 89) (by decide +kernel) (by decide +kernel) c2 ?_
      refine fs_iload_n (k := 2) (p := 90) (by decide +kernel) rfl rfl ?_
      by_cases c4 : ¬ x2 = 0
      · rw [if_pos c4] at h
        refine fs_if_ne_t (off := 6) (t := 96) (by decide +kernel) (by decide +kernel) c4 ?_
        refine fs_aload_n (k := 0) (p := 97) (by decide +kernel) rfl rfl ?_
        obtain ⟨q6, w5, h⟩ := fx_bd h
        refine fs_callV (idx := 170) (mj := 132) (ci := 10) (na := 0) (mx := 2) (p := 100) (args := [.ref 215]) (rest := []) (al2 := [some (.ref 215), none]) (by decide +kernel) rfl (by decide +kernel) fo_215 rfl rfl rfl rfl rfl rfl rfl (by omega) (fun d' hd' => fe_132 (by omega) w5) rfl ?_
        refine fs_iconst (n := 0) (p := 101) (by decide +kernel) rfl kc_0 ?_
        refine fs_istore_n (k := 3) (p := 102) (M := 4) (al' := [some (.ref 215), some (.int x1), some (.int x2), some (.int (0 : Int32))]) (by decide +kernel) rfl mx_212 rfl rfl ?_
        exact fe_212_102 hd 100000 _ _ _ _ _ h
      · rw [if_neg c4] at h
        refine fs_if_ne_f (off := 6) (t := 96) (p := 93) (by decide +kernel) (by decide +kernel) rfl c4 ?_
        refine fs_bipush (n := -2) (p := 95) (by decide +kernel) rfl kb_m2 ?_
        have h := Option.some.inj h
        subst h
        exact fs_iret (by decide +kernel) rt_212
    · rw [if_neg c2] at h
      refine fs_icmp_ge_f (off := 42) (t := 89) (p := 50) (by decide +kernel) (by decide +kernel) rfl c2 ?_
      refine fs_iload_n (k := 2) (p := 51) (by decide +kernel) rfl rfl ?_
      refine fs_aload_n (k := 0) (p := 52) (by decide +kernel) rfl rfl ?_
      refine fs_gfr (idx := 97) (ci := 10) (j := 39) (p := 55) (by decide +kernel) rfl (by decide +kernel) fo_215 (fr_a215_39) ?_
      refine fs_iload_n (k := 3) (p := 56) (by decide +kernel) rfl rfl ?_
      obtain ⟨v7, w8, h⟩ := fx_bd h
      refine fs_iaload (p := 57) (by decide +kernel) rfl w8 ?_
      refine fs_aload_n (k := 0) (p := 58) (by decide +kernel) rfl rfl ?_
      refine fs_gfr (idx := 9) (ci := 10) (j := 0) (p := 61) (by decide +kernel) rfl (by decide +kernel) fo_215 (fr_a215_0) ?_
      refine fs_bipush (n := 32) (p := 63) (by decide +kernel) rfl kb_32 ?_
      refine fs_iconst (n := 4) (p := 64) (by decide +kernel) rfl kc_4 ?_
      refine fs_iload_n (k := 1) (p := 65) (by decide +kernel) rfl rfl ?_
      refine fs_imul (p := 66) (by decide +kernel) rfl ?_
      refine fs_iadd (p := 67) (by decide +kernel) rfl ?_
      refine fs_iload_n (k := 3) (p := 68) (by decide +kernel) rfl rfl ?_
      refine fs_iadd (p := 69) (by decide +kernel) rfl ?_
      obtain ⟨v10, w11, h⟩ := fx_bd h
      refine fs_iaload (p := 70) (by decide +kernel) rfl w11 ?_
      by_cases c15 : v7 = v10
      · rw [if_pos c15] at h
        refine fs_icmp_eq_t (off := 7) (t := 77) (by decide +kernel) (by decide +kernel) c15 ?_
        refine fs_iconst (n := 0) (p := 78) (by decide +kernel) rfl kc_0 ?_
        exact fe_212_78 hd ih _ _ _ _ _ _ _ h
      · rw [if_neg c15] at h
        refine fs_icmp_eq_f (off := 7) (t := 77) (p := 73) (by decide +kernel) (by decide +kernel) rfl c15 ?_
        refine fs_iconst (n := 1) (p := 74) (by decide +kernel) rfl kc_1 ?_
        refine fs_goto (off := 4) (p := 78) (by decide +kernel) (by decide +kernel) ?_
        exact fe_212_78 hd ih _ _ _ _ _ _ _ h
def fm_212 (x1 : Int32) (σ : fx_S) : Option (Int32 × fx_S) :=
  (fm_150 σ).bind fun q39 =>
  if (fx_b q39.1) = 0 then (
    some ((-1 : Int32), q39.2)) else (
    (fm_148 x1 q39.2).bind fun q42 =>
    if ¬ (fx_b q42.1) = 0 then (
      (fm_205 x1 q42.2).bind fun q45 =>
      if ¬ (q45.1 215 42) = 0 then (
        (fm_211 x1 (0 : Int32) (fx_w1 q45 215 43 (0 : Int32))).bind fun q49 =>
        fm_212_45 100000 x1 (0 : Int32) (0 : Int32) q49) else (
        some ((-1 : Int32), q45))) else (
      some ((-1 : Int32), q42.2)))
theorem fe_212 {d : Nat} (hd : 9 ≤ d) {x1 : Int32} {σ : fx_S} {q : Int32 × fx_S} (h : fm_212 x1 σ = some q) : fx_E none 212 d 0 [some (.ref 215), some (.int x1), none, none] [] σ (some (.int q.1)) q.2 := by
  unfold fm_212 at h
  refine fs_aload_n (k := 0) (p := 1) (by decide +kernel) rfl rfl ?_
  obtain ⟨q39, w38, h⟩ := fx_bd h
  refine fs_callV (idx := 303) (mj := 150) (ci := 10) (na := 0) (mx := 1) (p := 4) (args := [.ref 215]) (rest := []) (al2 := [some (.ref 215)]) (by decide +kernel) rfl (by decide +kernel) fo_215 rfl rfl rfl rfl rfl rfl rfl (by omega) (fun d' hd' => fe_150 (by omega) w38) rfl ?_
  by_cases c40 : (fx_b q39.1) = 0
  · rw [if_pos c40] at h
    refine fs_if_eq_t (off := 10) (t := 14) (by decide +kernel) (by decide +kernel) c40 ?_
    refine fs_iconst (n := -1) (p := 15) (by decide +kernel) rfl kc_m1 ?_
    have h := Option.some.inj h
    subst h
    exact fs_iret (by decide +kernel) rt_212
  · rw [if_neg c40] at h
    refine fs_if_eq_f (off := 10) (t := 14) (p := 7) (by decide +kernel) (by decide +kernel) rfl c40 ?_
    refine fs_iload_n (k := 1) (p := 8) (by decide +kernel) rfl rfl ?_
    obtain ⟨q42, w41, h⟩ := fx_bd h
    refine fs_callS (idx := 190) (mj := 148) (na := 1) (mx := 1) (p := 11) (args := [.int x1]) (rest := []) (al2 := [some (.int x1)]) (by decide +kernel) rfl (by decide +kernel) rfl rfl rfl rfl rfl rfl rfl (by omega) (fun d' hd' => fe_148 (by omega) w41) rfl ?_
    by_cases c43 : ¬ (fx_b q42.1) = 0
    · rw [if_pos c43] at h
      refine fs_if_ne_t (off := 5) (t := 16) (by decide +kernel) (by decide +kernel) c43 ?_
      refine fs_aload_n (k := 0) (p := 17) (by decide +kernel) rfl rfl ?_
      refine fs_iload_n (k := 1) (p := 18) (by decide +kernel) rfl rfl ?_
      obtain ⟨q45, w44, h⟩ := fx_bd h
      refine fs_callV (idx := 400) (mj := 205) (ci := 10) (na := 1) (mx := 3) (p := 21) (args := [.ref 215, .int x1]) (rest := []) (al2 := [some (.ref 215), some (.int x1), none]) (by decide +kernel) rfl (by decide +kernel) fo_215 rfl rfl rfl rfl rfl rfl rfl (by omega) (fun d' hd' => fe_205 (by omega) w44) rfl ?_
      refine fs_aload_n (k := 0) (p := 22) (by decide +kernel) rfl rfl ?_
      refine fs_gfi (idx := 382) (ci := 10) (j := 42) (p := 25) (by decide +kernel) rfl (by decide +kernel) fo_215 ?_
      by_cases c47 : ¬ (q45.1 215 42) = 0
      · rw [if_pos c47] at h
        refine fs_if_ne_t (off := 5) (t := 30) (by decide +kernel) (by decide +kernel) c47 ?_
        refine fs_aload_n (k := 0) (p := 31) (by decide +kernel) rfl rfl ?_
        refine fs_iconst (n := 0) (p := 32) (by decide +kernel) rfl kc_0 ?_
        refine fs_pfi (idx := 412) (ci := 10) (j := 43) (p := 35) (by decide +kernel) rfl (by decide +kernel) (by decide +kernel) fo_215 (fx_okd (by decide) (by decide +kernel)) ?_
        refine fs_aload_n (k := 0) (p := 36) (by decide +kernel) rfl rfl ?_
        refine fs_iload_n (k := 1) (p := 37) (by decide +kernel) rfl rfl ?_
        refine fs_iconst (n := 0) (p := 38) (by decide +kernel) rfl kc_0 ?_
        obtain ⟨q49, w48, h⟩ := fx_bd h
        refine fs_callV (idx := 409) (mj := 211) (ci := 10) (na := 2) (mx := 4) (p := 41) (args := [.ref 215, .int x1, .int (0 : Int32)]) (rest := []) (al2 := [some (.ref 215), some (.int x1), some (.int (0 : Int32)), none]) (by decide +kernel) rfl (by decide +kernel) fo_215 rfl rfl rfl rfl rfl rfl rfl (by omega) (fun d' hd' => fe_211 (by omega) w48) rfl ?_
        refine fs_iconst (n := 0) (p := 42) (by decide +kernel) rfl kc_0 ?_
        refine fs_istore_n (k := 2) (p := 43) (M := 4) (al' := [some (.ref 215), some (.int x1), some (.int (0 : Int32)), none]) (by decide +kernel) rfl mx_212 rfl rfl ?_
        refine fs_iconst (n := 0) (p := 44) (by decide +kernel) rfl kc_0 ?_
        refine fs_istore_n (k := 3) (p := 45) (M := 4) (al' := [some (.ref 215), some (.int x1), some (.int (0 : Int32)), some (.int (0 : Int32))]) (by decide +kernel) rfl mx_212 rfl rfl ?_
        exact fe_212_45 hd 100000 _ _ _ _ _ h
      · rw [if_neg c47] at h
        refine fs_if_ne_f (off := 5) (t := 30) (p := 28) (by decide +kernel) (by decide +kernel) rfl c47 ?_
        refine fs_iconst (n := -1) (p := 29) (by decide +kernel) rfl kc_m1 ?_
        have h := Option.some.inj h
        subst h
        exact fs_iret (by decide +kernel) rt_212
    · rw [if_neg c43] at h
      refine fs_if_ne_f (off := 5) (t := 16) (p := 14) (by decide +kernel) (by decide +kernel) rfl c43 ?_
      refine fs_iconst (n := -1) (p := 15) (by decide +kernel) rfl kc_m1 ?_
      have h := Option.some.inj h
      subst h
      exact fs_iret (by decide +kernel) rt_212

/-! ZoneSharesModel.adopt()I -/
theorem mx_217 : iv_mx 217 = 4 := by decide +kernel
theorem rt_217 : iv_rt 217 = some .int := by decide +kernel
def fm_217_135 : Nat → Int32 → Int32 → fx_S → Option (Int32 × fx_S)
  | 0, _, _, _ => none
  | n + 1, x1, x2, σ =>
    if (96 : Int32) ≤ x2 then (
      some (x1, σ)) else (
      (fx_ld σ 216 ((148 : Int32) + x2)).bind fun v3 =>
      (fx_st σ 216 ((52 : Int32) + x2) v3).bind fun t6 =>
      fm_217_135 n x1 (x2 + (1 : Int32)) t6)
theorem fe_217_135 {d : Nat} (hd : 31 ≤ d) : ∀ (n : Nat) (x1 : Int32) (x2 : Int32) (o3 : Option Value) (σ : fx_S) (q : Int32 × fx_S), fm_217_135 n x1 x2 σ = some q → fx_E none 217 d 135 [some (.ref 215), some (.int x1), some (.int x2), o3] [] σ (some (.int q.1)) q.2 := by
  intro n
  induction n with
  | zero =>
    intro x1 x2 o3 σ q  h
    rw [fm_217_135] at h
    exact fx_no h
  | succ n ih =>
    intro x1 x2 o3 σ q  h
    rw [fm_217_135] at h
    refine fs_iload_n (k := 2) (p := 136) (by decide +kernel) rfl rfl ?_
    refine fs_bipush (n := 96) (p := 138) (by decide +kernel) rfl kb_96 ?_
    by_cases c2 : (96 : Int32) ≤ x2
    · rw [if_pos c2] at h
      refine fs_icmp_ge_t (off := 28) (t := 166) (by decide +kernel) (by decide +kernel) c2 ?_
      refine fs_iload_n (k := 1) (p := 167) (by decide +kernel) rfl rfl ?_
      have h := Option.some.inj h
      subst h
      exact fs_iret (by decide +kernel) rt_217
    · rw [if_neg c2] at h
      refine fs_icmp_ge_f (off := 28) (t := 166) (p := 141) (by decide +kernel) (by decide +kernel) rfl c2 ?_
      refine fs_aload_n (k := 0) (p := 142) (by decide +kernel) rfl rfl ?_
      refine fs_gfr (idx := 9) (ci := 10) (j := 0) (p := 145) (by decide +kernel) rfl (by decide +kernel) fo_215 (fr_a215_0) ?_
      refine fs_bipush (n := 52) (p := 147) (by decide +kernel) rfl kb_52 ?_
      refine fs_iload_n (k := 2) (p := 148) (by decide +kernel) rfl rfl ?_
      refine fs_iadd (p := 149) (by decide +kernel) rfl ?_
      refine fs_aload_n (k := 0) (p := 150) (by decide +kernel) rfl rfl ?_
      refine fs_gfr (idx := 9) (ci := 10) (j := 0) (p := 153) (by decide +kernel) rfl (by decide +kernel) fo_215 (fr_a215_0) ?_
      refine fs_sipush (n := 148) (p := 156) (by decide +kernel) rfl ks_148 ?_
      refine fs_iload_n (k := 2) (p := 157) (by decide +kernel) rfl rfl ?_
      refine fs_iadd (p := 158) (by decide +kernel) rfl ?_
      obtain ⟨v3, w4, h⟩ := fx_bd h
      refine fs_iaload (p := 159) (by decide +kernel) rfl w4 ?_
      obtain ⟨t6, w7, h⟩ := fx_bd h
      refine fs_iastore (p := 160) (by decide +kernel) rfl w7 ?_
      refine fs_iinc (k := 2) (n := 1) (p := 163) (M := 4) (al' := [some (.ref 215), some (.int x1), some (.int (x2 + (1 : Int32))), o3]) (by decide +kernel) rfl kc_1 mx_217 rfl rfl rfl ?_
      refine fs_goto (off := -28) (p := 135) (by decide +kernel) (by decide +kernel) ?_
      exact ih _ _ _ _ _ h
def fm_217_107 : Nat → Int32 → Int32 → fx_S → Option (Int32 × fx_S)
  | 0, _, _, _ => none
  | n + 1, x1, x2, σ =>
    if (27 : Int32) ≤ x2 then (
      fm_217_135 100000 x1 (0 : Int32) σ) else (
      (fx_ld σ 245 x2).bind fun v3 =>
      (fx_st σ 216 ((5 : Int32) + x2) v3).bind fun t6 =>
      fm_217_107 n x1 (x2 + (1 : Int32)) t6)
theorem fe_217_107 {d : Nat} (hd : 31 ≤ d) : ∀ (n : Nat) (x1 : Int32) (x2 : Int32) (o3 : Option Value) (σ : fx_S) (q : Int32 × fx_S), fm_217_107 n x1 x2 σ = some q → fx_E none 217 d 107 [some (.ref 215), some (.int x1), some (.int x2), o3] [] σ (some (.int q.1)) q.2 := by
  intro n
  induction n with
  | zero =>
    intro x1 x2 o3 σ q  h
    rw [fm_217_107] at h
    exact fx_no h
  | succ n ih =>
    intro x1 x2 o3 σ q  h
    rw [fm_217_107] at h
    refine fs_iload_n (k := 2) (p := 108) (by decide +kernel) rfl rfl ?_
    refine fs_bipush (n := 27) (p := 110) (by decide +kernel) rfl kb_27 ?_
    by_cases c2 : (27 : Int32) ≤ x2
    · rw [if_pos c2] at h
      refine fs_icmp_ge_t (off := 23) (t := 133) (by decide +kernel) (by decide +kernel) c2 ?_
      refine fs_iconst (n := 0) (p := 134) (by decide +kernel) rfl kc_0 ?_
      refine fs_istore_n (k := 2) (p := 135) (M := 4) (al' := [some (.ref 215), some (.int x1), some (.int (0 : Int32)), o3]) (by decide +kernel) rfl mx_217 rfl rfl ?_
      exact fe_217_135 hd 100000 _ _ _ _ _ h
    · rw [if_neg c2] at h
      refine fs_icmp_ge_f (off := 23) (t := 133) (p := 113) (by decide +kernel) (by decide +kernel) rfl c2 ?_
      refine fs_aload_n (k := 0) (p := 114) (by decide +kernel) rfl rfl ?_
      refine fs_gfr (idx := 9) (ci := 10) (j := 0) (p := 117) (by decide +kernel) rfl (by decide +kernel) fo_215 (fr_a215_0) ?_
      refine fs_iconst (n := 5) (p := 118) (by decide +kernel) rfl kc_5 ?_
      refine fs_iload_n (k := 2) (p := 119) (by decide +kernel) rfl rfl ?_
      refine fs_iadd (p := 120) (by decide +kernel) rfl ?_
      refine fs_aload_n (k := 0) (p := 121) (by decide +kernel) rfl rfl ?_
      refine fs_gfr (idx := 100) (ci := 10) (j := 46) (p := 124) (by decide +kernel) rfl (by decide +kernel) fo_215 (fr_a215_46) ?_
      refine fs_iload_n (k := 2) (p := 125) (by decide +kernel) rfl rfl ?_
      obtain ⟨v3, w4, h⟩ := fx_bd h
      refine fs_iaload (p := 126) (by decide +kernel) rfl w4 ?_
      obtain ⟨t6, w7, h⟩ := fx_bd h
      refine fs_iastore (p := 127) (by decide +kernel) rfl w7 ?_
      refine fs_iinc (k := 2) (n := 1) (p := 130) (M := 4) (al' := [some (.ref 215), some (.int x1), some (.int (x2 + (1 : Int32))), o3]) (by decide +kernel) rfl kc_1 mx_217 rfl rfl rfl ?_
      refine fs_goto (off := -23) (p := 107) (by decide +kernel) (by decide +kernel) ?_
      exact ih _ _ _ _ _ h
def fm_217_67 (k_29 : Int32 → Int32 → Int32 → fx_S → Option (Int32 × fx_S)) (x2 : Int32) (x3 : Int32) (s0 : Int32) (s1 : Int32) (σ : fx_S) : Option (Int32 × fx_S) :=
  k_29 (s0 + s1) x2 (x3 + (1 : Int32)) σ
theorem fe_217_67 {d : Nat} (hd : 31 ≤ d) {k_29 : Int32 → Int32 → Int32 → fx_S → Option (Int32 × fx_S)} (hk_29 : ∀ (x1 : Int32) (x2 : Int32) (x3 : Int32) (σ : fx_S) (q : Int32 × fx_S), k_29 x1 x2 x3 σ = some q → fx_E none 217 d 29 [some (.ref 215), some (.int x1), some (.int x2), some (.int x3)] [] σ (some (.int q.1)) q.2) (x2 : Int32) (x3 : Int32) (s0 : Int32) (s1 : Int32) (o1 : Option Value) (σ : fx_S) (q : Int32 × fx_S) (h : fm_217_67 k_29  x2 x3 s0 s1 σ = some q) : fx_E none 217 d 67 [some (.ref 215), o1, some (.int x2), some (.int x3)] [.int s1, .int s0] σ (some (.int q.1)) q.2 := by
  unfold fm_217_67 at h
  refine fs_iadd (p := 68) (by decide +kernel) rfl ?_
  refine fs_istore_n (k := 1) (p := 69) (M := 4) (al' := [some (.ref 215), some (.int (s0 + s1)), some (.int x2), some (.int x3)]) (by decide +kernel) rfl mx_217 rfl rfl ?_
  refine fs_iinc (k := 3) (n := 1) (p := 72) (M := 4) (al' := [some (.ref 215), some (.int (s0 + s1)), some (.int x2), some (.int (x3 + (1 : Int32)))]) (by decide +kernel) rfl kc_1 mx_217 rfl rfl rfl ?_
  refine fs_goto (off := -43) (p := 29) (by decide +kernel) (by decide +kernel) ?_
  exact hk_29 _ _ _ _ _ h
def fm_217_29 (k_13 : Int32 → Int32 → fx_S → Option (Int32 × fx_S)) : Nat → Int32 → Int32 → Int32 → fx_S → Option (Int32 × fx_S)
  | 0, _, _, _, _ => none
  | n + 1, x1, x2, x3, σ =>
    if (9 : Int32) ≤ x3 then (
      (fx_ld σ 245 (((9 : Int32) * x2) + (8 : Int32))).bind fun v3 =>
      (fm_176 x2 σ).bind fun q7 =>
      (fx_st q7.2 245 (((9 : Int32) * x2) + (8 : Int32)) (v3 + q7.1)).bind fun t8 =>
      k_13 x1 (x2 + (1 : Int32)) t8) else (
      (fm_183 x3 σ).bind fun q11 =>
      (fx_st q11.2 245 (((9 : Int32) * x2) + x3) q11.1).bind fun t12 =>
      if (8 : Int32) ≤ x3 then (
        fm_217_67 (fm_217_29 k_13 n) x2 x3 x1 (0 : Int32) t12) else (
        (fm_183 x3 t12).bind fun q17 =>
        fm_217_67 (fm_217_29 k_13 n) x2 x3 x1 q17.1 q17.2))
theorem fe_217_29 {d : Nat} (hd : 31 ≤ d) {k_13 : Int32 → Int32 → fx_S → Option (Int32 × fx_S)} (hk_13 : ∀ (x1 : Int32) (x2 : Int32) (o3 : Option Value) (σ : fx_S) (q : Int32 × fx_S), k_13 x1 x2 σ = some q → fx_E none 217 d 13 [some (.ref 215), some (.int x1), some (.int x2), o3] [] σ (some (.int q.1)) q.2) : ∀ (n : Nat) (x1 : Int32) (x2 : Int32) (x3 : Int32) (σ : fx_S) (q : Int32 × fx_S), fm_217_29 k_13 n x1 x2 x3 σ = some q → fx_E none 217 d 29 [some (.ref 215), some (.int x1), some (.int x2), some (.int x3)] [] σ (some (.int q.1)) q.2 := by
  intro n
  induction n with
  | zero =>
    intro x1 x2 x3 σ q  h
    rw [fm_217_29] at h
    exact fx_no h
  | succ n ih =>
    intro x1 x2 x3 σ q  h
    rw [fm_217_29] at h
    refine fs_iload_n (k := 3) (p := 30) (by decide +kernel) rfl rfl ?_
    refine fs_bipush (n := 9) (p := 32) (by decide +kernel) rfl kb_9 ?_
    by_cases c2 : (9 : Int32) ≤ x3
    · rw [if_pos c2] at h
      refine fs_icmp_ge_t (off := 43) (t := 75) (by decide +kernel) (by decide +kernel) c2 ?_
      refine fs_aload_n (k := 0) (p := 76) (by decide +kernel) rfl rfl ?_
      refine fs_gfr (idx := 100) (ci := 10) (j := 46) (p := 79) (by decide +kernel) rfl (by decide +kernel) fo_215 (fr_a215_46) ?_
      refine fs_bipush (n := 9) (p := 81) (by decide +kernel) rfl kb_9 ?_
      refine fs_iload_n (k := 2) (p := 82) (by decide +kernel) rfl rfl ?_
      refine fs_imul (p := 83) (by decide +kernel) rfl ?_
      refine fs_bipush (n := 8) (p := 85) (by decide +kernel) rfl kb_8 ?_
      refine fs_iadd (p := 86) (by decide +kernel) rfl ?_
      refine fs_dup2 (p := 87) (by decide +kernel) rfl rfl rfl ?_
      obtain ⟨v3, w4, h⟩ := fx_bd h
      refine fs_iaload (p := 88) (by decide +kernel) rfl w4 ?_
      refine fs_aload_n (k := 0) (p := 89) (by decide +kernel) rfl rfl ?_
      refine fs_iload_n (k := 2) (p := 90) (by decide +kernel) rfl rfl ?_
      obtain ⟨q7, w6, h⟩ := fx_bd h
      refine fs_callV (idx := 284) (mj := 176) (ci := 10) (na := 1) (mx := 2) (p := 93) (args := [.ref 215, .int x2]) (rest := [.int v3, .int (((9 : Int32) * x2) + (8 : Int32)), .ref 245]) (al2 := [some (.ref 215), some (.int x2)]) (by decide +kernel) rfl (by decide +kernel) fo_215 rfl rfl rfl rfl rfl rfl rfl (by omega) (fun d' hd' => fe_176 (by omega) w6) rfl ?_
      refine fs_iadd (p := 94) (by decide +kernel) rfl ?_
      obtain ⟨t8, w9, h⟩ := fx_bd h
      refine fs_iastore (p := 95) (by decide +kernel) rfl w9 ?_
      refine fs_iinc (k := 2) (n := 1) (p := 98) (M := 4) (al' := [some (.ref 215), some (.int x1), some (.int (x2 + (1 : Int32))), some (.int x3)]) (by decide +kernel) rfl kc_1 mx_217 rfl rfl rfl ?_
      refine fs_goto (off := -85) (p := 13) (by decide +kernel) (by decide +kernel) ?_
      exact hk_13 _ _ _ _ _ h
    · rw [if_neg c2] at h
      refine fs_icmp_ge_f (off := 43) (t := 75) (p := 35) (by decide +kernel) (by decide +kernel) rfl c2 ?_
      refine fs_aload_n (k := 0) (p := 36) (by decide +kernel) rfl rfl ?_
      refine fs_gfr (idx := 100) (ci := 10) (j := 46) (p := 39) (by decide +kernel) rfl (by decide +kernel) fo_215 (fr_a215_46) ?_
      refine fs_bipush (n := 9) (p := 41) (by decide +kernel) rfl kb_9 ?_
      refine fs_iload_n (k := 2) (p := 42) (by decide +kernel) rfl rfl ?_
      refine fs_imul (p := 43) (by decide +kernel) rfl ?_
      refine fs_iload_n (k := 3) (p := 44) (by decide +kernel) rfl rfl ?_
      refine fs_iadd (p := 45) (by decide +kernel) rfl ?_
      refine fs_aload_n (k := 0) (p := 46) (by decide +kernel) rfl rfl ?_
      refine fs_iload_n (k := 3) (p := 47) (by decide +kernel) rfl rfl ?_
      obtain ⟨q11, w10, h⟩ := fx_bd h
      refine fs_callV (idx := 321) (mj := 183) (ci := 10) (na := 1) (mx := 4) (p := 50) (args := [.ref 215, .int x3]) (rest := [.int (((9 : Int32) * x2) + x3), .ref 245]) (al2 := [some (.ref 215), some (.int x3), none, none]) (by decide +kernel) rfl (by decide +kernel) fo_215 rfl rfl rfl rfl rfl rfl rfl (by omega) (fun d' hd' => fe_183 (by omega) w10) rfl ?_
      obtain ⟨t12, w13, h⟩ := fx_bd h
      refine fs_iastore (p := 51) (by decide +kernel) rfl w13 ?_
      refine fs_iload_n (k := 1) (p := 52) (by decide +kernel) rfl rfl ?_
      refine fs_iload_n (k := 3) (p := 53) (by decide +kernel) rfl rfl ?_
      refine fs_bipush (n := 8) (p := 55) (by decide +kernel) rfl kb_8 ?_
      by_cases c15 : (8 : Int32) ≤ x3
      · rw [if_pos c15] at h
        refine fs_icmp_ge_t (off := 11) (t := 66) (by decide +kernel) (by decide +kernel) c15 ?_
        refine fs_iconst (n := 0) (p := 67) (by decide +kernel) rfl kc_0 ?_
        exact fe_217_67 hd ih _ _ _ _ _ _ _ h
      · rw [if_neg c15] at h
        refine fs_icmp_ge_f (off := 11) (t := 66) (p := 58) (by decide +kernel) (by decide +kernel) rfl c15 ?_
        refine fs_aload_n (k := 0) (p := 59) (by decide +kernel) rfl rfl ?_
        refine fs_iload_n (k := 3) (p := 60) (by decide +kernel) rfl rfl ?_
        obtain ⟨q17, w16, h⟩ := fx_bd h
        refine fs_callV (idx := 321) (mj := 183) (ci := 10) (na := 1) (mx := 4) (p := 63) (args := [.ref 215, .int x3]) (rest := [.int x1]) (al2 := [some (.ref 215), some (.int x3), none, none]) (by decide +kernel) rfl (by decide +kernel) fo_215 rfl rfl rfl rfl rfl rfl rfl (by omega) (fun d' hd' => fe_183 (by omega) w16) rfl ?_
        refine fs_goto (off := 4) (p := 67) (by decide +kernel) (by decide +kernel) ?_
        exact fe_217_67 hd ih _ _ _ _ _ _ _ h
def fm_217_13 : Nat → Int32 → Int32 → fx_S → Option (Int32 × fx_S)
  | 0, _, _, _ => none
  | n + 1, x1, x2, σ =>
    if (3 : Int32) ≤ x2 then (
      (fm_132 σ).bind fun q4 =>
      fm_217_107 100000 x1 (0 : Int32) q4) else (
      (fm_181 x2 σ).bind fun q6 =>
      (fm_173 q6).bind fun q8 =>
      fm_217_29 (fm_217_13 n) 100000 x1 x2 (0 : Int32) q8)
theorem fe_217_13 {d : Nat} (hd : 31 ≤ d) : ∀ (n : Nat) (x1 : Int32) (x2 : Int32) (o3 : Option Value) (σ : fx_S) (q : Int32 × fx_S), fm_217_13 n x1 x2 σ = some q → fx_E none 217 d 13 [some (.ref 215), some (.int x1), some (.int x2), o3] [] σ (some (.int q.1)) q.2 := by
  intro n
  induction n with
  | zero =>
    intro x1 x2 o3 σ q  h
    rw [fm_217_13] at h
    exact fx_no h
  | succ n ih =>
    intro x1 x2 o3 σ q  h
    rw [fm_217_13] at h
    refine fs_iload_n (k := 2) (p := 14) (by decide +kernel) rfl rfl ?_
    refine fs_iconst (n := 3) (p := 15) (by decide +kernel) rfl kc_3 ?_
    by_cases c2 : (3 : Int32) ≤ x2
    · rw [if_pos c2] at h
      refine fs_icmp_ge_t (off := 86) (t := 101) (by decide +kernel) (by decide +kernel) c2 ?_
      refine fs_aload_n (k := 0) (p := 102) (by decide +kernel) rfl rfl ?_
      obtain ⟨q4, w3, h⟩ := fx_bd h
      refine fs_callV (idx := 170) (mj := 132) (ci := 10) (na := 0) (mx := 2) (p := 105) (args := [.ref 215]) (rest := []) (al2 := [some (.ref 215), none]) (by decide +kernel) rfl (by decide +kernel) fo_215 rfl rfl rfl rfl rfl rfl rfl (by omega) (fun d' hd' => fe_132 (by omega) w3) rfl ?_
      refine fs_iconst (n := 0) (p := 106) (by decide +kernel) rfl kc_0 ?_
      refine fs_istore_n (k := 2) (p := 107) (M := 4) (al' := [some (.ref 215), some (.int x1), some (.int (0 : Int32)), o3]) (by decide +kernel) rfl mx_217 rfl rfl ?_
      exact fe_217_107 hd 100000 _ _ _ _ _ h
    · rw [if_neg c2] at h
      refine fs_icmp_ge_f (off := 86) (t := 101) (p := 18) (by decide +kernel) (by decide +kernel) rfl c2 ?_
      refine fs_aload_n (k := 0) (p := 19) (by decide +kernel) rfl rfl ?_
      refine fs_iload_n (k := 2) (p := 20) (by decide +kernel) rfl rfl ?_
      obtain ⟨q6, w5, h⟩ := fx_bd h
      refine fs_callV (idx := 312) (mj := 181) (ci := 10) (na := 1) (mx := 5) (p := 23) (args := [.ref 215, .int x2]) (rest := []) (al2 := [some (.ref 215), some (.int x2), none, none, none]) (by decide +kernel) rfl (by decide +kernel) fo_215 rfl rfl rfl rfl rfl rfl rfl (by omega) (fun d' hd' => fe_181 (by omega) w5) rfl ?_
      refine fs_aload_n (k := 0) (p := 24) (by decide +kernel) rfl rfl ?_
      obtain ⟨q8, w7, h⟩ := fx_bd h
      refine fs_callV (idx := 315) (mj := 173) (ci := 10) (na := 0) (mx := 2) (p := 27) (args := [.ref 215]) (rest := []) (al2 := [some (.ref 215), none]) (by decide +kernel) rfl (by decide +kernel) fo_215 rfl rfl rfl rfl rfl rfl rfl (by omega) (fun d' hd' => fe_173 (by omega) w7) rfl ?_
      refine fs_iconst (n := 0) (p := 28) (by decide +kernel) rfl kc_0 ?_
      refine fs_istore_n (k := 3) (p := 29) (M := 4) (al' := [some (.ref 215), some (.int x1), some (.int x2), some (.int (0 : Int32))]) (by decide +kernel) rfl mx_217 rfl rfl ?_
      exact fe_217_29 hd ih 100000 _ _ _ _ _ h
def fm_217 (σ : fx_S) : Option (Int32 × fx_S) :=
  (fm_150 σ).bind fun q62 =>
  if ¬ (fx_b q62.1) = 0 then (
    fm_217_13 100000 (0 : Int32) (0 : Int32) q62.2) else (
    some ((-1 : Int32), q62.2))
theorem fe_217 {d : Nat} (hd : 31 ≤ d) {σ : fx_S} {q : Int32 × fx_S} (h : fm_217 σ = some q) : fx_E none 217 d 0 [some (.ref 215), none, none, none] [] σ (some (.int q.1)) q.2 := by
  unfold fm_217 at h
  refine fs_aload_n (k := 0) (p := 1) (by decide +kernel) rfl rfl ?_
  obtain ⟨q62, w61, h⟩ := fx_bd h
  refine fs_callV (idx := 303) (mj := 150) (ci := 10) (na := 0) (mx := 1) (p := 4) (args := [.ref 215]) (rest := []) (al2 := [some (.ref 215)]) (by decide +kernel) rfl (by decide +kernel) fo_215 rfl rfl rfl rfl rfl rfl rfl (by omega) (fun d' hd' => fe_150 (by omega) w61) rfl ?_
  by_cases c63 : ¬ (fx_b q62.1) = 0
  · rw [if_pos c63] at h
    refine fs_if_ne_t (off := 5) (t := 9) (by decide +kernel) (by decide +kernel) c63 ?_
    refine fs_iconst (n := 0) (p := 10) (by decide +kernel) rfl kc_0 ?_
    refine fs_istore_n (k := 1) (p := 11) (M := 4) (al' := [some (.ref 215), some (.int (0 : Int32)), none, none]) (by decide +kernel) rfl mx_217 rfl rfl ?_
    refine fs_iconst (n := 0) (p := 12) (by decide +kernel) rfl kc_0 ?_
    refine fs_istore_n (k := 2) (p := 13) (M := 4) (al' := [some (.ref 215), some (.int (0 : Int32)), some (.int (0 : Int32)), none]) (by decide +kernel) rfl mx_217 rfl rfl ?_
    exact fe_217_13 hd 100000 _ _ _ _ _ h
  · rw [if_neg c63] at h
    refine fs_if_ne_f (off := 5) (t := 9) (p := 7) (by decide +kernel) (by decide +kernel) rfl c63 ?_
    refine fs_iconst (n := -1) (p := 8) (by decide +kernel) rfl kc_m1 ?_
    have h := Option.some.inj h
    subst h
    exact fs_iret (by decide +kernel) rt_217
end
section
/-! ZoneSharesModel.movedAll()I -/
theorem mx_224 : iv_mx 224 = 3 := by decide +kernel
theorem rt_224 : iv_rt 224 = some .int := by decide +kernel
def fm_224_38 (x1 : Int32) (σ : fx_S) : Option (Int32 × fx_S) :=
  some (x1, σ)
theorem fe_224_38 {d : Nat} (hd : 31 ≤ d) (x1 : Int32) (o0 : Option Value) (o2 : Option Value) (σ : fx_S) (q : Int32 × fx_S) (h : fm_224_38  x1 σ = some q) : fx_E none 224 d 38 [o0, some (.int x1), o2] [] σ (some (.int q.1)) q.2 := by
  unfold fm_224_38 at h
  refine fs_iload_n (k := 1) (p := 39) (by decide +kernel) rfl rfl ?_
  have h := Option.some.inj h
  subst h
  exact fs_iret (by decide +kernel) rt_224
def fm_224_4 : Nat → Int32 → Int32 → fx_S → Option (Int32 × fx_S)
  | 0, _, _, _ => none
  | n + 1, x1, x2, σ =>
    if (3 : Int32) ≤ x2 then (
      fm_224_38 x1 σ) else (
      (fm_150 σ).bind fun q4 =>
      if (fx_b q4.1) = 0 then (
        fm_224_38 x1 q4.2) else (
        (fm_181 x2 q4.2).bind fun q7 =>
        (fm_173 q7).bind fun q9 =>
        (fm_184 q9).bind fun q11 =>
        fm_224_4 n (x1 + q11.1) (x2 + (1 : Int32)) q11.2))
theorem fe_224_4 {d : Nat} (hd : 31 ≤ d) : ∀ (n : Nat) (x1 : Int32) (x2 : Int32) (σ : fx_S) (q : Int32 × fx_S), fm_224_4 n x1 x2 σ = some q → fx_E none 224 d 4 [some (.ref 215), some (.int x1), some (.int x2)] [] σ (some (.int q.1)) q.2 := by
  intro n
  induction n with
  | zero =>
    intro x1 x2 σ q  h
    rw [fm_224_4] at h
    exact fx_no h
  | succ n ih =>
    intro x1 x2 σ q  h
    rw [fm_224_4] at h
    refine fs_iload_n (k := 2) (p := 5) (by decide +kernel) rfl rfl ?_
    refine fs_iconst (n := 3) (p := 6) (by decide +kernel) rfl kc_3 ?_
    by_cases c2 : (3 : Int32) ≤ x2
    · rw [if_pos c2] at h
      refine fs_icmp_ge_t (off := 32) (t := 38) (by decide +kernel) (by decide +kernel) c2 ?_
      exact fe_224_38 hd _ _ _ _ _ h
    · rw [if_neg c2] at h
      refine fs_icmp_ge_f (off := 32) (t := 38) (p := 9) (by decide +kernel) (by decide +kernel) rfl c2 ?_
      refine fs_aload_n (k := 0) (p := 10) (by decide +kernel) rfl rfl ?_
      obtain ⟨q4, w3, h⟩ := fx_bd h
      refine fs_callV (idx := 303) (mj := 150) (ci := 10) (na := 0) (mx := 1) (p := 13) (args := [.ref 215]) (rest := []) (al2 := [some (.ref 215)]) (by decide +kernel) rfl (by decide +kernel) fo_215 rfl rfl rfl rfl rfl rfl rfl (by omega) (fun d' hd' => fe_150 (by omega) w3) rfl ?_
      by_cases c5 : (fx_b q4.1) = 0
      · rw [if_pos c5] at h
        refine fs_if_eq_t (off := 25) (t := 38) (by decide +kernel) (by decide +kernel) c5 ?_
        exact fe_224_38 hd _ _ _ _ _ h
      · rw [if_neg c5] at h
        refine fs_if_eq_f (off := 25) (t := 38) (p := 16) (by decide +kernel) (by decide +kernel) rfl c5 ?_
        refine fs_aload_n (k := 0) (p := 17) (by decide +kernel) rfl rfl ?_
        refine fs_iload_n (k := 2) (p := 18) (by decide +kernel) rfl rfl ?_
        obtain ⟨q7, w6, h⟩ := fx_bd h
        refine fs_callV (idx := 312) (mj := 181) (ci := 10) (na := 1) (mx := 5) (p := 21) (args := [.ref 215, .int x2]) (rest := []) (al2 := [some (.ref 215), some (.int x2), none, none, none]) (by decide +kernel) rfl (by decide +kernel) fo_215 rfl rfl rfl rfl rfl rfl rfl (by omega) (fun d' hd' => fe_181 (by omega) w6) rfl ?_
        refine fs_aload_n (k := 0) (p := 22) (by decide +kernel) rfl rfl ?_
        obtain ⟨q9, w8, h⟩ := fx_bd h
        refine fs_callV (idx := 315) (mj := 173) (ci := 10) (na := 0) (mx := 2) (p := 25) (args := [.ref 215]) (rest := []) (al2 := [some (.ref 215), none]) (by decide +kernel) rfl (by decide +kernel) fo_215 rfl rfl rfl rfl rfl rfl rfl (by omega) (fun d' hd' => fe_173 (by omega) w8) rfl ?_
        refine fs_iload_n (k := 1) (p := 26) (by decide +kernel) rfl rfl ?_
        refine fs_aload_n (k := 0) (p := 27) (by decide +kernel) rfl rfl ?_
        obtain ⟨q11, w10, h⟩ := fx_bd h
        refine fs_callV (idx := 318) (mj := 184) (ci := 10) (na := 0) (mx := 3) (p := 30) (args := [.ref 215]) (rest := [.int x1]) (al2 := [some (.ref 215), none, none]) (by decide +kernel) rfl (by decide +kernel) fo_215 rfl rfl rfl rfl rfl rfl rfl (by omega) (fun d' hd' => fe_184 (by omega) w10) rfl ?_
        refine fs_iadd (p := 31) (by decide +kernel) rfl ?_
        refine fs_istore_n (k := 1) (p := 32) (M := 3) (al' := [some (.ref 215), some (.int (x1 + q11.1)), some (.int x2)]) (by decide +kernel) rfl mx_224 rfl rfl ?_
        refine fs_iinc (k := 2) (n := 1) (p := 35) (M := 3) (al' := [some (.ref 215), some (.int (x1 + q11.1)), some (.int (x2 + (1 : Int32)))]) (by decide +kernel) rfl kc_1 mx_224 rfl rfl rfl ?_
        refine fs_goto (off := -31) (p := 4) (by decide +kernel) (by decide +kernel) ?_
        exact ih _ _ _ _ h
def fm_224 (σ : fx_S) : Option (Int32 × fx_S) :=
  fm_224_4 100000 (0 : Int32) (0 : Int32) σ
theorem fe_224 {d : Nat} (hd : 31 ≤ d) {σ : fx_S} {q : Int32 × fx_S} (h : fm_224 σ = some q) : fx_E none 224 d 0 [some (.ref 215), none, none] [] σ (some (.int q.1)) q.2 := by
  unfold fm_224 at h
  refine fs_iconst (n := 0) (p := 1) (by decide +kernel) rfl kc_0 ?_
  refine fs_istore_n (k := 1) (p := 2) (M := 3) (al' := [some (.ref 215), some (.int (0 : Int32)), none]) (by decide +kernel) rfl mx_224 rfl rfl ?_
  refine fs_iconst (n := 0) (p := 3) (by decide +kernel) rfl kc_0 ?_
  refine fs_istore_n (k := 2) (p := 4) (M := 3) (al' := [some (.ref 215), some (.int (0 : Int32)), some (.int (0 : Int32))]) (by decide +kernel) rfl mx_224 rfl rfl ?_
  exact fe_224_4 hd 100000 _ _ _ _ h

/-! ZoneSharesModel.count(I)I -/
theorem mx_226 : iv_mx 226 = 2 := by decide +kernel
theorem rt_226 : iv_rt 226 = some .int := by decide +kernel
def fm_226 (x1 : Int32) (σ : fx_S) : Option (Int32 × fx_S) :=
  if x1 = (0 : Int32) then (
    (fm_151 σ).bind fun q66 =>
    some (q66.1, q66.2)) else (
    if x1 = (1 : Int32) then (
      (fx_ld σ 216 (0 : Int32)).bind fun v63 =>
      some (v63, σ)) else (
      if x1 = (2 : Int32) then (
        (fm_154 (0 : Int32) (8 : Int32) σ).bind fun q62 =>
        some (q62.1, q62.2)) else (
        if x1 = (3 : Int32) then (
          (fm_154 (1 : Int32) (8 : Int32) σ).bind fun q60 =>
          some (q60.1, q60.2)) else (
          if x1 = (4 : Int32) then (
            (fm_154 (2 : Int32) (4 : Int32) σ).bind fun q58 =>
            some (q58.1, q58.2)) else (
            if x1 = (5 : Int32) then (
              (fx_ld σ 216 (3 : Int32)).bind fun v55 =>
              some (v55, σ)) else (
              if x1 = (6 : Int32) then (
                (fx_ld σ 216 (4 : Int32)).bind fun v53 =>
                some (v53, σ)) else (
                if x1 = (7 : Int32) then (
                  (fx_ld σ 216 (2 : Int32)).bind fun v51 =>
                  some (v51, σ)) else (
                  if x1 = (8 : Int32) then (
                    some ((σ.1 215 2), σ)) else (
                    if x1 = (9 : Int32) then (
                      some ((σ.1 215 4), σ)) else (
                      if x1 = (10 : Int32) then (
                        (fm_224 σ).bind fun q50 =>
                        some (q50.1, q50.2)) else (
                        if x1 = (11 : Int32) then (
                          (fm_225 σ).bind fun q48 =>
                          some (q48.1, q48.2)) else (
                          some ((-1 : Int32), σ)))))))))))))
theorem fe_226 {d : Nat} (hd : 32 ≤ d) {x1 : Int32} {σ : fx_S} {q : Int32 × fx_S} (h : fm_226 x1 σ = some q) : fx_E none 226 d 0 [some (.ref 215), some (.int x1)] [] σ (some (.int q.1)) q.2 := by
  unfold fm_226 at h
  refine fs_iload_n (k := 1) (p := 1) (by decide +kernel) rfl rfl ?_
  by_cases c34 : x1 = (0 : Int32)
  · rw [if_pos c34] at h
    refine fs_tsw_h (dflt := 139) (lo := 0) (hi := 11) (offs := #[63, 68, 75, 83, 91, 98, 105, 112, 119, 124, 129, 134]) (x := x1) (j := 0) (t := 64) (by decide +kernel) (by decide +kernel) (by decide) (c34.trans (by decide)) ?_
    refine fs_aload_n (k := 0) (p := 65) (by decide +kernel) rfl rfl ?_
    obtain ⟨q66, w65, h⟩ := fx_bd h
    refine fs_callV (idx := 196) (mj := 151) (ci := 10) (na := 0) (mx := 1) (p := 68) (args := [.ref 215]) (rest := []) (al2 := [some (.ref 215)]) (by decide +kernel) rfl (by decide +kernel) fo_215 rfl rfl rfl rfl rfl rfl rfl (by omega) (fun d' hd' => fe_151 (by omega) w65) rfl ?_
    have h := Option.some.inj h
    subst h
    exact fs_iret (by decide +kernel) rt_226
  · rw [if_neg c34] at h
    by_cases c35 : x1 = (1 : Int32)
    · rw [if_pos c35] at h
      refine fs_tsw_h (dflt := 139) (lo := 0) (hi := 11) (offs := #[63, 68, 75, 83, 91, 98, 105, 112, 119, 124, 129, 134]) (x := x1) (j := 1) (t := 69) (by decide +kernel) (by decide +kernel) (by decide) (c35.trans (by decide)) ?_
      refine fs_aload_n (k := 0) (p := 70) (by decide +kernel) rfl rfl ?_
      refine fs_gfr (idx := 9) (ci := 10) (j := 0) (p := 73) (by decide +kernel) rfl (by decide +kernel) fo_215 (fr_a215_0) ?_
      refine fs_iconst (n := 0) (p := 74) (by decide +kernel) rfl kc_0 ?_
      obtain ⟨v63, w64, h⟩ := fx_bd h
      refine fs_iaload (p := 75) (by decide +kernel) rfl w64 ?_
      have h := Option.some.inj h
      subst h
      exact fs_iret (by decide +kernel) rt_226
    · rw [if_neg c35] at h
      by_cases c36 : x1 = (2 : Int32)
      · rw [if_pos c36] at h
        refine fs_tsw_h (dflt := 139) (lo := 0) (hi := 11) (offs := #[63, 68, 75, 83, 91, 98, 105, 112, 119, 124, 129, 134]) (x := x1) (j := 2) (t := 76) (by decide +kernel) (by decide +kernel) (by decide) (c36.trans (by decide)) ?_
        refine fs_aload_n (k := 0) (p := 77) (by decide +kernel) rfl rfl ?_
        refine fs_iconst (n := 0) (p := 78) (by decide +kernel) rfl kc_0 ?_
        refine fs_bipush (n := 8) (p := 80) (by decide +kernel) rfl kb_8 ?_
        obtain ⟨q62, w61, h⟩ := fx_bd h
        refine fs_callV (idx := 267) (mj := 154) (ci := 10) (na := 2) (mx := 5) (p := 83) (args := [.ref 215, .int (0 : Int32), .int (8 : Int32)]) (rest := []) (al2 := [some (.ref 215), some (.int (0 : Int32)), some (.int (8 : Int32)), none, none]) (by decide +kernel) rfl (by decide +kernel) fo_215 rfl rfl rfl rfl rfl rfl rfl (by omega) (fun d' hd' => fe_154 (by omega) w61) rfl ?_
        have h := Option.some.inj h
        subst h
        exact fs_iret (by decide +kernel) rt_226
      · rw [if_neg c36] at h
        by_cases c37 : x1 = (3 : Int32)
        · rw [if_pos c37] at h
          refine fs_tsw_h (dflt := 139) (lo := 0) (hi := 11) (offs := #[63, 68, 75, 83, 91, 98, 105, 112, 119, 124, 129, 134]) (x := x1) (j := 3) (t := 84) (by decide +kernel) (by decide +kernel) (by decide) (c37.trans (by decide)) ?_
          refine fs_aload_n (k := 0) (p := 85) (by decide +kernel) rfl rfl ?_
          refine fs_iconst (n := 1) (p := 86) (by decide +kernel) rfl kc_1 ?_
          refine fs_bipush (n := 8) (p := 88) (by decide +kernel) rfl kb_8 ?_
          obtain ⟨q60, w59, h⟩ := fx_bd h
          refine fs_callV (idx := 267) (mj := 154) (ci := 10) (na := 2) (mx := 5) (p := 91) (args := [.ref 215, .int (1 : Int32), .int (8 : Int32)]) (rest := []) (al2 := [some (.ref 215), some (.int (1 : Int32)), some (.int (8 : Int32)), none, none]) (by decide +kernel) rfl (by decide +kernel) fo_215 rfl rfl rfl rfl rfl rfl rfl (by omega) (fun d' hd' => fe_154 (by omega) w59) rfl ?_
          have h := Option.some.inj h
          subst h
          exact fs_iret (by decide +kernel) rt_226
        · rw [if_neg c37] at h
          by_cases c38 : x1 = (4 : Int32)
          · rw [if_pos c38] at h
            refine fs_tsw_h (dflt := 139) (lo := 0) (hi := 11) (offs := #[63, 68, 75, 83, 91, 98, 105, 112, 119, 124, 129, 134]) (x := x1) (j := 4) (t := 92) (by decide +kernel) (by decide +kernel) (by decide) (c38.trans (by decide)) ?_
            refine fs_aload_n (k := 0) (p := 93) (by decide +kernel) rfl rfl ?_
            refine fs_iconst (n := 2) (p := 94) (by decide +kernel) rfl kc_2 ?_
            refine fs_iconst (n := 4) (p := 95) (by decide +kernel) rfl kc_4 ?_
            obtain ⟨q58, w57, h⟩ := fx_bd h
            refine fs_callV (idx := 267) (mj := 154) (ci := 10) (na := 2) (mx := 5) (p := 98) (args := [.ref 215, .int (2 : Int32), .int (4 : Int32)]) (rest := []) (al2 := [some (.ref 215), some (.int (2 : Int32)), some (.int (4 : Int32)), none, none]) (by decide +kernel) rfl (by decide +kernel) fo_215 rfl rfl rfl rfl rfl rfl rfl (by omega) (fun d' hd' => fe_154 (by omega) w57) rfl ?_
            have h := Option.some.inj h
            subst h
            exact fs_iret (by decide +kernel) rt_226
          · rw [if_neg c38] at h
            by_cases c39 : x1 = (5 : Int32)
            · rw [if_pos c39] at h
              refine fs_tsw_h (dflt := 139) (lo := 0) (hi := 11) (offs := #[63, 68, 75, 83, 91, 98, 105, 112, 119, 124, 129, 134]) (x := x1) (j := 5) (t := 99) (by decide +kernel) (by decide +kernel) (by decide) (c39.trans (by decide)) ?_
              refine fs_aload_n (k := 0) (p := 100) (by decide +kernel) rfl rfl ?_
              refine fs_gfr (idx := 9) (ci := 10) (j := 0) (p := 103) (by decide +kernel) rfl (by decide +kernel) fo_215 (fr_a215_0) ?_
              refine fs_iconst (n := 3) (p := 104) (by decide +kernel) rfl kc_3 ?_
              obtain ⟨v55, w56, h⟩ := fx_bd h
              refine fs_iaload (p := 105) (by decide +kernel) rfl w56 ?_
              have h := Option.some.inj h
              subst h
              exact fs_iret (by decide +kernel) rt_226
            · rw [if_neg c39] at h
              by_cases c40 : x1 = (6 : Int32)
              · rw [if_pos c40] at h
                refine fs_tsw_h (dflt := 139) (lo := 0) (hi := 11) (offs := #[63, 68, 75, 83, 91, 98, 105, 112, 119, 124, 129, 134]) (x := x1) (j := 6) (t := 106) (by decide +kernel) (by decide +kernel) (by decide) (c40.trans (by decide)) ?_
                refine fs_aload_n (k := 0) (p := 107) (by decide +kernel) rfl rfl ?_
                refine fs_gfr (idx := 9) (ci := 10) (j := 0) (p := 110) (by decide +kernel) rfl (by decide +kernel) fo_215 (fr_a215_0) ?_
                refine fs_iconst (n := 4) (p := 111) (by decide +kernel) rfl kc_4 ?_
                obtain ⟨v53, w54, h⟩ := fx_bd h
                refine fs_iaload (p := 112) (by decide +kernel) rfl w54 ?_
                have h := Option.some.inj h
                subst h
                exact fs_iret (by decide +kernel) rt_226
              · rw [if_neg c40] at h
                by_cases c41 : x1 = (7 : Int32)
                · rw [if_pos c41] at h
                  refine fs_tsw_h (dflt := 139) (lo := 0) (hi := 11) (offs := #[63, 68, 75, 83, 91, 98, 105, 112, 119, 124, 129, 134]) (x := x1) (j := 7) (t := 113) (by decide +kernel) (by decide +kernel) (by decide) (c41.trans (by decide)) ?_
                  refine fs_aload_n (k := 0) (p := 114) (by decide +kernel) rfl rfl ?_
                  refine fs_gfr (idx := 9) (ci := 10) (j := 0) (p := 117) (by decide +kernel) rfl (by decide +kernel) fo_215 (fr_a215_0) ?_
                  refine fs_iconst (n := 2) (p := 118) (by decide +kernel) rfl kc_2 ?_
                  obtain ⟨v51, w52, h⟩ := fx_bd h
                  refine fs_iaload (p := 119) (by decide +kernel) rfl w52 ?_
                  have h := Option.some.inj h
                  subst h
                  exact fs_iret (by decide +kernel) rt_226
                · rw [if_neg c41] at h
                  by_cases c42 : x1 = (8 : Int32)
                  · rw [if_pos c42] at h
                    refine fs_tsw_h (dflt := 139) (lo := 0) (hi := 11) (offs := #[63, 68, 75, 83, 91, 98, 105, 112, 119, 124, 129, 134]) (x := x1) (j := 8) (t := 120) (by decide +kernel) (by decide +kernel) (by decide) (c42.trans (by decide)) ?_
                    refine fs_aload_n (k := 0) (p := 121) (by decide +kernel) rfl rfl ?_
                    refine fs_gfi (idx := 103) (ci := 10) (j := 2) (p := 124) (by decide +kernel) rfl (by decide +kernel) fo_215 ?_
                    have h := Option.some.inj h
                    subst h
                    exact fs_iret (by decide +kernel) rt_226
                  · rw [if_neg c42] at h
                    by_cases c43 : x1 = (9 : Int32)
                    · rw [if_pos c43] at h
                      refine fs_tsw_h (dflt := 139) (lo := 0) (hi := 11) (offs := #[63, 68, 75, 83, 91, 98, 105, 112, 119, 124, 129, 134]) (x := x1) (j := 9) (t := 125) (by decide +kernel) (by decide +kernel) (by decide) (c43.trans (by decide)) ?_
                      refine fs_aload_n (k := 0) (p := 126) (by decide +kernel) rfl rfl ?_
                      refine fs_gfi (idx := 107) (ci := 10) (j := 4) (p := 129) (by decide +kernel) rfl (by decide +kernel) fo_215 ?_
                      have h := Option.some.inj h
                      subst h
                      exact fs_iret (by decide +kernel) rt_226
                    · rw [if_neg c43] at h
                      by_cases c44 : x1 = (10 : Int32)
                      · rw [if_pos c44] at h
                        refine fs_tsw_h (dflt := 139) (lo := 0) (hi := 11) (offs := #[63, 68, 75, 83, 91, 98, 105, 112, 119, 124, 129, 134]) (x := x1) (j := 10) (t := 130) (by decide +kernel) (by decide +kernel) (by decide) (c44.trans (by decide)) ?_
                        refine fs_aload_n (k := 0) (p := 131) (by decide +kernel) rfl rfl ?_
                        obtain ⟨q50, w49, h⟩ := fx_bd h
                        refine fs_callV (idx := 449) (mj := 224) (ci := 10) (na := 0) (mx := 3) (p := 134) (args := [.ref 215]) (rest := []) (al2 := [some (.ref 215), none, none]) (by decide +kernel) rfl (by decide +kernel) fo_215 rfl rfl rfl rfl rfl rfl rfl (by omega) (fun d' hd' => fe_224 (by omega) w49) rfl ?_
                        have h := Option.some.inj h
                        subst h
                        exact fs_iret (by decide +kernel) rt_226
                      · rw [if_neg c44] at h
                        by_cases c45 : x1 = (11 : Int32)
                        · rw [if_pos c45] at h
                          refine fs_tsw_h (dflt := 139) (lo := 0) (hi := 11) (offs := #[63, 68, 75, 83, 91, 98, 105, 112, 119, 124, 129, 134]) (x := x1) (j := 11) (t := 135) (by decide +kernel) (by decide +kernel) (by decide) (c45.trans (by decide)) ?_
                          refine fs_aload_n (k := 0) (p := 136) (by decide +kernel) rfl rfl ?_
                          obtain ⟨q48, w47, h⟩ := fx_bd h
                          refine fs_callV (idx := 452) (mj := 225) (ci := 10) (na := 0) (mx := 3) (p := 139) (args := [.ref 215]) (rest := []) (al2 := [some (.ref 215), none, none]) (by decide +kernel) rfl (by decide +kernel) fo_215 rfl rfl rfl rfl rfl rfl rfl (by omega) (fun d' hd' => fe_225 (by omega) w47) rfl ?_
                          have h := Option.some.inj h
                          subst h
                          exact fs_iret (by decide +kernel) rt_226
                        · rw [if_neg c45] at h
                          refine fs_tsw_d (dflt := 139) (lo := 0) (hi := 11) (offs := #[63, 68, 75, 83, 91, 98, 105, 112, 119, 124, 129, 134]) (x := x1) (t := 140) (by decide +kernel) (by decide +kernel) (by decide) (by decide) (fun j hj => by match j, hj with | 0, _ => exact c34 | 1, _ => exact c35 | 2, _ => exact c36 | 3, _ => exact c37 | 4, _ => exact c38 | 5, _ => exact c39 | 6, _ => exact c40 | 7, _ => exact c41 | 8, _ => exact c42 | 9, _ => exact c43 | 10, _ => exact c44 | 11, _ => exact c45) ?_
                          refine fs_iconst (n := -1) (p := 141) (by decide +kernel) rfl kc_m1 ?_
                          have h := Option.some.inj h
                          subst h
                          exact fs_iret (by decide +kernel) rt_226
end
section
/-! ZoneShares$Bits.of(DII)J -/
theorem mx_2 : iv_mx 2 = 9 := by decide +kernel
theorem rt_2 : iv_rt 2 = some .long := by decide +kernel
def fm_2_64 (x2 : Int32) (x3 : Int32) (x4 : UInt64) (x6 : Int32) (σ : fx_S) : Option (Int64 × fx_S) :=
  if 0 ≤ (Op.cmpValue (FP.dcmp x4 FP.dconst1) .g) then (
    if id_n6 (FP.dsub x4 FP.dconst1) = true then (
    if id_n6 (FP.dmul (FP.dsub x4 FP.dconst1) (FP.l2d ((1 : Int64) <<< ((x3).toInt64 &&& 63)))) = true then (
    some (((((x6 + x2)).toInt64 <<< ((x3).toInt64 &&& 63)) + (FP.d2l (FP.dmul (FP.dsub x4 FP.dconst1) (FP.l2d ((1 : Int64) <<< ((x3).toInt64 &&& 63)))))), σ)) else none) else none) else (
    if id_n6 (FP.dmul x4 (FP.l2d ((1 : Int64) <<< ((x3).toInt64 &&& 63)))) = true then (
    some ((FP.d2l (FP.dmul x4 (FP.l2d ((1 : Int64) <<< ((x3).toInt64 &&& 63))))), σ)) else none)
theorem fe_2_64 {d : Nat} (hd : 0 ≤ d) (x2 : Int32) (x3 : Int32) (x4 : UInt64) (x6 : Int32) (o0 : Option Value) (σ : fx_S) (q : Int64 × fx_S) (h : fm_2_64  x2 x3 x4 x6 σ = some q) : fx_E none 2 d 64 [o0, none, some (.int x2), some (.int x3), some (.double x4), none, some (.int x6), none, none] [] σ (some (.long q.1)) q.2 := by
  unfold fm_2_64 at h
  refine fs_lconst (n := 1) (p := 65) (by decide +kernel) rfl kl_1 ?_
  refine fs_iload_n (k := 3) (p := 66) (by decide +kernel) rfl rfl ?_
  refine fs_lshl (p := 67) (by decide +kernel) rfl ?_
  refine fs_l2d (p := 68) (by decide +kernel) rfl ?_
  refine fs_dstore (k := 7) (p := 70) (M := 9) (al' := [o0, none, some (.int x2), some (.int x3), some (.double x4), none, some (.int x6), some (.double (FP.l2d ((1 : Int64) <<< ((x3).toInt64 &&& 63)))), none]) (by decide +kernel) rfl mx_2 rfl rfl ?_
  refine fs_dload (k := 4) (p := 72) (by decide +kernel) rfl rfl ?_
  refine fs_dconst (n := 1) (p := 73) (by decide +kernel) rfl rfl ?_
  refine fs_dcmp (c := .g) (p := 74) (by decide +kernel) rfl ?_
  by_cases c1 : 0 ≤ (Op.cmpValue (FP.dcmp x4 FP.dconst1) .g)
  · rw [if_pos c1] at h
    refine fs_if_ge_t (off := 10) (t := 84) (by decide +kernel) (by decide +kernel) c1 ?_
    refine fs_iload (k := 6) (p := 86) (by decide +kernel) rfl rfl ?_
    refine fs_iload_n (k := 2) (p := 87) (by decide +kernel) rfl rfl ?_
    refine fs_iadd (p := 88) (by decide +kernel) rfl ?_
    refine fs_i2l (p := 89) (by decide +kernel) rfl ?_
    refine fs_iload_n (k := 3) (p := 90) (by decide +kernel) rfl rfl ?_
    refine fs_lshl (p := 91) (by decide +kernel) rfl ?_
    refine fs_dload (k := 4) (p := 93) (by decide +kernel) rfl rfl ?_
    refine fs_dconst (n := 1) (p := 94) (by decide +kernel) rfl rfl ?_
    obtain ⟨z4, h⟩ := fx_gd h
    refine fs_dsub (p := 95) (by decide +kernel) rfl z4 ?_
    refine fs_dload (k := 7) (p := 97) (by decide +kernel) rfl rfl ?_
    obtain ⟨z6, h⟩ := fx_gd h
    refine fs_dmul (p := 98) (by decide +kernel) rfl z6 ?_
    refine fs_d2l (p := 99) (by decide +kernel) rfl ?_
    refine fs_ladd (p := 100) (by decide +kernel) rfl ?_
    have h := Option.some.inj h
    subst h
    exact fs_lret (by decide +kernel) rt_2
  · rw [if_neg c1] at h
    refine fs_if_ge_f (off := 10) (t := 84) (p := 77) (by decide +kernel) (by decide +kernel) rfl c1 ?_
    refine fs_dload (k := 4) (p := 79) (by decide +kernel) rfl rfl ?_
    refine fs_dload (k := 7) (p := 81) (by decide +kernel) rfl rfl ?_
    obtain ⟨z8, h⟩ := fx_gd h
    refine fs_dmul (p := 82) (by decide +kernel) rfl z8 ?_
    refine fs_d2l (p := 83) (by decide +kernel) rfl ?_
    have h := Option.some.inj h
    subst h
    exact fs_lret (by decide +kernel) rt_2
def fm_2_35 : Nat → Int32 → Int32 → UInt64 → Int32 → fx_S → Option (Int64 × fx_S)
  | 0, _, _, _, _, _ => none
  | n + 1, x2, x3, x4, x6, σ =>
    if 0 ≤ (Op.cmpValue (FP.dcmp x4 FP.dconst1) .g) then (
      fm_2_64 x2 x3 x4 x6 σ) else (
      if x6 ≤ ((1 : Int32) - x2) then (
        fm_2_64 x2 x3 x4 x6 σ) else (
        if id_n6 (FP.dmul x4 (4611686018427387904 : UInt64)) = true then (
        fm_2_35 n x2 x3 (FP.dmul x4 (4611686018427387904 : UInt64)) (x6 + (-1 : Int32)) σ) else none))
theorem fe_2_35 {d : Nat} (hd : 0 ≤ d) : ∀ (n : Nat) (x2 : Int32) (x3 : Int32) (x4 : UInt64) (x6 : Int32) (o0 : Option Value) (σ : fx_S) (q : Int64 × fx_S), fm_2_35 n x2 x3 x4 x6 σ = some q → fx_E none 2 d 35 [o0, none, some (.int x2), some (.int x3), some (.double x4), none, some (.int x6), none, none] [] σ (some (.long q.1)) q.2 := by
  intro n
  induction n with
  | zero =>
    intro x2 x3 x4 x6 o0 σ q  h
    rw [fm_2_35] at h
    exact fx_no h
  | succ n ih =>
    intro x2 x3 x4 x6 o0 σ q  h
    rw [fm_2_35] at h
    refine fs_dload (k := 4) (p := 37) (by decide +kernel) rfl rfl ?_
    refine fs_dconst (n := 1) (p := 38) (by decide +kernel) rfl rfl ?_
    refine fs_dcmp (c := .g) (p := 39) (by decide +kernel) rfl ?_
    by_cases c1 : 0 ≤ (Op.cmpValue (FP.dcmp x4 FP.dconst1) .g)
    · rw [if_pos c1] at h
      refine fs_if_ge_t (off := 25) (t := 64) (by decide +kernel) (by decide +kernel) c1 ?_
      exact fe_2_64 hd _ _ _ _ _ _ _ h
    · rw [if_neg c1] at h
      refine fs_if_ge_f (off := 25) (t := 64) (p := 42) (by decide +kernel) (by decide +kernel) rfl c1 ?_
      refine fs_iload (k := 6) (p := 44) (by decide +kernel) rfl rfl ?_
      refine fs_iconst (n := 1) (p := 45) (by decide +kernel) rfl kc_1 ?_
      refine fs_iload_n (k := 2) (p := 46) (by decide +kernel) rfl rfl ?_
      refine fs_isub (p := 47) (by decide +kernel) rfl ?_
      by_cases c4 : x6 ≤ ((1 : Int32) - x2)
      · rw [if_pos c4] at h
        refine fs_icmp_le_t (off := 17) (t := 64) (by decide +kernel) (by decide +kernel) c4 ?_
        exact fe_2_64 hd _ _ _ _ _ _ _ h
      · rw [if_neg c4] at h
        refine fs_icmp_le_f (off := 17) (t := 64) (p := 50) (by decide +kernel) (by decide +kernel) rfl c4 ?_
        refine fs_dload (k := 4) (p := 52) (by decide +kernel) rfl rfl ?_
        refine fs_ldc2d (idx := 13) (p := 55) (x := 4611686018427387904) (by decide +kernel) rfl (by decide +kernel) (by decide +kernel) ?_
        obtain ⟨z6, h⟩ := fx_gd h
        refine fs_dmul (p := 56) (by decide +kernel) rfl z6 ?_
        refine fs_dstore (k := 4) (p := 58) (M := 9) (al' := [o0, none, some (.int x2), some (.int x3), some (.double (FP.dmul x4 (4611686018427387904 : UInt64))), none, some (.int x6), none, none]) (by decide +kernel) rfl mx_2 rfl rfl ?_
        refine fs_iinc (k := 6) (n := -1) (p := 61) (M := 9) (al' := [o0, none, some (.int x2), some (.int x3), some (.double (FP.dmul x4 (4611686018427387904 : UInt64))), none, some (.int (x6 + (-1 : Int32))), none, none]) (by decide +kernel) rfl kc_m1 mx_2 rfl rfl rfl ?_
        refine fs_goto (off := -26) (p := 35) (by decide +kernel) (by decide +kernel) ?_
        exact ih _ _ _ _ _ _ _ h
def fm_2_6 : Nat → Int32 → Int32 → UInt64 → Int32 → fx_S → Option (Int64 × fx_S)
  | 0, _, _, _, _, _ => none
  | n + 1, x2, x3, x4, x6, σ =>
    if (Op.cmpValue (FP.dcmp x4 (4611686018427387904 : UInt64)) .l) < 0 then (
      fm_2_35 100000 x2 x3 x4 x6 σ) else (
      if x2 ≤ x6 then (
        fm_2_35 100000 x2 x3 x4 x6 σ) else (
        if id_n6 (FP.ddiv x4 (4611686018427387904 : UInt64)) = true then (
        fm_2_6 n x2 x3 (FP.ddiv x4 (4611686018427387904 : UInt64)) (x6 + (1 : Int32)) σ) else none))
theorem fe_2_6 {d : Nat} (hd : 0 ≤ d) : ∀ (n : Nat) (x2 : Int32) (x3 : Int32) (x4 : UInt64) (x6 : Int32) (o0 : Option Value) (σ : fx_S) (q : Int64 × fx_S), fm_2_6 n x2 x3 x4 x6 σ = some q → fx_E none 2 d 6 [o0, none, some (.int x2), some (.int x3), some (.double x4), none, some (.int x6), none, none] [] σ (some (.long q.1)) q.2 := by
  intro n
  induction n with
  | zero =>
    intro x2 x3 x4 x6 o0 σ q  h
    rw [fm_2_6] at h
    exact fx_no h
  | succ n ih =>
    intro x2 x3 x4 x6 o0 σ q  h
    rw [fm_2_6] at h
    refine fs_dload (k := 4) (p := 8) (by decide +kernel) rfl rfl ?_
    refine fs_ldc2d (idx := 13) (p := 11) (x := 4611686018427387904) (by decide +kernel) rfl (by decide +kernel) (by decide +kernel) ?_
    refine fs_dcmp (c := .l) (p := 12) (by decide +kernel) rfl ?_
    by_cases c1 : (Op.cmpValue (FP.dcmp x4 (4611686018427387904 : UInt64)) .l) < 0
    · rw [if_pos c1] at h
      refine fs_if_lt_t (off := 23) (t := 35) (by decide +kernel) (by decide +kernel) c1 ?_
      exact fe_2_35 hd 100000 _ _ _ _ _ _ _ h
    · rw [if_neg c1] at h
      refine fs_if_lt_f (off := 23) (t := 35) (p := 15) (by decide +kernel) (by decide +kernel) rfl c1 ?_
      refine fs_iload (k := 6) (p := 17) (by decide +kernel) rfl rfl ?_
      refine fs_iload_n (k := 2) (p := 18) (by decide +kernel) rfl rfl ?_
      by_cases c4 : x2 ≤ x6
      · rw [if_pos c4] at h
        refine fs_icmp_ge_t (off := 17) (t := 35) (by decide +kernel) (by decide +kernel) c4 ?_
        exact fe_2_35 hd 100000 _ _ _ _ _ _ _ h
      · rw [if_neg c4] at h
        refine fs_icmp_ge_f (off := 17) (t := 35) (p := 21) (by decide +kernel) (by decide +kernel) rfl c4 ?_
        refine fs_dload (k := 4) (p := 23) (by decide +kernel) rfl rfl ?_
        refine fs_ldc2d (idx := 13) (p := 26) (x := 4611686018427387904) (by decide +kernel) rfl (by decide +kernel) (by decide +kernel) ?_
        obtain ⟨z6, h⟩ := fx_gd h
        refine fs_ddiv (p := 27) (by decide +kernel) rfl z6 ?_
        refine fs_dstore (k := 4) (p := 29) (M := 9) (al' := [o0, none, some (.int x2), some (.int x3), some (.double (FP.ddiv x4 (4611686018427387904 : UInt64))), none, some (.int x6), none, none]) (by decide +kernel) rfl mx_2 rfl rfl ?_
        refine fs_iinc (k := 6) (n := 1) (p := 32) (M := 9) (al' := [o0, none, some (.int x2), some (.int x3), some (.double (FP.ddiv x4 (4611686018427387904 : UInt64))), none, some (.int (x6 + (1 : Int32))), none, none]) (by decide +kernel) rfl kc_1 mx_2 rfl rfl rfl ?_
        refine fs_goto (off := -26) (p := 6) (by decide +kernel) (by decide +kernel) ?_
        exact ih _ _ _ _ _ _ _ h
def fm_2 (x0 : UInt64) (x2 : Int32) (x3 : Int32) (σ : fx_S) : Option (Int64 × fx_S) :=
  fm_2_6 100000 x2 x3 x0 (0 : Int32) σ
theorem fe_2 {d : Nat} (hd : 0 ≤ d) {x0 : UInt64} {x2 : Int32} {x3 : Int32} {σ : fx_S} {q : Int64 × fx_S} (h : fm_2 x0 x2 x3 σ = some q) : fx_E none 2 d 0 [some (.double x0), none, some (.int x2), some (.int x3), none, none, none, none, none] [] σ (some (.long q.1)) q.2 := by
  unfold fm_2 at h
  refine fs_dload_n (k := 0) (p := 1) (by decide +kernel) rfl rfl ?_
  refine fs_dstore (k := 4) (p := 3) (M := 9) (al' := [some (.double x0), none, some (.int x2), some (.int x3), some (.double x0), none, none, none, none]) (by decide +kernel) rfl mx_2 rfl rfl ?_
  refine fs_iconst (n := 0) (p := 4) (by decide +kernel) rfl kc_0 ?_
  refine fs_istore (k := 6) (p := 6) (M := 9) (al' := [some (.double x0), none, some (.int x2), some (.int x3), some (.double x0), none, some (.int (0 : Int32)), none, none]) (by decide +kernel) rfl mx_2 rfl rfl ?_
  exact fe_2_6 hd 100000 _ _ _ _ _ _ _ h

/-! ZoneShares$Bits.ofDouble(D)J -/
theorem mx_0 : iv_mx 0 = 2 := by decide +kernel
theorem rt_0 : iv_rt 0 = some .long := by decide +kernel
def fm_0 (x0 : UInt64) (σ : fx_S) : Option (Int64 × fx_S) :=
  (fm_2 x0 (1023 : Int32) (52 : Int32) σ).bind fun q4 =>
  some (q4.1, q4.2)
theorem fe_0 {d : Nat} (hd : 1 ≤ d) {x0 : UInt64} {σ : fx_S} {q : Int64 × fx_S} (h : fm_0 x0 σ = some q) : fx_E none 0 d 0 [some (.double x0), none] [] σ (some (.long q.1)) q.2 := by
  unfold fm_0 at h
  refine fs_dload_n (k := 0) (p := 1) (by decide +kernel) rfl rfl ?_
  refine fs_sipush (n := 1023) (p := 4) (by decide +kernel) rfl ks_1023 ?_
  refine fs_bipush (n := 52) (p := 6) (by decide +kernel) rfl kb_52 ?_
  obtain ⟨q4, w3, h⟩ := fx_bd h
  refine fs_callS (idx := 9) (mj := 2) (na := 3) (mx := 9) (p := 9) (args := [.double x0, .int (1023 : Int32), .int (52 : Int32)]) (rest := []) (al2 := [some (.double x0), none, some (.int (1023 : Int32)), some (.int (52 : Int32)), none, none, none, none, none]) (by decide +kernel) rfl (by decide +kernel) rfl rfl rfl rfl rfl rfl rfl (by omega) (fun d' hd' => fe_2 (by omega) w3) rfl ?_
  have h := Option.some.inj h
  subst h
  exact fs_lret (by decide +kernel) rt_0

/-! ZoneShares$Bits.ofFloat(F)J -/
theorem mx_1 : iv_mx 1 = 1 := by decide +kernel
theorem rt_1 : iv_rt 1 = some .long := by decide +kernel
def fm_1 (x0 : UInt32) (σ : fx_S) : Option (Int64 × fx_S) :=
  if id_n6 (FP.f2d x0) = true then (
  (fm_2 (FP.f2d x0) (127 : Int32) (23 : Int32) σ).bind fun q8 =>
  some (q8.1, q8.2)) else none
theorem fe_1 {d : Nat} (hd : 1 ≤ d) {x0 : UInt32} {σ : fx_S} {q : Int64 × fx_S} (h : fm_1 x0 σ = some q) : fx_E none 1 d 0 [some (.float x0)] [] σ (some (.long q.1)) q.2 := by
  unfold fm_1 at h
  refine fs_fload_n (k := 0) (p := 1) (by decide +kernel) rfl rfl ?_
  obtain ⟨z6, h⟩ := fx_gd h
  refine fs_f2d (p := 2) (by decide +kernel) rfl z6 ?_
  refine fs_bipush (n := 127) (p := 4) (by decide +kernel) rfl kb_127 ?_
  refine fs_bipush (n := 23) (p := 6) (by decide +kernel) rfl kb_23 ?_
  obtain ⟨q8, w7, h⟩ := fx_bd h
  refine fs_callS (idx := 9) (mj := 2) (na := 3) (mx := 9) (p := 9) (args := [.double (FP.f2d x0), .int (127 : Int32), .int (23 : Int32)]) (rest := []) (al2 := [some (.double (FP.f2d x0)), none, some (.int (127 : Int32)), some (.int (23 : Int32)), none, none, none, none, none]) (by decide +kernel) rfl (by decide +kernel) rfl rfl rfl rfl rfl rfl rfl (by omega) (fun d' hd' => fe_2 (by omega) w7) rfl ?_
  have h := Option.some.inj h
  subst h
  exact fs_lret (by decide +kernel) rt_1

/-! ZoneShares.dense(III)J -/
theorem mx_108 : iv_mx 108 = 8 := by decide +kernel
theorem rt_108 : iv_rt 108 = some .long := by decide +kernel
def fm_108_33 (σ : fx_S) : Option (Int64 × fx_S) :=
  some ((-9223372036854775808 : Int64), σ)
theorem fe_108_33 {d : Nat} (hd : 6 ≤ d) (o0 : Option Value) (o1 : Option Value) (o2 : Option Value) (o3 : Option Value) (σ : fx_S) (q : Int64 × fx_S) (h : fm_108_33  σ = some q) : fx_E none 108 d 33 [o0, o1, o2, o3, none, none, none, none] [] σ (some (.long q.1)) q.2 := by
  unfold fm_108_33 at h
  refine fs_ldc2 (idx := 270) (p := 36) (x := -9223372036854775808) (by decide +kernel) rfl (by decide +kernel) ?_
  have h := Option.some.inj h
  subst h
  exact fs_lret (by decide +kernel) rt_108
def fm_108 (x1 : Int32) (x2 : Int32) (x3 : Int32) (σ : fx_S) : Option (Int64 × fx_S) :=
  (fm_114 x1 σ).bind fun q43 =>
  if (fx_b q43.1) = 0 then (
    fm_108_33 q43.2) else (
    (fm_115 x2 q43.2).bind fun q46 =>
    if (fx_b q46.1) = 0 then (
      fm_108_33 q46.2) else (
      (fm_57 1 q46.2).bind fun q49 =>
      if (fx_b q49.1) = 0 then (
        fm_108_33 q49.2) else (
        if x3 < 0 then (
          fm_108_33 q49.2) else (
          if x3 ≤ (3 : Int32) then (
            (fm_62 1 (1 : Int32) x2 q49.2).bind fun q55 =>
            if ¬ q55.1 = 0 then (
              (fx_ldr 4 70 x1).bind fun v58 =>
              (fm_19 v58 (2 : Int32) q55.2).bind fun q63 =>
              (fm_76 (v58 + 3) x2 q63).bind fun q65 =>
              if id_n6 (FP.ddiv (FP.i2d q65.1) (FP.i2d q55.1)) = true then (
              if x3 = (0 : Int32) then (
                (fm_0 (FP.ddiv (FP.i2d q65.1) (FP.i2d q55.1)) q65.2).bind fun q82 =>
                some (q82.1, q82.2)) else (
                if x3 = (1 : Int32) then (
                  if id_n3 (FP.d2f (FP.ddiv (FP.i2d q65.1) (FP.i2d q55.1))) = true then (
                  (fm_1 (FP.d2f (FP.ddiv (FP.i2d q65.1) (FP.i2d q55.1))) q65.2).bind fun q80 =>
                  some (q80.1, q80.2)) else none) else (
                  if x3 = (2 : Int32) then (
                    if id_n6 (FP.dsub (FP.ddiv (FP.i2d q65.1) (FP.i2d q55.1)) (FP.l2d (FP.d2l (FP.ddiv (FP.i2d q65.1) (FP.i2d q55.1))))) = true then (
                    (fm_0 (FP.dsub (FP.ddiv (FP.i2d q65.1) (FP.i2d q55.1)) (FP.l2d (FP.d2l (FP.ddiv (FP.i2d q65.1) (FP.i2d q55.1))))) q65.2).bind fun q76 =>
                    some (q76.1, q76.2)) else none) else (
                    if id_n6 (FP.ddiv (FP.ddiv (FP.i2d q65.1) (FP.i2d q55.1)) (4602678819172646912 : UInt64)) = true then (
                    some ((FP.d2l (FP.ddiv (FP.ddiv (FP.i2d q65.1) (FP.i2d q55.1)) (4602678819172646912 : UInt64))), q65.2)) else none)))) else none) else (
              some ((-9223372036854775808 : Int64), q55.2))) else (
            fm_108_33 q49.2)))))
theorem fe_108 {d : Nat} (hd : 6 ≤ d) {x1 : Int32} {x2 : Int32} {x3 : Int32} {σ : fx_S} {q : Int64 × fx_S} (h : fm_108 x1 x2 x3 σ = some q) : fx_E none 108 d 0 [some (.ref 0), some (.int x1), some (.int x2), some (.int x3), none, none, none, none] [] σ (some (.long q.1)) q.2 := by
  unfold fm_108 at h
  refine fs_iload_n (k := 1) (p := 1) (by decide +kernel) rfl rfl ?_
  obtain ⟨q43, w42, h⟩ := fx_bd h
  refine fs_callS (idx := 94) (mj := 114) (na := 1) (mx := 1) (p := 4) (args := [.int x1]) (rest := []) (al2 := [some (.int x1)]) (by decide +kernel) rfl (by decide +kernel) rfl rfl rfl rfl rfl rfl rfl (by omega) (fun d' hd' => fe_114 (by omega) w42) rfl ?_
  by_cases c44 : (fx_b q43.1) = 0
  · rw [if_pos c44] at h
    refine fs_if_eq_t (off := 29) (t := 33) (by decide +kernel) (by decide +kernel) c44 ?_
    exact fe_108_33 hd _ _ _ _ _ _ h
  · rw [if_neg c44] at h
    refine fs_if_eq_f (off := 29) (t := 33) (p := 7) (by decide +kernel) (by decide +kernel) rfl c44 ?_
    refine fs_iload_n (k := 2) (p := 8) (by decide +kernel) rfl rfl ?_
    obtain ⟨q46, w45, h⟩ := fx_bd h
    refine fs_callS (idx := 128) (mj := 115) (na := 1) (mx := 1) (p := 11) (args := [.int x2]) (rest := []) (al2 := [some (.int x2)]) (by decide +kernel) rfl (by decide +kernel) rfl rfl rfl rfl rfl rfl rfl (by omega) (fun d' hd' => fe_115 (by omega) w45) rfl ?_
    by_cases c47 : (fx_b q46.1) = 0
    · rw [if_pos c47] at h
      refine fs_if_eq_t (off := 22) (t := 33) (by decide +kernel) (by decide +kernel) c47 ?_
      exact fe_108_33 hd _ _ _ _ _ _ h
    · rw [if_neg c47] at h
      refine fs_if_eq_f (off := 22) (t := 33) (p := 14) (by decide +kernel) (by decide +kernel) rfl c47 ?_
      refine fs_aload_n (k := 0) (p := 15) (by decide +kernel) rfl rfl ?_
      refine fs_gfr (idx := 13) (ci := 9) (j := 1) (p := 18) (by decide +kernel) rfl (by decide +kernel) fo_0 (fr_a0_1) ?_
      obtain ⟨q49, w48, h⟩ := fx_bd h
      refine fs_callV (idx := 146) (mj := 57) (ci := 6) (na := 0) (mx := 1) (p := 21) (args := [.ref 1]) (rest := []) (al2 := [some (.ref 1)]) (by decide +kernel) rfl (by decide +kernel) fo_1 rfl rfl rfl rfl rfl rfl rfl (by omega) (fun d' hd' => fe_57 (by omega) w48) rfl ?_
      by_cases c50 : (fx_b q49.1) = 0
      · rw [if_pos c50] at h
        refine fs_if_eq_t (off := 12) (t := 33) (by decide +kernel) (by decide +kernel) c50 ?_
        exact fe_108_33 hd _ _ _ _ _ _ h
      · rw [if_neg c50] at h
        refine fs_if_eq_f (off := 12) (t := 33) (p := 24) (by decide +kernel) (by decide +kernel) rfl c50 ?_
        refine fs_iload_n (k := 3) (p := 25) (by decide +kernel) rfl rfl ?_
        by_cases c52 : x3 < 0
        · rw [if_pos c52] at h
          refine fs_if_lt_t (off := 8) (t := 33) (by decide +kernel) (by decide +kernel) c52 ?_
          exact fe_108_33 hd _ _ _ _ _ _ h
        · rw [if_neg c52] at h
          refine fs_if_lt_f (off := 8) (t := 33) (p := 28) (by decide +kernel) (by decide +kernel) rfl c52 ?_
          refine fs_iload_n (k := 3) (p := 29) (by decide +kernel) rfl rfl ?_
          refine fs_iconst (n := 3) (p := 30) (by decide +kernel) rfl kc_3 ?_
          by_cases c53 : x3 ≤ (3 : Int32)
          · rw [if_pos c53] at h
            refine fs_icmp_le_t (off := 7) (t := 37) (by decide +kernel) (by decide +kernel) c53 ?_
            refine fs_aload_n (k := 0) (p := 38) (by decide +kernel) rfl rfl ?_
            refine fs_gfr (idx := 13) (ci := 9) (j := 1) (p := 41) (by decide +kernel) rfl (by decide +kernel) fo_0 (fr_a0_1) ?_
            refine fs_iconst (n := 1) (p := 42) (by decide +kernel) rfl kc_1 ?_
            refine fs_iload_n (k := 2) (p := 43) (by decide +kernel) rfl rfl ?_
            obtain ⟨q55, w54, h⟩ := fx_bd h
            refine fs_callV (idx := 272) (mj := 62) (ci := 6) (na := 2) (mx := 6) (p := 46) (args := [.ref 1, .int (1 : Int32), .int x2]) (rest := []) (al2 := [some (.ref 1), some (.int (1 : Int32)), some (.int x2), none, none, none]) (by decide +kernel) rfl (by decide +kernel) fo_1 rfl rfl rfl rfl rfl rfl rfl (by omega) (fun d' hd' => fe_62 (by omega) w54) rfl ?_
            refine fs_istore (k := 4) (p := 48) (M := 8) (al' := [some (.ref 0), some (.int x1), some (.int x2), some (.int x3), some (.int q55.1), none, none, none]) (by decide +kernel) rfl mx_108 rfl rfl ?_
            refine fs_iload (k := 4) (p := 50) (by decide +kernel) rfl rfl ?_
            by_cases c57 : ¬ q55.1 = 0
            · rw [if_pos c57] at h
              refine fs_if_ne_t (off := 7) (t := 57) (by decide +kernel) (by decide +kernel) c57 ?_
              refine fs_aload_n (k := 0) (p := 58) (by decide +kernel) rfl rfl ?_
              refine fs_gfr (idx := 60) (ci := 9) (j := 6) (p := 61) (by decide +kernel) rfl (by decide +kernel) fo_0 (fr_a0_6) ?_
              refine fs_iload_n (k := 1) (p := 62) (by decide +kernel) rfl rfl ?_
              obtain ⟨v58, w59, h⟩ := fx_bd h
              have g60 := fa_70 w59
              refine fs_aaload (t := 4) (p := 63) (by decide +kernel) rfl (by decide +kernel) w59 ?_
              refine fs_astore (k := 5) (p := 65) (M := 8) (al' := [some (.ref 0), some (.int x1), some (.int x2), some (.int x3), some (.int q55.1), some (.ref v58), none, none]) (by decide +kernel) rfl mx_108 rfl rfl ?_
              refine fs_aload (k := 5) (p := 67) (by decide +kernel) rfl rfl ?_
              refine fs_iconst (n := 2) (p := 68) (by decide +kernel) rfl kc_2 ?_
              obtain ⟨q63, w62, h⟩ := fx_bd h
              refine fs_callV (idx := 150) (mj := 19) (ci := 2) (na := 1) (mx := 2) (p := 71) (args := [.ref v58, .int (2 : Int32)]) (rest := []) (al2 := [some (.ref v58), some (.int (2 : Int32))]) (by decide +kernel) rfl (by decide +kernel) g60 rfl rfl rfl rfl rfl rfl rfl (by omega) (fun d' hd' => fe_19 (by omega) w62) rfl ?_
              refine fs_pop (p := 72) (by decide +kernel) rfl rfl ?_
              refine fs_aload (k := 5) (p := 74) (by decide +kernel) rfl rfl ?_
              refine fs_gfr (idx := 202) (ci := 2) (j := 2) (p := 77) (by decide +kernel) rfl (by decide +kernel) g60 (fr_2_2 g60) ?_
              refine fs_iload_n (k := 2) (p := 78) (by decide +kernel) rfl rfl ?_
              obtain ⟨q65, w64, h⟩ := fx_bd h
              refine fs_callV (idx := 237) (mj := 76) (ci := 7) (na := 1) (mx := 4) (p := 81) (args := [.ref (v58 + 3), .int x2]) (rest := []) (al2 := [some (.ref (v58 + 3)), some (.int x2), none, none]) (by decide +kernel) rfl (by decide +kernel) (fg_2_2 g60) rfl rfl rfl rfl rfl rfl rfl (by omega) (fun d' hd' => fe_76 (by omega) w64) rfl ?_
              refine fs_i2d (p := 82) (by decide +kernel) rfl ?_
              refine fs_iload (k := 4) (p := 84) (by decide +kernel) rfl rfl ?_
              refine fs_i2d (p := 85) (by decide +kernel) rfl ?_
              obtain ⟨z67, h⟩ := fx_gd h
              refine fs_ddiv (p := 86) (by decide +kernel) rfl z67 ?_
              refine fs_dstore (k := 6) (p := 88) (M := 8) (al' := [some (.ref 0), some (.int x1), some (.int x2), some (.int x3), some (.int q55.1), some (.ref v58), some (.double (FP.ddiv (FP.i2d q65.1) (FP.i2d q55.1))), none]) (by decide +kernel) rfl mx_108 rfl rfl ?_
              refine fs_iload_n (k := 3) (p := 89) (by decide +kernel) rfl rfl ?_
              by_cases c68 : x3 = (0 : Int32)
              · rw [if_pos c68] at h
                refine fs_tsw_h (dflt := 51) (lo := 0) (hi := 2) (offs := #[27, 33, 40]) (x := x3) (j := 0) (t := 116) (by decide +kernel) (by decide +kernel) (by decide) (c68.trans (by decide)) ?_
                refine fs_dload (k := 6) (p := 118) (by decide +kernel) rfl rfl ?_
                obtain ⟨q82, w81, h⟩ := fx_bd h
                refine fs_callS (idx := 275) (mj := 0) (na := 1) (mx := 2) (p := 121) (args := [.double (FP.ddiv (FP.i2d q65.1) (FP.i2d q55.1))]) (rest := []) (al2 := [some (.double (FP.ddiv (FP.i2d q65.1) (FP.i2d q55.1))), none]) (by decide +kernel) rfl (by decide +kernel) rfl rfl rfl rfl rfl rfl rfl (by omega) (fun d' hd' => fe_0 (by omega) w81) rfl ?_
                have h := Option.some.inj h
                subst h
                exact fs_lret (by decide +kernel) rt_108
              · rw [if_neg c68] at h
                by_cases c69 : x3 = (1 : Int32)
                · rw [if_pos c69] at h
                  refine fs_tsw_h (dflt := 51) (lo := 0) (hi := 2) (offs := #[27, 33, 40]) (x := x3) (j := 1) (t := 122) (by decide +kernel) (by decide +kernel) (by decide) (c69.trans (by decide)) ?_
                  refine fs_dload (k := 6) (p := 124) (by decide +kernel) rfl rfl ?_
                  obtain ⟨z78, h⟩ := fx_gd h
                  refine fs_d2f (p := 125) (by decide +kernel) rfl z78 ?_
                  obtain ⟨q80, w79, h⟩ := fx_bd h
                  refine fs_callS (idx := 281) (mj := 1) (na := 1) (mx := 1) (p := 128) (args := [.float (FP.d2f (FP.ddiv (FP.i2d q65.1) (FP.i2d q55.1)))]) (rest := []) (al2 := [some (.float (FP.d2f (FP.ddiv (FP.i2d q65.1) (FP.i2d q55.1))))]) (by decide +kernel) rfl (by decide +kernel) rfl rfl rfl rfl rfl rfl rfl (by omega) (fun d' hd' => fe_1 (by omega) w79) rfl ?_
                  have h := Option.some.inj h
                  subst h
                  exact fs_lret (by decide +kernel) rt_108
                · rw [if_neg c69] at h
                  by_cases c70 : x3 = (2 : Int32)
                  · rw [if_pos c70] at h
                    refine fs_tsw_h (dflt := 51) (lo := 0) (hi := 2) (offs := #[27, 33, 40]) (x := x3) (j := 2) (t := 129) (by decide +kernel) (by decide +kernel) (by decide) (c70.trans (by decide)) ?_
                    refine fs_dload (k := 6) (p := 131) (by decide +kernel) rfl rfl ?_
                    refine fs_dload (k := 6) (p := 133) (by decide +kernel) rfl rfl ?_
                    refine fs_d2l (p := 134) (by decide +kernel) rfl ?_
                    refine fs_l2d (p := 135) (by decide +kernel) rfl ?_
                    obtain ⟨z74, h⟩ := fx_gd h
                    refine fs_dsub (p := 136) (by decide +kernel) rfl z74 ?_
                    obtain ⟨q76, w75, h⟩ := fx_bd h
                    refine fs_callS (idx := 275) (mj := 0) (na := 1) (mx := 2) (p := 139) (args := [.double (FP.dsub (FP.ddiv (FP.i2d q65.1) (FP.i2d q55.1)) (FP.l2d (FP.d2l (FP.ddiv (FP.i2d q65.1) (FP.i2d q55.1)))))]) (rest := []) (al2 := [some (.double (FP.dsub (FP.ddiv (FP.i2d q65.1) (FP.i2d q55.1)) (FP.l2d (FP.d2l (FP.ddiv (FP.i2d q65.1) (FP.i2d q55.1)))))), none]) (by decide +kernel) rfl (by decide +kernel) rfl rfl rfl rfl rfl rfl rfl (by omega) (fun d' hd' => fe_0 (by omega) w75) rfl ?_
                    have h := Option.some.inj h
                    subst h
                    exact fs_lret (by decide +kernel) rt_108
                  · rw [if_neg c70] at h
                    refine fs_tsw_d (dflt := 51) (lo := 0) (hi := 2) (offs := #[27, 33, 40]) (x := x3) (t := 140) (by decide +kernel) (by decide +kernel) (by decide) (by decide) (fun j hj => by match j, hj with | 0, _ => exact c68 | 1, _ => exact c69 | 2, _ => exact c70) ?_
                    refine fs_dload (k := 6) (p := 142) (by decide +kernel) rfl rfl ?_
                    refine fs_ldc2d (idx := 285) (p := 145) (x := 4602678819172646912) (by decide +kernel) rfl (by decide +kernel) (by decide +kernel) ?_
                    obtain ⟨z72, h⟩ := fx_gd h
                    refine fs_ddiv (p := 146) (by decide +kernel) rfl z72 ?_
                    refine fs_d2l (p := 147) (by decide +kernel) rfl ?_
                    have h := Option.some.inj h
                    subst h
                    exact fs_lret (by decide +kernel) rt_108
            · rw [if_neg c57] at h
              refine fs_if_ne_f (off := 7) (t := 57) (p := 53) (by decide +kernel) (by decide +kernel) rfl c57 ?_
              refine fs_ldc2 (idx := 270) (p := 56) (x := -9223372036854775808) (by decide +kernel) rfl (by decide +kernel) ?_
              have h := Option.some.inj h
              subst h
              exact fs_lret (by decide +kernel) rt_108
          · rw [if_neg c53] at h
            refine fs_icmp_le_f (off := 7) (t := 37) (p := 33) (by decide +kernel) (by decide +kernel) rfl c53 ?_
            exact fe_108_33 hd _ _ _ _ _ _ h

/-! ZoneShares.off(I)J -/
theorem mx_109 : iv_mx 109 = 7 := by decide +kernel
theorem rt_109 : iv_rt 109 = some .long := by decide +kernel
def fm_109_17 (σ : fx_S) : Option (Int64 × fx_S) :=
  some ((-9223372036854775808 : Int64), σ)
theorem fe_109_17 {d : Nat} (hd : 6 ≤ d) (o0 : Option Value) (o1 : Option Value) (σ : fx_S) (q : Int64 × fx_S) (h : fm_109_17  σ = some q) : fx_E none 109 d 17 [o0, o1, none, none, none, none, none] [] σ (some (.long q.1)) q.2 := by
  unfold fm_109_17 at h
  refine fs_ldc2 (idx := 270) (p := 20) (x := -9223372036854775808) (by decide +kernel) rfl (by decide +kernel) ?_
  have h := Option.some.inj h
  subst h
  exact fs_lret (by decide +kernel) rt_109
def fm_109_83 (k_39 : Nat → UInt64 → Int32 → fx_S → Option (Int64 × fx_S)) (x2 : Nat) (x3 : UInt64) (x5 : Int32) (σ : fx_S) : Option (Int64 × fx_S) :=
  k_39 x2 x3 (x5 + (1 : Int32)) σ
theorem fe_109_83 {d : Nat} (hd : 6 ≤ d) {k_39 : Nat → UInt64 → Int32 → fx_S → Option (Int64 × fx_S)} (hk_39 : ∀ (x2 : Nat) (x3 : UInt64) (x5 : Int32) (o0 : Option Value) (o1 : Option Value) (o6 : Option Value) (σ : fx_S) (q : Int64 × fx_S) (g2 : fx_oc x2 2 = true), k_39 x2 x3 x5 σ = some q → fx_E none 109 d 39 [o0, o1, some (.ref x2), some (.double x3), none, some (.int x5), o6] [] σ (some (.long q.1)) q.2) (x2 : Nat) (x3 : UInt64) (x5 : Int32) (o0 : Option Value) (o1 : Option Value) (o6 : Option Value) (σ : fx_S) (q : Int64 × fx_S) (g2 : fx_oc x2 2 = true) (h : fm_109_83 k_39  x2 x3 x5 σ = some q) : fx_E none 109 d 83 [o0, o1, some (.ref x2), some (.double x3), none, some (.int x5), o6] [] σ (some (.long q.1)) q.2 := by
  unfold fm_109_83 at h
  refine fs_iinc (k := 5) (n := 1) (p := 86) (M := 7) (al' := [o0, o1, some (.ref x2), some (.double x3), none, some (.int (x5 + (1 : Int32))), o6]) (by decide +kernel) rfl kc_1 mx_109 rfl rfl rfl ?_
  refine fs_goto (off := -47) (p := 39) (by decide +kernel) (by decide +kernel) ?_
  exact hk_39 _ _ _ _ _ _ _ _ g2 h
def fm_109_39 : Nat → Nat → UInt64 → Int32 → fx_S → Option (Int64 × fx_S)
  | 0, _, _, _, _ => none
  | n + 1, x2, x3, x5, σ =>
    if (72 : Int32) ≤ x5 then (
      (fm_0 x3 σ).bind fun q4 =>
      some (q4.1, q4.2)) else (
      (fx_ld σ ((x2 + 3) + 2) (x5 / (9 : Int32))).bind fun v6 =>
      if v6 ≤ 0 then (
        fm_109_83 (fm_109_39 n) x2 x3 x5 σ) else (
        (fm_80 (x2 + 3) x5 σ).bind fun q12 =>
        if id_n6 (FP.ddiv (FP.l2d q12.1) (FP.i2d v6)) = true then (
        if id_n6 (FP.dadd x3 (FP.ddiv (FP.l2d q12.1) (FP.i2d v6))) = true then (
        fm_109_83 (fm_109_39 n) x2 (FP.dadd x3 (FP.ddiv (FP.l2d q12.1) (FP.i2d v6))) x5 q12.2) else none) else none))
theorem fe_109_39 {d : Nat} (hd : 6 ≤ d) : ∀ (n : Nat) (x2 : Nat) (x3 : UInt64) (x5 : Int32) (o0 : Option Value) (o1 : Option Value) (o6 : Option Value) (σ : fx_S) (q : Int64 × fx_S) (g2 : fx_oc x2 2 = true), fm_109_39 n x2 x3 x5 σ = some q → fx_E none 109 d 39 [o0, o1, some (.ref x2), some (.double x3), none, some (.int x5), o6] [] σ (some (.long q.1)) q.2 := by
  intro n
  induction n with
  | zero =>
    intro x2 x3 x5 o0 o1 o6 σ q g2 h
    rw [fm_109_39] at h
    exact fx_no h
  | succ n ih =>
    intro x2 x3 x5 o0 o1 o6 σ q g2 h
    rw [fm_109_39] at h
    refine fs_iload (k := 5) (p := 41) (by decide +kernel) rfl rfl ?_
    refine fs_bipush (n := 72) (p := 43) (by decide +kernel) rfl kb_72 ?_
    by_cases c2 : (72 : Int32) ≤ x5
    · rw [if_pos c2] at h
      refine fs_icmp_ge_t (off := 46) (t := 89) (by decide +kernel) (by decide +kernel) c2 ?_
      refine fs_dload_n (k := 3) (p := 90) (by decide +kernel) rfl rfl ?_
      obtain ⟨q4, w3, h⟩ := fx_bd h
      refine fs_callS (idx := 275) (mj := 0) (na := 1) (mx := 2) (p := 93) (args := [.double x3]) (rest := []) (al2 := [some (.double x3), none]) (by decide +kernel) rfl (by decide +kernel) rfl rfl rfl rfl rfl rfl rfl (by omega) (fun d' hd' => fe_0 (by omega) w3) rfl ?_
      have h := Option.some.inj h
      subst h
      exact fs_lret (by decide +kernel) rt_109
    · rw [if_neg c2] at h
      refine fs_icmp_ge_f (off := 46) (t := 89) (p := 46) (by decide +kernel) (by decide +kernel) rfl c2 ?_
      refine fs_aload_n (k := 2) (p := 47) (by decide +kernel) rfl rfl ?_
      refine fs_gfr (idx := 202) (ci := 2) (j := 2) (p := 50) (by decide +kernel) rfl (by decide +kernel) g2 (fr_2_2 g2) ?_
      refine fs_gfr (idx := 206) (ci := 7) (j := 1) (p := 53) (by decide +kernel) rfl (by decide +kernel) (fg_2_2 g2) (fr_7_1 (fg_2_2 g2)) ?_
      refine fs_iload (k := 5) (p := 55) (by decide +kernel) rfl rfl ?_
      refine fs_bipush (n := 9) (p := 57) (by decide +kernel) rfl kb_9 ?_
      refine fs_idiv (p := 58) (by decide +kernel) rfl (by decide) ?_
      obtain ⟨v6, w7, h⟩ := fx_bd h
      refine fs_iaload (p := 59) (by decide +kernel) rfl w7 ?_
      refine fs_istore (k := 6) (p := 61) (M := 7) (al' := [o0, o1, some (.ref x2), some (.double x3), none, some (.int x5), some (.int v6)]) (by decide +kernel) rfl mx_109 rfl rfl ?_
      refine fs_iload (k := 6) (p := 63) (by decide +kernel) rfl rfl ?_
      by_cases c10 : v6 ≤ 0
      · rw [if_pos c10] at h
        refine fs_if_le_t (off := 20) (t := 83) (by decide +kernel) (by decide +kernel) c10 ?_
        exact fe_109_83 hd ih _ _ _ _ _ _ _ _ g2 h
      · rw [if_neg c10] at h
        refine fs_if_le_f (off := 20) (t := 83) (p := 66) (by decide +kernel) (by decide +kernel) rfl c10 ?_
        refine fs_dload_n (k := 3) (p := 67) (by decide +kernel) rfl rfl ?_
        refine fs_aload_n (k := 2) (p := 68) (by decide +kernel) rfl rfl ?_
        refine fs_gfr (idx := 202) (ci := 2) (j := 2) (p := 71) (by decide +kernel) rfl (by decide +kernel) g2 (fr_2_2 g2) ?_
        refine fs_iload (k := 5) (p := 73) (by decide +kernel) rfl rfl ?_
        obtain ⟨q12, w11, h⟩ := fx_bd h
        refine fs_callV (idx := 287) (mj := 80) (ci := 7) (na := 1) (mx := 3) (p := 76) (args := [.ref (x2 + 3), .int x5]) (rest := [.double x3]) (al2 := [some (.ref (x2 + 3)), some (.int x5), none]) (by decide +kernel) rfl (by decide +kernel) (fg_2_2 g2) rfl rfl rfl rfl rfl rfl rfl (by omega) (fun d' hd' => fe_80 (by omega) w11) rfl ?_
        refine fs_l2d (p := 77) (by decide +kernel) rfl ?_
        refine fs_iload (k := 6) (p := 79) (by decide +kernel) rfl rfl ?_
        refine fs_i2d (p := 80) (by decide +kernel) rfl ?_
        obtain ⟨z14, h⟩ := fx_gd h
        refine fs_ddiv (p := 81) (by decide +kernel) rfl z14 ?_
        obtain ⟨z16, h⟩ := fx_gd h
        refine fs_dadd (p := 82) (by decide +kernel) rfl z16 ?_
        refine fs_dstore_n (k := 3) (p := 83) (M := 7) (al' := [o0, o1, some (.ref x2), some (.double (FP.dadd x3 (FP.ddiv (FP.l2d q12.1) (FP.i2d v6)))), none, some (.int x5), some (.int v6)]) (by decide +kernel) rfl mx_109 rfl rfl ?_
        exact fe_109_83 hd ih _ _ _ _ _ _ _ _ g2 h
def fm_109 (x1 : Int32) (σ : fx_S) : Option (Int64 × fx_S) :=
  (fm_114 x1 σ).bind fun q46 =>
  if (fx_b q46.1) = 0 then (
    fm_109_17 q46.2) else (
    (fm_57 1 q46.2).bind fun q49 =>
    if ¬ (fx_b q49.1) = 0 then (
      (fx_ldr 4 70 x1).bind fun v51 =>
      (fm_19 v51 (2 : Int32) q49.2).bind fun q56 =>
      fm_109_39 100000 v51 FP.dconst0 (0 : Int32) q56) else (
      fm_109_17 q49.2))
theorem fe_109 {d : Nat} (hd : 6 ≤ d) {x1 : Int32} {σ : fx_S} {q : Int64 × fx_S} (h : fm_109 x1 σ = some q) : fx_E none 109 d 0 [some (.ref 0), some (.int x1), none, none, none, none, none] [] σ (some (.long q.1)) q.2 := by
  unfold fm_109 at h
  refine fs_iload_n (k := 1) (p := 1) (by decide +kernel) rfl rfl ?_
  obtain ⟨q46, w45, h⟩ := fx_bd h
  refine fs_callS (idx := 94) (mj := 114) (na := 1) (mx := 1) (p := 4) (args := [.int x1]) (rest := []) (al2 := [some (.int x1)]) (by decide +kernel) rfl (by decide +kernel) rfl rfl rfl rfl rfl rfl rfl (by omega) (fun d' hd' => fe_114 (by omega) w45) rfl ?_
  by_cases c47 : (fx_b q46.1) = 0
  · rw [if_pos c47] at h
    refine fs_if_eq_t (off := 13) (t := 17) (by decide +kernel) (by decide +kernel) c47 ?_
    exact fe_109_17 hd _ _ _ _ h
  · rw [if_neg c47] at h
    refine fs_if_eq_f (off := 13) (t := 17) (p := 7) (by decide +kernel) (by decide +kernel) rfl c47 ?_
    refine fs_aload_n (k := 0) (p := 8) (by decide +kernel) rfl rfl ?_
    refine fs_gfr (idx := 13) (ci := 9) (j := 1) (p := 11) (by decide +kernel) rfl (by decide +kernel) fo_0 (fr_a0_1) ?_
    obtain ⟨q49, w48, h⟩ := fx_bd h
    refine fs_callV (idx := 146) (mj := 57) (ci := 6) (na := 0) (mx := 1) (p := 14) (args := [.ref 1]) (rest := []) (al2 := [some (.ref 1)]) (by decide +kernel) rfl (by decide +kernel) fo_1 rfl rfl rfl rfl rfl rfl rfl (by omega) (fun d' hd' => fe_57 (by omega) w48) rfl ?_
    by_cases c50 : ¬ (fx_b q49.1) = 0
    · rw [if_pos c50] at h
      refine fs_if_ne_t (off := 7) (t := 21) (by decide +kernel) (by decide +kernel) c50 ?_
      refine fs_aload_n (k := 0) (p := 22) (by decide +kernel) rfl rfl ?_
      refine fs_gfr (idx := 60) (ci := 9) (j := 6) (p := 25) (by decide +kernel) rfl (by decide +kernel) fo_0 (fr_a0_6) ?_
      refine fs_iload_n (k := 1) (p := 26) (by decide +kernel) rfl rfl ?_
      obtain ⟨v51, w52, h⟩ := fx_bd h
      have g53 := fa_70 w52
      refine fs_aaload (t := 4) (p := 27) (by decide +kernel) rfl (by decide +kernel) w52 ?_
      refine fs_astore_n (k := 2) (p := 28) (M := 7) (al' := [some (.ref 0), some (.int x1), some (.ref v51), none, none, none, none]) (by decide +kernel) rfl mx_109 rfl rfl ?_
      refine fs_aload_n (k := 2) (p := 29) (by decide +kernel) rfl rfl ?_
      refine fs_iconst (n := 2) (p := 30) (by decide +kernel) rfl kc_2 ?_
      obtain ⟨q56, w55, h⟩ := fx_bd h
      refine fs_callV (idx := 150) (mj := 19) (ci := 2) (na := 1) (mx := 2) (p := 33) (args := [.ref v51, .int (2 : Int32)]) (rest := []) (al2 := [some (.ref v51), some (.int (2 : Int32))]) (by decide +kernel) rfl (by decide +kernel) g53 rfl rfl rfl rfl rfl rfl rfl (by omega) (fun d' hd' => fe_19 (by omega) w55) rfl ?_
      refine fs_pop (p := 34) (by decide +kernel) rfl rfl ?_
      refine fs_dconst (n := 0) (p := 35) (by decide +kernel) rfl rfl ?_
      refine fs_dstore_n (k := 3) (p := 36) (M := 7) (al' := [some (.ref 0), some (.int x1), some (.ref v51), some (.double FP.dconst0), none, none, none]) (by decide +kernel) rfl mx_109 rfl rfl ?_
      refine fs_iconst (n := 0) (p := 37) (by decide +kernel) rfl kc_0 ?_
      refine fs_istore (k := 5) (p := 39) (M := 7) (al' := [some (.ref 0), some (.int x1), some (.ref v51), some (.double FP.dconst0), none, some (.int (0 : Int32)), none]) (by decide +kernel) rfl mx_109 rfl rfl ?_
      exact fe_109_39 hd 100000 _ _ _ _ _ _ _ _ g53 h
    · rw [if_neg c50] at h
      refine fs_if_ne_f (off := 7) (t := 21) (p := 17) (by decide +kernel) (by decide +kernel) rfl c50 ?_
      exact fe_109_17 hd _ _ _ _ h

/-! ZoneSharesModel.dense(III)J -/
theorem mx_203 : iv_mx 203 = 6 := by decide +kernel
theorem rt_203 : iv_rt 203 = some .long := by decide +kernel
def fm_203_47 (σ : fx_S) : Option (Int64 × fx_S) :=
  some ((-9223372036854775808 : Int64), σ)
theorem fe_203_47 {d : Nat} (hd : 31 ≤ d) (o0 : Option Value) (o1 : Option Value) (o2 : Option Value) (o3 : Option Value) (σ : fx_S) (q : Int64 × fx_S) (h : fm_203_47  σ = some q) : fx_E none 203 d 47 [o0, o1, o2, o3, none, none] [] σ (some (.long q.1)) q.2 := by
  unfold fm_203_47 at h
  refine fs_ldc2 (idx := 357) (p := 50) (x := -9223372036854775808) (by decide +kernel) rfl (by decide +kernel) ?_
  have h := Option.some.inj h
  subst h
  exact fs_lret (by decide +kernel) rt_203
def fm_203 (x1 : Int32) (x2 : Int32) (x3 : Int32) (σ : fx_S) : Option (Int64 × fx_S) :=
  (fm_150 σ).bind fun q42 =>
  if (fx_b q42.1) = 0 then (
    fm_203_47 q42.2) else (
    (fm_148 x1 q42.2).bind fun q45 =>
    if (fx_b q45.1) = 0 then (
      fm_203_47 q45.2) else (
      (fm_130 (x2).toInt64 (0 : Int64) (7 : Int64) q45.2).bind fun q49 =>
      if (fx_b q49.1) = 0 then (
        fm_203_47 q49.2) else (
        (fm_153 (1 : Int32) x2 q49.2).bind fun q52 =>
        if (fx_b q52.1) = 0 then (
          fm_203_47 q52.2) else (
          (fm_130 (x3).toInt64 (0 : Int64) (3 : Int64) q52.2).bind fun q56 =>
          if ¬ (fx_b q56.1) = 0 then (
            (fm_181 x1 q56.2).bind fun q59 =>
            (fm_173 q59).bind fun q61 =>
            (fm_183 x2 q61).bind fun q63 =>
            (fm_202 x2 q63.2).bind fun q65 =>
            if id_n6 (FP.ddiv (FP.i2d q63.1) (FP.i2d q65.1)) = true then (
            if x3 = (0 : Int32) then (
              if id_n6 (FP.ddiv (FP.i2d q63.1) (FP.i2d q65.1)) = true then (
              some (((FP.ddiv (FP.i2d q63.1) (FP.i2d q65.1))).toInt64, q65.2)) else none) else (
              if x3 = (1 : Int32) then (
                if id_n3 (FP.d2f (FP.ddiv (FP.i2d q63.1) (FP.i2d q65.1))) = true then (
                if id_n3 (FP.d2f (FP.ddiv (FP.i2d q63.1) (FP.i2d q65.1))) = true then (
                some ((((FP.d2f (FP.ddiv (FP.i2d q63.1) (FP.i2d q65.1)))).toInt32).toInt64, q65.2)) else none) else none) else (
                if x3 = (2 : Int32) then (
                  if id_n6 (FP.drem (FP.ddiv (FP.i2d q63.1) (FP.i2d q65.1)) FP.dconst1) = true then (
                  if id_n6 (FP.drem (FP.ddiv (FP.i2d q63.1) (FP.i2d q65.1)) FP.dconst1) = true then (
                  some (((FP.drem (FP.ddiv (FP.i2d q63.1) (FP.i2d q65.1)) FP.dconst1)).toInt64, q65.2)) else none) else none) else (
                  if id_n6 (FP.ddiv (FP.ddiv (FP.i2d q63.1) (FP.i2d q65.1)) (4602678819172646912 : UInt64)) = true then (
                  if id_n6 (FP.ddiv (FP.ddiv (FP.i2d q63.1) (FP.i2d q65.1)) (4602678819172646912 : UInt64)) = true then (
                  some ((FP.d2l (Jvm.Free.Hsc.floorOf (FP.ddiv (FP.ddiv (FP.i2d q63.1) (FP.i2d q65.1)) (4602678819172646912 : UInt64)))), q65.2)) else none) else none)))) else none) else (
            fm_203_47 q56.2)))))
theorem fe_203 {d : Nat} (hd : 31 ≤ d) {x1 : Int32} {x2 : Int32} {x3 : Int32} {σ : fx_S} {q : Int64 × fx_S} (h : fm_203 x1 x2 x3 σ = some q) : fx_E none 203 d 0 [some (.ref 215), some (.int x1), some (.int x2), some (.int x3), none, none] [] σ (some (.long q.1)) q.2 := by
  unfold fm_203 at h
  refine fs_aload_n (k := 0) (p := 1) (by decide +kernel) rfl rfl ?_
  obtain ⟨q42, w41, h⟩ := fx_bd h
  refine fs_callV (idx := 303) (mj := 150) (ci := 10) (na := 0) (mx := 1) (p := 4) (args := [.ref 215]) (rest := []) (al2 := [some (.ref 215)]) (by decide +kernel) rfl (by decide +kernel) fo_215 rfl rfl rfl rfl rfl rfl rfl (by omega) (fun d' hd' => fe_150 (by omega) w41) rfl ?_
  by_cases c43 : (fx_b q42.1) = 0
  · rw [if_pos c43] at h
    refine fs_if_eq_t (off := 43) (t := 47) (by decide +kernel) (by decide +kernel) c43 ?_
    exact fe_203_47 hd _ _ _ _ _ _ h
  · rw [if_neg c43] at h
    refine fs_if_eq_f (off := 43) (t := 47) (p := 7) (by decide +kernel) (by decide +kernel) rfl c43 ?_
    refine fs_iload_n (k := 1) (p := 8) (by decide +kernel) rfl rfl ?_
    obtain ⟨q45, w44, h⟩ := fx_bd h
    refine fs_callS (idx := 190) (mj := 148) (na := 1) (mx := 1) (p := 11) (args := [.int x1]) (rest := []) (al2 := [some (.int x1)]) (by decide +kernel) rfl (by decide +kernel) rfl rfl rfl rfl rfl rfl rfl (by omega) (fun d' hd' => fe_148 (by omega) w44) rfl ?_
    by_cases c46 : (fx_b q45.1) = 0
    · rw [if_pos c46] at h
      refine fs_if_eq_t (off := 36) (t := 47) (by decide +kernel) (by decide +kernel) c46 ?_
      exact fe_203_47 hd _ _ _ _ _ _ h
    · rw [if_neg c46] at h
      refine fs_if_eq_f (off := 36) (t := 47) (p := 14) (by decide +kernel) (by decide +kernel) rfl c46 ?_
      refine fs_iload_n (k := 2) (p := 15) (by decide +kernel) rfl rfl ?_
      refine fs_i2l (p := 16) (by decide +kernel) rfl ?_
      refine fs_lconst (n := 0) (p := 17) (by decide +kernel) rfl kl_0 ?_
      refine fs_ldc2 (idx := 308) (p := 20) (x := 7) (by decide +kernel) rfl (by decide +kernel) ?_
      obtain ⟨q49, w48, h⟩ := fx_bd h
      refine fs_callS (idx := 128) (mj := 130) (na := 3) (mx := 6) (p := 23) (args := [.long (x2).toInt64, .long (0 : Int64), .long (7 : Int64)]) (rest := []) (al2 := [some (.long (x2).toInt64), none, some (.long (0 : Int64)), none, some (.long (7 : Int64)), none]) (by decide +kernel) rfl (by decide +kernel) rfl rfl rfl rfl rfl rfl rfl (by omega) (fun d' hd' => fe_130 (by omega) w48) rfl ?_
      by_cases c50 : (fx_b q49.1) = 0
      · rw [if_pos c50] at h
        refine fs_if_eq_t (off := 24) (t := 47) (by decide +kernel) (by decide +kernel) c50 ?_
        exact fe_203_47 hd _ _ _ _ _ _ h
      · rw [if_neg c50] at h
        refine fs_if_eq_f (off := 24) (t := 47) (p := 26) (by decide +kernel) (by decide +kernel) rfl c50 ?_
        refine fs_aload_n (k := 0) (p := 27) (by decide +kernel) rfl rfl ?_
        refine fs_iconst (n := 1) (p := 28) (by decide +kernel) rfl kc_1 ?_
        refine fs_iload_n (k := 2) (p := 29) (by decide +kernel) rfl rfl ?_
        obtain ⟨q52, w51, h⟩ := fx_bd h
        refine fs_callV (idx := 202) (mj := 153) (ci := 10) (na := 2) (mx := 4) (p := 32) (args := [.ref 215, .int (1 : Int32), .int x2]) (rest := []) (al2 := [some (.ref 215), some (.int (1 : Int32)), some (.int x2), none]) (by decide +kernel) rfl (by decide +kernel) fo_215 rfl rfl rfl rfl rfl rfl rfl (by omega) (fun d' hd' => fe_153 (by omega) w51) rfl ?_
        by_cases c53 : (fx_b q52.1) = 0
        · rw [if_pos c53] at h
          refine fs_if_eq_t (off := 15) (t := 47) (by decide +kernel) (by decide +kernel) c53 ?_
          exact fe_203_47 hd _ _ _ _ _ _ h
        · rw [if_neg c53] at h
          refine fs_if_eq_f (off := 15) (t := 47) (p := 35) (by decide +kernel) (by decide +kernel) rfl c53 ?_
          refine fs_iload_n (k := 3) (p := 36) (by decide +kernel) rfl rfl ?_
          refine fs_i2l (p := 37) (by decide +kernel) rfl ?_
          refine fs_lconst (n := 0) (p := 38) (by decide +kernel) rfl kl_0 ?_
          refine fs_ldc2 (idx := 327) (p := 41) (x := 3) (by decide +kernel) rfl (by decide +kernel) ?_
          obtain ⟨q56, w55, h⟩ := fx_bd h
          refine fs_callS (idx := 128) (mj := 130) (na := 3) (mx := 6) (p := 44) (args := [.long (x3).toInt64, .long (0 : Int64), .long (3 : Int64)]) (rest := []) (al2 := [some (.long (x3).toInt64), none, some (.long (0 : Int64)), none, some (.long (3 : Int64)), none]) (by decide +kernel) rfl (by decide +kernel) rfl rfl rfl rfl rfl rfl rfl (by omega) (fun d' hd' => fe_130 (by omega) w55) rfl ?_
          by_cases c57 : ¬ (fx_b q56.1) = 0
          · rw [if_pos c57] at h
            refine fs_if_ne_t (off := 7) (t := 51) (by decide +kernel) (by decide +kernel) c57 ?_
            refine fs_aload_n (k := 0) (p := 52) (by decide +kernel) rfl rfl ?_
            refine fs_iload_n (k := 1) (p := 53) (by decide +kernel) rfl rfl ?_
            obtain ⟨q59, w58, h⟩ := fx_bd h
            refine fs_callV (idx := 312) (mj := 181) (ci := 10) (na := 1) (mx := 5) (p := 56) (args := [.ref 215, .int x1]) (rest := []) (al2 := [some (.ref 215), some (.int x1), none, none, none]) (by decide +kernel) rfl (by decide +kernel) fo_215 rfl rfl rfl rfl rfl rfl rfl (by omega) (fun d' hd' => fe_181 (by omega) w58) rfl ?_
            refine fs_aload_n (k := 0) (p := 57) (by decide +kernel) rfl rfl ?_
            obtain ⟨q61, w60, h⟩ := fx_bd h
            refine fs_callV (idx := 315) (mj := 173) (ci := 10) (na := 0) (mx := 2) (p := 60) (args := [.ref 215]) (rest := []) (al2 := [some (.ref 215), none]) (by decide +kernel) rfl (by decide +kernel) fo_215 rfl rfl rfl rfl rfl rfl rfl (by omega) (fun d' hd' => fe_173 (by omega) w60) rfl ?_
            refine fs_aload_n (k := 0) (p := 61) (by decide +kernel) rfl rfl ?_
            refine fs_iload_n (k := 2) (p := 62) (by decide +kernel) rfl rfl ?_
            obtain ⟨q63, w62, h⟩ := fx_bd h
            refine fs_callV (idx := 321) (mj := 183) (ci := 10) (na := 1) (mx := 4) (p := 65) (args := [.ref 215, .int x2]) (rest := []) (al2 := [some (.ref 215), some (.int x2), none, none]) (by decide +kernel) rfl (by decide +kernel) fo_215 rfl rfl rfl rfl rfl rfl rfl (by omega) (fun d' hd' => fe_183 (by omega) w62) rfl ?_
            refine fs_i2d (p := 66) (by decide +kernel) rfl ?_
            refine fs_aload_n (k := 0) (p := 67) (by decide +kernel) rfl rfl ?_
            refine fs_iload_n (k := 2) (p := 68) (by decide +kernel) rfl rfl ?_
            obtain ⟨q65, w64, h⟩ := fx_bd h
            refine fs_callV (idx := 359) (mj := 202) (ci := 10) (na := 1) (mx := 4) (p := 71) (args := [.ref 215, .int x2]) (rest := [.double (FP.i2d q63.1)]) (al2 := [some (.ref 215), some (.int x2), none, none]) (by decide +kernel) rfl (by decide +kernel) fo_215 rfl rfl rfl rfl rfl rfl rfl (by omega) (fun d' hd' => fe_202 (by omega) w64) rfl ?_
            refine fs_i2d (p := 72) (by decide +kernel) rfl ?_
            obtain ⟨z67, h⟩ := fx_gd h
            refine fs_ddiv (p := 73) (by decide +kernel) rfl z67 ?_
            refine fs_dstore (k := 4) (p := 75) (M := 6) (al' := [some (.ref 215), some (.int x1), some (.int x2), some (.int x3), some (.double (FP.ddiv (FP.i2d q63.1) (FP.i2d q65.1))), none]) (by decide +kernel) rfl mx_203 rfl rfl ?_
            refine fs_iload_n (k := 3) (p := 76) (by decide +kernel) rfl rfl ?_
            by_cases c68 : x3 = (0 : Int32)
            · rw [if_pos c68] at h
              refine fs_tsw_h (dflt := 50) (lo := 0) (hi := 2) (offs := #[28, 34, 42]) (x := x3) (j := 0) (t := 104) (by decide +kernel) (by decide +kernel) (by decide) (c68.trans (by decide)) ?_
              refine fs_dload (k := 4) (p := 106) (by decide +kernel) rfl rfl ?_
              obtain ⟨z80, h⟩ := fx_gd h
              refine fs_jdk1 (idx := 362) (p := 109) (by decide +kernel) rfl (by decide +kernel) rfl z80 ?_
              have h := Option.some.inj h
              subst h
              exact fs_lret (by decide +kernel) rt_203
            · rw [if_neg c68] at h
              by_cases c69 : x3 = (1 : Int32)
              · rw [if_pos c69] at h
                refine fs_tsw_h (dflt := 50) (lo := 0) (hi := 2) (offs := #[28, 34, 42]) (x := x3) (j := 1) (t := 110) (by decide +kernel) (by decide +kernel) (by decide) (c69.trans (by decide)) ?_
                refine fs_dload (k := 4) (p := 112) (by decide +kernel) rfl rfl ?_
                obtain ⟨z78, h⟩ := fx_gd h
                refine fs_d2f (p := 113) (by decide +kernel) rfl z78 ?_
                obtain ⟨z79, h⟩ := fx_gd h
                refine fs_jdk2 (idx := 368) (p := 116) (by decide +kernel) rfl (by decide +kernel) rfl z79 ?_
                refine fs_i2l (p := 117) (by decide +kernel) rfl ?_
                have h := Option.some.inj h
                subst h
                exact fs_lret (by decide +kernel) rt_203
              · rw [if_neg c69] at h
                by_cases c70 : x3 = (2 : Int32)
                · rw [if_pos c70] at h
                  refine fs_tsw_h (dflt := 50) (lo := 0) (hi := 2) (offs := #[28, 34, 42]) (x := x3) (j := 2) (t := 118) (by decide +kernel) (by decide +kernel) (by decide) (c70.trans (by decide)) ?_
                  refine fs_dload (k := 4) (p := 120) (by decide +kernel) rfl rfl ?_
                  refine fs_dconst (n := 1) (p := 121) (by decide +kernel) rfl rfl ?_
                  obtain ⟨z75, h⟩ := fx_gd h
                  refine fs_drem (p := 122) (by decide +kernel) rfl z75 ?_
                  obtain ⟨z76, h⟩ := fx_gd h
                  refine fs_jdk1 (idx := 362) (p := 125) (by decide +kernel) rfl (by decide +kernel) rfl z76 ?_
                  have h := Option.some.inj h
                  subst h
                  exact fs_lret (by decide +kernel) rt_203
                · rw [if_neg c70] at h
                  refine fs_tsw_d (dflt := 50) (lo := 0) (hi := 2) (offs := #[28, 34, 42]) (x := x3) (t := 126) (by decide +kernel) (by decide +kernel) (by decide) (by decide) (fun j hj => by match j, hj with | 0, _ => exact c68 | 1, _ => exact c69 | 2, _ => exact c70) ?_
                  refine fs_dload (k := 4) (p := 128) (by decide +kernel) rfl rfl ?_
                  refine fs_ldc2d (idx := 374) (p := 131) (x := 4602678819172646912) (by decide +kernel) rfl (by decide +kernel) (by decide +kernel) ?_
                  obtain ⟨z72, h⟩ := fx_gd h
                  refine fs_ddiv (p := 132) (by decide +kernel) rfl z72 ?_
                  obtain ⟨z73, h⟩ := fx_gd h
                  refine fs_jdk4 (idx := 376) (p := 135) (by decide +kernel) rfl (by decide +kernel) rfl z73 ?_
                  refine fs_d2l (p := 136) (by decide +kernel) rfl ?_
                  have h := Option.some.inj h
                  subst h
                  exact fs_lret (by decide +kernel) rt_203
          · rw [if_neg c57] at h
            refine fs_if_ne_f (off := 7) (t := 51) (p := 47) (by decide +kernel) (by decide +kernel) rfl c57 ?_
            exact fe_203_47 hd _ _ _ _ _ _ h

/-! ZoneSharesModel.off(I)J -/
theorem mx_204 : iv_mx 204 = 8 := by decide +kernel
theorem rt_204 : iv_rt 204 = some .long := by decide +kernel
def fm_204_14 (σ : fx_S) : Option (Int64 × fx_S) :=
  some ((-9223372036854775808 : Int64), σ)
theorem fe_204_14 {d : Nat} (hd : 31 ≤ d) (o0 : Option Value) (o1 : Option Value) (σ : fx_S) (q : Int64 × fx_S) (h : fm_204_14  σ = some q) : fx_E none 204 d 14 [o0, o1, none, none, none, none, none, none] [] σ (some (.long q.1)) q.2 := by
  unfold fm_204_14 at h
  refine fs_ldc2 (idx := 357) (p := 17) (x := -9223372036854775808) (by decide +kernel) rfl (by decide +kernel) ?_
  have h := Option.some.inj h
  subst h
  exact fs_lret (by decide +kernel) rt_204
def fm_204_120 (k_32 : UInt64 → Int32 → fx_S → Option (Int64 × fx_S)) (x2 : UInt64) (x4 : Int32) (σ : fx_S) : Option (Int64 × fx_S) :=
  k_32 x2 (x4 + (1 : Int32)) σ
theorem fe_204_120 {d : Nat} (hd : 31 ≤ d) {k_32 : UInt64 → Int32 → fx_S → Option (Int64 × fx_S)} (hk_32 : ∀ (x2 : UInt64) (x4 : Int32) (o1 : Option Value) (o5 : Option Value) (o6 : Option Value) (σ : fx_S) (q : Int64 × fx_S), k_32 x2 x4 σ = some q → fx_E none 204 d 32 [some (.ref 215), o1, some (.double x2), none, some (.int x4), o5, o6, none] [] σ (some (.long q.1)) q.2) (x2 : UInt64) (x4 : Int32) (o1 : Option Value) (o5 : Option Value) (o6 : Option Value) (σ : fx_S) (q : Int64 × fx_S) (h : fm_204_120 k_32  x2 x4 σ = some q) : fx_E none 204 d 120 [some (.ref 215), o1, some (.double x2), none, some (.int x4), o5, o6, none] [] σ (some (.long q.1)) q.2 := by
  unfold fm_204_120 at h
  refine fs_iinc (k := 4) (n := 1) (p := 123) (M := 8) (al' := [some (.ref 215), o1, some (.double x2), none, some (.int (x4 + (1 : Int32))), o5, o6, none]) (by decide +kernel) rfl kc_1 mx_204 rfl rfl rfl ?_
  refine fs_goto (off := -91) (p := 32) (by decide +kernel) (by decide +kernel) ?_
  exact hk_32 _ _ _ _ _ _ _ h
def fm_204_42 (k_32 : UInt64 → Int32 → fx_S → Option (Int64 × fx_S)) : Nat → UInt64 → Int32 → Int32 → fx_S → Option (Int64 × fx_S)
  | 0, _, _, _, _ => none
  | n + 1, x2, x4, x5, σ =>
    if (9 : Int32) ≤ x5 then (
      fm_204_120 k_32 x2 x4 σ) else (
      (fx_ld σ 223 x4).bind fun v3 =>
      if v3 ≤ 0 then (
        fm_204_120 k_32 x2 x4 σ) else (
        (fx_ldl σ 221 x4).bind fun v8 =>
        (fm_160 x4 x5 σ).bind fun q11 =>
        (fx_ld q11.2 222 q11.1).bind fun v12 =>
        (fx_ld q11.2 223 x4).bind fun v16 =>
        if id_n6 (FP.ddiv (FP.l2d (v8 * (v12).toInt64)) (FP.i2d v16)) = true then (
        (fm_160 x4 x5 q11.2).bind fun q21 =>
        (fx_ldl q21.2 224 q21.1).bind fun v22 =>
        if id_n6 (FP.dsub (FP.l2d v22) (FP.ddiv (FP.l2d (v8 * (v12).toInt64)) (FP.i2d v16))) = true then (
        if id_n6 (FP.dsub (FP.l2d v22) (FP.ddiv (FP.l2d (v8 * (v12).toInt64)) (FP.i2d v16))) = true then (
        if id_n6 (FP.dadd x2 ((FP.dsub (FP.l2d v22) (FP.ddiv (FP.l2d (v8 * (v12).toInt64)) (FP.i2d v16))) &&& 0x7fffffffffffffff)) = true then (
        fm_204_42 k_32 n (FP.dadd x2 ((FP.dsub (FP.l2d v22) (FP.ddiv (FP.l2d (v8 * (v12).toInt64)) (FP.i2d v16))) &&& 0x7fffffffffffffff)) x4 (x5 + (1 : Int32)) q21.2) else none) else none) else none) else none))
theorem fe_204_42 {d : Nat} (hd : 31 ≤ d) {k_32 : UInt64 → Int32 → fx_S → Option (Int64 × fx_S)} (hk_32 : ∀ (x2 : UInt64) (x4 : Int32) (o1 : Option Value) (o5 : Option Value) (o6 : Option Value) (σ : fx_S) (q : Int64 × fx_S), k_32 x2 x4 σ = some q → fx_E none 204 d 32 [some (.ref 215), o1, some (.double x2), none, some (.int x4), o5, o6, none] [] σ (some (.long q.1)) q.2) : ∀ (n : Nat) (x2 : UInt64) (x4 : Int32) (x5 : Int32) (o1 : Option Value) (o6 : Option Value) (σ : fx_S) (q : Int64 × fx_S), fm_204_42 k_32 n x2 x4 x5 σ = some q → fx_E none 204 d 42 [some (.ref 215), o1, some (.double x2), none, some (.int x4), some (.int x5), o6, none] [] σ (some (.long q.1)) q.2 := by
  intro n
  induction n with
  | zero =>
    intro x2 x4 x5 o1 o6 σ q  h
    rw [fm_204_42] at h
    exact fx_no h
  | succ n ih =>
    intro x2 x4 x5 o1 o6 σ q  h
    rw [fm_204_42] at h
    refine fs_iload (k := 5) (p := 44) (by decide +kernel) rfl rfl ?_
    refine fs_bipush (n := 9) (p := 46) (by decide +kernel) rfl kb_9 ?_
    by_cases c2 : (9 : Int32) ≤ x5
    · rw [if_pos c2] at h
      refine fs_icmp_ge_t (off := 74) (t := 120) (by decide +kernel) (by decide +kernel) c2 ?_
      exact fe_204_120 hd hk_32 _ _ _ _ _ _ _ h
    · rw [if_neg c2] at h
      refine fs_icmp_ge_f (off := 74) (t := 120) (p := 49) (by decide +kernel) (by decide +kernel) rfl c2 ?_
      refine fs_aload_n (k := 0) (p := 50) (by decide +kernel) rfl rfl ?_
      refine fs_gfr (idx := 33) (ci := 10) (j := 14) (p := 53) (by decide +kernel) rfl (by decide +kernel) fo_215 (fr_a215_14) ?_
      refine fs_iload (k := 4) (p := 55) (by decide +kernel) rfl rfl ?_
      obtain ⟨v3, w4, h⟩ := fx_bd h
      refine fs_iaload (p := 56) (by decide +kernel) rfl w4 ?_
      by_cases c7 : v3 ≤ 0
      · rw [if_pos c7] at h
        refine fs_if_le_t (off := 64) (t := 120) (by decide +kernel) (by decide +kernel) c7 ?_
        exact fe_204_120 hd hk_32 _ _ _ _ _ _ _ h
      · rw [if_neg c7] at h
        refine fs_if_le_f (off := 64) (t := 120) (p := 59) (by decide +kernel) (by decide +kernel) rfl c7 ?_
        refine fs_aload_n (k := 0) (p := 60) (by decide +kernel) rfl rfl ?_
        refine fs_gfr (idx := 26) (ci := 10) (j := 12) (p := 63) (by decide +kernel) rfl (by decide +kernel) fo_215 (fr_a215_12) ?_
        refine fs_iload (k := 4) (p := 65) (by decide +kernel) rfl rfl ?_
        obtain ⟨v8, w9, h⟩ := fx_bd h
        refine fs_laload (p := 66) (by decide +kernel) rfl w9 ?_
        refine fs_aload_n (k := 0) (p := 67) (by decide +kernel) rfl rfl ?_
        refine fs_gfr (idx := 30) (ci := 10) (j := 13) (p := 70) (by decide +kernel) rfl (by decide +kernel) fo_215 (fr_a215_13) ?_
        refine fs_iload (k := 4) (p := 72) (by decide +kernel) rfl rfl ?_
        refine fs_iload (k := 5) (p := 74) (by decide +kernel) rfl rfl ?_
        obtain ⟨q11, w10, h⟩ := fx_bd h
        refine fs_callS (idx := 214) (mj := 160) (na := 2) (mx := 2) (p := 77) (args := [.int x4, .int x5]) (rest := [.ref 222, .long v8]) (al2 := [some (.int x4), some (.int x5)]) (by decide +kernel) rfl (by decide +kernel) rfl rfl rfl rfl rfl rfl rfl (by omega) (fun d' hd' => fe_160 (by omega) w10) rfl ?_
        obtain ⟨v12, w13, h⟩ := fx_bd h
        refine fs_iaload (p := 78) (by decide +kernel) rfl w13 ?_
        refine fs_i2l (p := 79) (by decide +kernel) rfl ?_
        refine fs_lmul (p := 80) (by decide +kernel) rfl ?_
        refine fs_l2d (p := 81) (by decide +kernel) rfl ?_
        refine fs_aload_n (k := 0) (p := 82) (by decide +kernel) rfl rfl ?_
        refine fs_gfr (idx := 33) (ci := 10) (j := 14) (p := 85) (by decide +kernel) rfl (by decide +kernel) fo_215 (fr_a215_14) ?_
        refine fs_iload (k := 4) (p := 87) (by decide +kernel) rfl rfl ?_
        obtain ⟨v16, w17, h⟩ := fx_bd h
        refine fs_iaload (p := 88) (by decide +kernel) rfl w17 ?_
        refine fs_i2d (p := 89) (by decide +kernel) rfl ?_
        obtain ⟨z19, h⟩ := fx_gd h
        refine fs_ddiv (p := 90) (by decide +kernel) rfl z19 ?_
        refine fs_dstore (k := 6) (p := 92) (M := 8) (al' := [some (.ref 215), o1, some (.double x2), none, some (.int x4), some (.int x5), some (.double (FP.ddiv (FP.l2d (v8 * (v12).toInt64)) (FP.i2d v16))), none]) (by decide +kernel) rfl mx_204 rfl rfl ?_
        refine fs_dload_n (k := 2) (p := 93) (by decide +kernel) rfl rfl ?_
        refine fs_aload_n (k := 0) (p := 94) (by decide +kernel) rfl rfl ?_
        refine fs_gfr (idx := 36) (ci := 10) (j := 15) (p := 97) (by decide +kernel) rfl (by decide +kernel) fo_215 (fr_a215_15) ?_
        refine fs_iload (k := 4) (p := 99) (by decide +kernel) rfl rfl ?_
        refine fs_iload (k := 5) (p := 101) (by decide +kernel) rfl rfl ?_
        obtain ⟨q21, w20, h⟩ := fx_bd h
        refine fs_callS (idx := 214) (mj := 160) (na := 2) (mx := 2) (p := 104) (args := [.int x4, .int x5]) (rest := [.ref 224, .double x2]) (al2 := [some (.int x4), some (.int x5)]) (by decide +kernel) rfl (by decide +kernel) rfl rfl rfl rfl rfl rfl rfl (by omega) (fun d' hd' => fe_160 (by omega) w20) rfl ?_
        obtain ⟨v22, w23, h⟩ := fx_bd h
        refine fs_laload (p := 105) (by decide +kernel) rfl w23 ?_
        refine fs_l2d (p := 106) (by decide +kernel) rfl ?_
        refine fs_dload (k := 6) (p := 108) (by decide +kernel) rfl rfl ?_
        obtain ⟨z26, h⟩ := fx_gd h
        refine fs_dsub (p := 109) (by decide +kernel) rfl z26 ?_
        obtain ⟨z27, h⟩ := fx_gd h
        refine fs_jdk3 (idx := 380) (p := 112) (by decide +kernel) rfl (by decide +kernel) rfl z27 ?_
        obtain ⟨z29, h⟩ := fx_gd h
        refine fs_dadd (p := 113) (by decide +kernel) rfl z29 ?_
        refine fs_dstore_n (k := 2) (p := 114) (M := 8) (al' := [some (.ref 215), (fx_kl o1), some (.double (FP.dadd x2 ((FP.dsub (FP.l2d v22) (FP.ddiv (FP.l2d (v8 * (v12).toInt64)) (FP.i2d v16))) &&& 0x7fffffffffffffff))), none, some (.int x4), some (.int x5), some (.double (FP.ddiv (FP.l2d (v8 * (v12).toInt64)) (FP.i2d v16))), none]) (by decide +kernel) rfl mx_204 rfl rfl ?_
        refine fs_iinc (k := 5) (n := 1) (p := 117) (M := 8) (al' := [some (.ref 215), (fx_kl o1), some (.double (FP.dadd x2 ((FP.dsub (FP.l2d v22) (FP.ddiv (FP.l2d (v8 * (v12).toInt64)) (FP.i2d v16))) &&& 0x7fffffffffffffff))), none, some (.int x4), some (.int (x5 + (1 : Int32))), some (.double (FP.ddiv (FP.l2d (v8 * (v12).toInt64)) (FP.i2d v16))), none]) (by decide +kernel) rfl kc_1 mx_204 rfl rfl rfl ?_
        refine fs_goto (off := -75) (p := 42) (by decide +kernel) (by decide +kernel) ?_
        exact ih _ _ _ _ _ _ _ h
def fm_204_32 : Nat → UInt64 → Int32 → fx_S → Option (Int64 × fx_S)
  | 0, _, _, _ => none
  | n + 1, x2, x4, σ =>
    if (8 : Int32) ≤ x4 then (
      if id_n6 x2 = true then (
      some ((x2).toInt64, σ)) else none) else (
      fm_204_42 (fm_204_32 n) 100000 x2 x4 (0 : Int32) σ)
theorem fe_204_32 {d : Nat} (hd : 31 ≤ d) : ∀ (n : Nat) (x2 : UInt64) (x4 : Int32) (o1 : Option Value) (o5 : Option Value) (o6 : Option Value) (σ : fx_S) (q : Int64 × fx_S), fm_204_32 n x2 x4 σ = some q → fx_E none 204 d 32 [some (.ref 215), o1, some (.double x2), none, some (.int x4), o5, o6, none] [] σ (some (.long q.1)) q.2 := by
  intro n
  induction n with
  | zero =>
    intro x2 x4 o1 o5 o6 σ q  h
    rw [fm_204_32] at h
    exact fx_no h
  | succ n ih =>
    intro x2 x4 o1 o5 o6 σ q  h
    rw [fm_204_32] at h
    refine fs_iload (k := 4) (p := 34) (by decide +kernel) rfl rfl ?_
    refine fs_bipush (n := 8) (p := 36) (by decide +kernel) rfl kb_8 ?_
    by_cases c2 : (8 : Int32) ≤ x4
    · rw [if_pos c2] at h
      refine fs_icmp_ge_t (off := 90) (t := 126) (by decide +kernel) (by decide +kernel) c2 ?_
      refine fs_dload_n (k := 2) (p := 127) (by decide +kernel) rfl rfl ?_
      obtain ⟨z4, h⟩ := fx_gd h
      refine fs_jdk1 (idx := 362) (p := 130) (by decide +kernel) rfl (by decide +kernel) rfl z4 ?_
      have h := Option.some.inj h
      subst h
      exact fs_lret (by decide +kernel) rt_204
    · rw [if_neg c2] at h
      refine fs_icmp_ge_f (off := 90) (t := 126) (p := 39) (by decide +kernel) (by decide +kernel) rfl c2 ?_
      refine fs_iconst (n := 0) (p := 40) (by decide +kernel) rfl kc_0 ?_
      refine fs_istore (k := 5) (p := 42) (M := 8) (al' := [some (.ref 215), o1, some (.double x2), none, some (.int x4), some (.int (0 : Int32)), o6, none]) (by decide +kernel) rfl mx_204 rfl rfl ?_
      exact fe_204_42 hd ih 100000 _ _ _ _ _ _ _ h
def fm_204 (x1 : Int32) (σ : fx_S) : Option (Int64 × fx_S) :=
  (fm_150 σ).bind fun q78 =>
  if (fx_b q78.1) = 0 then (
    fm_204_14 q78.2) else (
    (fm_148 x1 q78.2).bind fun q81 =>
    if ¬ (fx_b q81.1) = 0 then (
      (fm_181 x1 q81.2).bind fun q84 =>
      (fm_173 q84).bind fun q86 =>
      fm_204_32 100000 FP.dconst0 (0 : Int32) q86) else (
      fm_204_14 q81.2))
theorem fe_204 {d : Nat} (hd : 31 ≤ d) {x1 : Int32} {σ : fx_S} {q : Int64 × fx_S} (h : fm_204 x1 σ = some q) : fx_E none 204 d 0 [some (.ref 215), some (.int x1), none, none, none, none, none, none] [] σ (some (.long q.1)) q.2 := by
  unfold fm_204 at h
  refine fs_aload_n (k := 0) (p := 1) (by decide +kernel) rfl rfl ?_
  obtain ⟨q78, w77, h⟩ := fx_bd h
  refine fs_callV (idx := 303) (mj := 150) (ci := 10) (na := 0) (mx := 1) (p := 4) (args := [.ref 215]) (rest := []) (al2 := [some (.ref 215)]) (by decide +kernel) rfl (by decide +kernel) fo_215 rfl rfl rfl rfl rfl rfl rfl (by omega) (fun d' hd' => fe_150 (by omega) w77) rfl ?_
  by_cases c79 : (fx_b q78.1) = 0
  · rw [if_pos c79] at h
    refine fs_if_eq_t (off := 10) (t := 14) (by decide +kernel) (by decide +kernel) c79 ?_
    exact fe_204_14 hd _ _ _ _ h
  · rw [if_neg c79] at h
    refine fs_if_eq_f (off := 10) (t := 14) (p := 7) (by decide +kernel) (by decide +kernel) rfl c79 ?_
    refine fs_iload_n (k := 1) (p := 8) (by decide +kernel) rfl rfl ?_
    obtain ⟨q81, w80, h⟩ := fx_bd h
    refine fs_callS (idx := 190) (mj := 148) (na := 1) (mx := 1) (p := 11) (args := [.int x1]) (rest := []) (al2 := [some (.int x1)]) (by decide +kernel) rfl (by decide +kernel) rfl rfl rfl rfl rfl rfl rfl (by omega) (fun d' hd' => fe_148 (by omega) w80) rfl ?_
    by_cases c82 : ¬ (fx_b q81.1) = 0
    · rw [if_pos c82] at h
      refine fs_if_ne_t (off := 7) (t := 18) (by decide +kernel) (by decide +kernel) c82 ?_
      refine fs_aload_n (k := 0) (p := 19) (by decide +kernel) rfl rfl ?_
      refine fs_iload_n (k := 1) (p := 20) (by decide +kernel) rfl rfl ?_
      obtain ⟨q84, w83, h⟩ := fx_bd h
      refine fs_callV (idx := 312) (mj := 181) (ci := 10) (na := 1) (mx := 5) (p := 23) (args := [.ref 215, .int x1]) (rest := []) (al2 := [some (.ref 215), some (.int x1), none, none, none]) (by decide +kernel) rfl (by decide +kernel) fo_215 rfl rfl rfl rfl rfl rfl rfl (by omega) (fun d' hd' => fe_181 (by omega) w83) rfl ?_
      refine fs_aload_n (k := 0) (p := 24) (by decide +kernel) rfl rfl ?_
      obtain ⟨q86, w85, h⟩ := fx_bd h
      refine fs_callV (idx := 315) (mj := 173) (ci := 10) (na := 0) (mx := 2) (p := 27) (args := [.ref 215]) (rest := []) (al2 := [some (.ref 215), none]) (by decide +kernel) rfl (by decide +kernel) fo_215 rfl rfl rfl rfl rfl rfl rfl (by omega) (fun d' hd' => fe_173 (by omega) w85) rfl ?_
      refine fs_dconst (n := 0) (p := 28) (by decide +kernel) rfl rfl ?_
      refine fs_dstore_n (k := 2) (p := 29) (M := 8) (al' := [some (.ref 215), some (.int x1), some (.double FP.dconst0), none, none, none, none, none]) (by decide +kernel) rfl mx_204 rfl rfl ?_
      refine fs_iconst (n := 0) (p := 30) (by decide +kernel) rfl kc_0 ?_
      refine fs_istore (k := 4) (p := 32) (M := 8) (al' := [some (.ref 215), some (.int x1), some (.double FP.dconst0), none, some (.int (0 : Int32)), none, none, none]) (by decide +kernel) rfl mx_204 rfl rfl ?_
      exact fe_204_32 hd 100000 _ _ _ _ _ _ _ h
    · rw [if_neg c82] at h
      refine fs_if_ne_f (off := 7) (t := 18) (p := 14) (by decide +kernel) (by decide +kernel) rfl c82 ?_
      exact fe_204_14 hd _ _ _ _ h
end
