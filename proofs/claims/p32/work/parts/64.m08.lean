/-! ZoneShares.share(IIII)I -/
theorem mx_98 : iv_mx 98 = 8 := by decide +kernel
theorem rt_98 : iv_rt 98 = some .int := by decide +kernel
def fm_98 (x1 : Int32) (x2 : Int32) (x3 : Int32) (x4 : Int32) (σ : fx_S) : Option (Int32 × fx_S) :=
  (fm_118 x1 x3 σ).bind fun q28 =>
  if (fx_b q28.1) = 0 then (
    some ((-1 : Int32), q28.2)) else (
    (fm_115 x2 q28.2).bind fun q31 =>
    if (fx_b q31.1) = 0 then (
      some ((-1 : Int32), q31.2)) else (
      if x4 < 0 then (
        some ((-1 : Int32), q31.2)) else (
        if x4 ≤ (1 : Int32) then (
          (fx_ldr 4 70 x1).bind fun v36 =>
          (fm_19 v36 (2 : Int32) q31.2).bind fun q41 =>
          (fx_ld q41 ((v36 + 3) + 2) x2).bind fun v42 =>
          if ¬ v42 = 0 then (
            (fx_ld q41 ((v36 + 3) + 4) ((x2 * (9 : Int32)) + x3)).bind fun v47 =>
            (fm_127 (v47).toInt64 (v42).toInt64 x4 q41).bind fun q52 =>
            some ((q52.1).toInt32, q52.2)) else (
            some ((-1 : Int32), q41))) else (
          some ((-1 : Int32), q31.2)))))
theorem fe_98 {z : iv_Z} {d : Nat} (hd : 6 ≤ d) {x1 : Int32} {x2 : Int32} {x3 : Int32} {x4 : Int32} {σ : fx_S} {q : Int32 × fx_S} (h : fm_98 x1 x2 x3 x4 σ = some q) : fx_E z 98 d 0 [some (.ref 0), some (.int x1), some (.int x2), some (.int x3), some (.int x4), none, none, none] [] σ (some (.int q.1)) q.2 := by
  unfold fm_98 at h
  refine fs_aload_n (k := 0) (p := 1) (by decide +kernel) rfl rfl ?_
  refine fs_iload_n (k := 1) (p := 2) (by decide +kernel) rfl rfl ?_
  refine fs_iload_n (k := 3) (p := 3) (by decide +kernel) rfl rfl ?_
  obtain ⟨q28, w27, h⟩ := fx_bd h
  refine fs_callV (idx := 199) (mj := 118) (ci := 9) (na := 2) (mx := 3) (p := 6) (args := [.ref 0, .int x1, .int x3]) (rest := []) (al2 := [some (.ref 0), some (.int x1), some (.int x3)]) (by decide +kernel) rfl (by decide +kernel) fo_0 rfl rfl rfl rfl rfl rfl rfl (by omega) (fun d' hd' => fe_118 (by omega) w27) rfl ?_
  by_cases c29 : (fx_b q28.1) = 0
  · rw [if_pos c29] at h
    refine fs_if_eq_t (off := 21) (t := 27) (by decide +kernel) (by decide +kernel) c29 ?_
    refine fs_iconst (n := -1) (p := 28) (by decide +kernel) rfl kc_m1 ?_
    have h := Option.some.inj h
    subst h
    exact fs_iret (by decide +kernel) rt_98
  · rw [if_neg c29] at h
    refine fs_if_eq_f (off := 21) (t := 27) (p := 9) (by decide +kernel) (by decide +kernel) rfl c29 ?_
    refine fs_iload_n (k := 2) (p := 10) (by decide +kernel) rfl rfl ?_
    obtain ⟨q31, w30, h⟩ := fx_bd h
    refine fs_callS (idx := 128) (mj := 115) (na := 1) (mx := 1) (p := 13) (args := [.int x2]) (rest := []) (al2 := [some (.int x2)]) (by decide +kernel) rfl (by decide +kernel) rfl rfl rfl rfl rfl rfl rfl (by omega) (fun d' hd' => fe_115 (by omega) w30) rfl ?_
    by_cases c32 : (fx_b q31.1) = 0
    · rw [if_pos c32] at h
      refine fs_if_eq_t (off := 14) (t := 27) (by decide +kernel) (by decide +kernel) c32 ?_
      refine fs_iconst (n := -1) (p := 28) (by decide +kernel) rfl kc_m1 ?_
      have h := Option.some.inj h
      subst h
      exact fs_iret (by decide +kernel) rt_98
    · rw [if_neg c32] at h
      refine fs_if_eq_f (off := 14) (t := 27) (p := 16) (by decide +kernel) (by decide +kernel) rfl c32 ?_
      refine fs_iload (k := 4) (p := 18) (by decide +kernel) rfl rfl ?_
      by_cases c34 : x4 < 0
      · rw [if_pos c34] at h
        refine fs_if_lt_t (off := 9) (t := 27) (by decide +kernel) (by decide +kernel) c34 ?_
        refine fs_iconst (n := -1) (p := 28) (by decide +kernel) rfl kc_m1 ?_
        have h := Option.some.inj h
        subst h
        exact fs_iret (by decide +kernel) rt_98
      · rw [if_neg c34] at h
        refine fs_if_lt_f (off := 9) (t := 27) (p := 21) (by decide +kernel) (by decide +kernel) rfl c34 ?_
        refine fs_iload (k := 4) (p := 23) (by decide +kernel) rfl rfl ?_
        refine fs_iconst (n := 1) (p := 24) (by decide +kernel) rfl kc_1 ?_
        by_cases c35 : x4 ≤ (1 : Int32)
        · rw [if_pos c35] at h
          refine fs_icmp_le_t (off := 5) (t := 29) (by decide +kernel) (by decide +kernel) c35 ?_
          refine fs_aload_n (k := 0) (p := 30) (by decide +kernel) rfl rfl ?_
          refine fs_gfr (idx := 60) (ci := 9) (j := 6) (p := 33) (by decide +kernel) rfl (by decide +kernel) fo_0 (fr_a0_6) ?_
          refine fs_iload_n (k := 1) (p := 34) (by decide +kernel) rfl rfl ?_
          obtain ⟨v36, w37, h⟩ := fx_bd h
          have g38 := fa_70 w37
          refine fs_aaload (t := 4) (p := 35) (by decide +kernel) rfl (by decide +kernel) w37 ?_
          refine fs_astore (k := 5) (p := 37) (M := 8) (al' := [some (.ref 0), some (.int x1), some (.int x2), some (.int x3), some (.int x4), some (.ref v36), none, none]) (by decide +kernel) rfl mx_98 rfl rfl ?_
          refine fs_aload (k := 5) (p := 39) (by decide +kernel) rfl rfl ?_
          refine fs_iconst (n := 2) (p := 40) (by decide +kernel) rfl kc_2 ?_
          obtain ⟨q41, w40, h⟩ := fx_bd h
          refine fs_callV (idx := 150) (mj := 19) (ci := 2) (na := 1) (mx := 2) (p := 43) (args := [.ref v36, .int (2 : Int32)]) (rest := []) (al2 := [some (.ref v36), some (.int (2 : Int32))]) (by decide +kernel) rfl (by decide +kernel) g38 rfl rfl rfl rfl rfl rfl rfl (by omega) (fun d' hd' => fe_19 (by omega) w40) rfl ?_
          refine fs_pop (p := 44) (by decide +kernel) rfl rfl ?_
          refine fs_aload (k := 5) (p := 46) (by decide +kernel) rfl rfl ?_
          refine fs_gfr (idx := 202) (ci := 2) (j := 2) (p := 49) (by decide +kernel) rfl (by decide +kernel) g38 (fr_2_2 g38) ?_
          refine fs_gfr (idx := 206) (ci := 7) (j := 1) (p := 52) (by decide +kernel) rfl (by decide +kernel) (fg_2_2 g38) (fr_7_1 (fg_2_2 g38)) ?_
          refine fs_iload_n (k := 2) (p := 53) (by decide +kernel) rfl rfl ?_
          obtain ⟨v42, w43, h⟩ := fx_bd h
          refine fs_iaload (p := 54) (by decide +kernel) rfl w43 ?_
          refine fs_istore (k := 6) (p := 56) (M := 8) (al' := [some (.ref 0), some (.int x1), some (.int x2), some (.int x3), some (.int x4), some (.ref v36), some (.int v42), none]) (by decide +kernel) rfl mx_98 rfl rfl ?_
          refine fs_iload (k := 6) (p := 58) (by decide +kernel) rfl rfl ?_
          by_cases c46 : ¬ v42 = 0
          · rw [if_pos c46] at h
            refine fs_if_ne_t (off := 5) (t := 63) (by decide +kernel) (by decide +kernel) c46 ?_
            refine fs_aload (k := 5) (p := 65) (by decide +kernel) rfl rfl ?_
            refine fs_gfr (idx := 202) (ci := 2) (j := 2) (p := 68) (by decide +kernel) rfl (by decide +kernel) g38 (fr_2_2 g38) ?_
            refine fs_gfr (idx := 211) (ci := 7) (j := 3) (p := 71) (by decide +kernel) rfl (by decide +kernel) (fg_2_2 g38) (fr_7_3 (fg_2_2 g38)) ?_
            refine fs_iload_n (k := 2) (p := 72) (by decide +kernel) rfl rfl ?_
            refine fs_bipush (n := 9) (p := 74) (by decide +kernel) rfl kb_9 ?_
            refine fs_imul (p := 75) (by decide +kernel) rfl ?_
            refine fs_iload_n (k := 3) (p := 76) (by decide +kernel) rfl rfl ?_
            refine fs_iadd (p := 77) (by decide +kernel) rfl ?_
            obtain ⟨v47, w48, h⟩ := fx_bd h
            refine fs_iaload (p := 78) (by decide +kernel) rfl w48 ?_
            refine fs_istore (k := 7) (p := 80) (M := 8) (al' := [some (.ref 0), some (.int x1), some (.int x2), some (.int x3), some (.int x4), some (.ref v36), some (.int v42), some (.int v47)]) (by decide +kernel) rfl mx_98 rfl rfl ?_
            refine fs_iload (k := 7) (p := 82) (by decide +kernel) rfl rfl ?_
            refine fs_i2l (p := 83) (by decide +kernel) rfl ?_
            refine fs_iload (k := 6) (p := 85) (by decide +kernel) rfl rfl ?_
            refine fs_i2l (p := 86) (by decide +kernel) rfl ?_
            refine fs_iload (k := 4) (p := 88) (by decide +kernel) rfl rfl ?_
            obtain ⟨q52, w51, h⟩ := fx_bd h
            refine fs_callS (idx := 214) (mj := 127) (na := 3) (mx := 7) (p := 91) (args := [.long (v47).toInt64, .long (v42).toInt64, .int x4]) (rest := []) (al2 := [some (.long (v47).toInt64), none, some (.long (v42).toInt64), none, some (.int x4), none, none]) (by decide +kernel) rfl (by decide +kernel) rfl rfl rfl rfl rfl rfl rfl (by omega) (fun d' hd' => fe_127 (by omega) w51) rfl ?_
            refine fs_l2i (p := 92) (by decide +kernel) rfl ?_
            have h := Option.some.inj h
            subst h
            exact fs_iret (by decide +kernel) rt_98
          · rw [if_neg c46] at h
            refine fs_if_ne_f (off := 5) (t := 63) (p := 61) (by decide +kernel) (by decide +kernel) rfl c46 ?_
            refine fs_iconst (n := -1) (p := 62) (by decide +kernel) rfl kc_m1 ?_
            have h := Option.some.inj h
            subst h
            exact fs_iret (by decide +kernel) rt_98
        · rw [if_neg c35] at h
          refine fs_icmp_le_f (off := 5) (t := 29) (p := 27) (by decide +kernel) (by decide +kernel) rfl c35 ?_
          refine fs_iconst (n := -1) (p := 28) (by decide +kernel) rfl kc_m1 ?_
          have h := Option.some.inj h
          subst h
          exact fs_iret (by decide +kernel) rt_98

/-! ZoneShares.moved(III)I -/
theorem mx_99 : iv_mx 99 = 12 := by decide +kernel
theorem rt_99 : iv_rt 99 = some .int := by decide +kernel
def fm_99_124 (k_113 : Nat → Int32 → Int32 → Int32 → Int32 → Int32 → fx_S → Option (Int32 × fx_S)) : Nat → Nat → Int32 → Int32 → Int32 → Int32 → Int32 → Int32 → fx_S → Option (Int32 × fx_S)
  | 0, _, _, _, _, _, _, _, _ => none
  | n + 1, x4, x6, x7, x8, x9, x10, x11, σ =>
    if x8 < x11 then (
      k_113 x4 x6 x7 x8 x9 (x10 + (1 : Int32)) σ) else (
      (fx_ld σ ((x4 + 3) + 8) ((x10 * (9 : Int32)) + x11)).bind fun v4 =>
      fm_99_124 k_113 n x4 x6 x7 x8 (x9 + v4) x10 (x11 + (1 : Int32)) σ)
theorem fe_99_124 {z : iv_Z} {d : Nat} (hd : 6 ≤ d) {k_113 : Nat → Int32 → Int32 → Int32 → Int32 → Int32 → fx_S → Option (Int32 × fx_S)} (hk_113 : ∀ (x4 : Nat) (x6 : Int32) (x7 : Int32) (x8 : Int32) (x9 : Int32) (x10 : Int32) (o0 : Option Value) (o1 : Option Value) (o2 : Option Value) (o3 : Option Value) (o5 : Option Value) (o11 : Option Value) (σ : fx_S) (q : Int32 × fx_S) (g4 : fx_oc x4 2 = true), k_113 x4 x6 x7 x8 x9 x10 σ = some q → fx_E z 99 d 113 [o0, o1, o2, o3, some (.ref x4), o5, some (.int x6), some (.int x7), some (.int x8), some (.int x9), some (.int x10), o11] [] σ (some (.int q.1)) q.2) : ∀ (n : Nat) (x4 : Nat) (x6 : Int32) (x7 : Int32) (x8 : Int32) (x9 : Int32) (x10 : Int32) (x11 : Int32) (o0 : Option Value) (o1 : Option Value) (o2 : Option Value) (o3 : Option Value) (o5 : Option Value) (σ : fx_S) (q : Int32 × fx_S) (g4 : fx_oc x4 2 = true), fm_99_124 k_113 n x4 x6 x7 x8 x9 x10 x11 σ = some q → fx_E z 99 d 124 [o0, o1, o2, o3, some (.ref x4), o5, some (.int x6), some (.int x7), some (.int x8), some (.int x9), some (.int x10), some (.int x11)] [] σ (some (.int q.1)) q.2 := by
  intro n
  induction n with
  | zero =>
    intro x4 x6 x7 x8 x9 x10 x11 o0 o1 o2 o3 o5 σ q g4 h
    rw [fm_99_124] at h
    exact fx_no h
  | succ n ih =>
    intro x4 x6 x7 x8 x9 x10 x11 o0 o1 o2 o3 o5 σ q g4 h
    rw [fm_99_124] at h
    refine fs_iload (k := 11) (p := 126) (by decide +kernel) rfl rfl ?_
    refine fs_iload (k := 8) (p := 128) (by decide +kernel) rfl rfl ?_
    by_cases c3 : x8 < x11
    · rw [if_pos c3] at h
      refine fs_icmp_gt_t (off := 31) (t := 159) (by decide +kernel) (by decide +kernel) c3 ?_
      refine fs_iinc (k := 10) (n := 1) (p := 162) (M := 12) (al' := [o0, o1, o2, o3, some (.ref x4), o5, some (.int x6), some (.int x7), some (.int x8), some (.int x9), some (.int (x10 + (1 : Int32))), some (.int x11)]) (by decide +kernel) rfl kc_1 mx_99 rfl rfl rfl ?_
      refine fs_goto (off := -49) (p := 113) (by decide +kernel) (by decide +kernel) ?_
      exact hk_113 _ _ _ _ _ _ _ _ _ _ _ _ _ _ g4 h
    · rw [if_neg c3] at h
      refine fs_icmp_gt_f (off := 31) (t := 159) (p := 131) (by decide +kernel) (by decide +kernel) rfl c3 ?_
      refine fs_iload (k := 9) (p := 133) (by decide +kernel) rfl rfl ?_
      refine fs_aload (k := 4) (p := 135) (by decide +kernel) rfl rfl ?_
      refine fs_gfr (idx := 202) (ci := 2) (j := 2) (p := 138) (by decide +kernel) rfl (by decide +kernel) g4 (fr_2_2 g4) ?_
      refine fs_gfr (idx := 218) (ci := 7) (j := 7) (p := 141) (by decide +kernel) rfl (by decide +kernel) (fg_2_2 g4) (fr_7_7 (fg_2_2 g4)) ?_
      refine fs_iload (k := 10) (p := 143) (by decide +kernel) rfl rfl ?_
      refine fs_bipush (n := 9) (p := 145) (by decide +kernel) rfl kb_9 ?_
      refine fs_imul (p := 146) (by decide +kernel) rfl ?_
      refine fs_iload (k := 11) (p := 148) (by decide +kernel) rfl rfl ?_
      refine fs_iadd (p := 149) (by decide +kernel) rfl ?_
      obtain ⟨v4, w5, h⟩ := fx_bd h
      refine fs_iaload (p := 150) (by decide +kernel) rfl w5 ?_
      refine fs_iadd (p := 151) (by decide +kernel) rfl ?_
      refine fs_istore (k := 9) (p := 153) (M := 12) (al' := [o0, o1, o2, o3, some (.ref x4), o5, some (.int x6), some (.int x7), some (.int x8), some (.int (x9 + v4)), some (.int x10), some (.int x11)]) (by decide +kernel) rfl mx_99 rfl rfl ?_
      refine fs_iinc (k := 11) (n := 1) (p := 156) (M := 12) (al' := [o0, o1, o2, o3, some (.ref x4), o5, some (.int x6), some (.int x7), some (.int x8), some (.int (x9 + v4)), some (.int x10), some (.int (x11 + (1 : Int32)))]) (by decide +kernel) rfl kc_1 mx_99 rfl rfl rfl ?_
      refine fs_goto (off := -32) (p := 124) (by decide +kernel) (by decide +kernel) ?_
      exact ih _ _ _ _ _ _ _ _ _ _ _ _ _ _ g4 h
def fm_99_113 : Nat → Nat → Int32 → Int32 → Int32 → Int32 → Int32 → fx_S → Option (Int32 × fx_S)
  | 0, _, _, _, _, _, _, _ => none
  | n + 1, x4, x6, x7, x8, x9, x10, σ =>
    if x6 < x10 then (
      some (x9, σ)) else (
      fm_99_124 (fm_99_113 n) 100000 x4 x6 x7 x8 x9 x10 x7 σ)
theorem fe_99_113 {z : iv_Z} {d : Nat} (hd : 6 ≤ d) : ∀ (n : Nat) (x4 : Nat) (x6 : Int32) (x7 : Int32) (x8 : Int32) (x9 : Int32) (x10 : Int32) (o0 : Option Value) (o1 : Option Value) (o2 : Option Value) (o3 : Option Value) (o5 : Option Value) (o11 : Option Value) (σ : fx_S) (q : Int32 × fx_S) (g4 : fx_oc x4 2 = true), fm_99_113 n x4 x6 x7 x8 x9 x10 σ = some q → fx_E z 99 d 113 [o0, o1, o2, o3, some (.ref x4), o5, some (.int x6), some (.int x7), some (.int x8), some (.int x9), some (.int x10), o11] [] σ (some (.int q.1)) q.2 := by
  intro n
  induction n with
  | zero =>
    intro x4 x6 x7 x8 x9 x10 o0 o1 o2 o3 o5 o11 σ q g4 h
    rw [fm_99_113] at h
    exact fx_no h
  | succ n ih =>
    intro x4 x6 x7 x8 x9 x10 o0 o1 o2 o3 o5 o11 σ q g4 h
    rw [fm_99_113] at h
    refine fs_iload (k := 10) (p := 115) (by decide +kernel) rfl rfl ?_
    refine fs_iload (k := 6) (p := 117) (by decide +kernel) rfl rfl ?_
    by_cases c3 : x6 < x10
    · rw [if_pos c3] at h
      refine fs_icmp_gt_t (off := 48) (t := 165) (by decide +kernel) (by decide +kernel) c3 ?_
      refine fs_iload (k := 9) (p := 167) (by decide +kernel) rfl rfl ?_
      have h := Option.some.inj h
      subst h
      exact fs_iret (by decide +kernel) rt_99
    · rw [if_neg c3] at h
      refine fs_icmp_gt_f (off := 48) (t := 165) (p := 120) (by decide +kernel) (by decide +kernel) rfl c3 ?_
      refine fs_iload (k := 7) (p := 122) (by decide +kernel) rfl rfl ?_
      refine fs_istore (k := 11) (p := 124) (M := 12) (al' := [o0, o1, o2, o3, some (.ref x4), o5, some (.int x6), some (.int x7), some (.int x8), some (.int x9), some (.int x10), some (.int x7)]) (by decide +kernel) rfl mx_99 rfl rfl ?_
      exact fe_99_124 hd ih 100000 _ _ _ _ _ _ _ _ _ _ _ _ _ _ g4 h
def fm_99_104 (x4 : Nat) (x5 : Int32) (x6 : Int32) (x7 : Int32) (s0 : Int32) (σ : fx_S) : Option (Int32 × fx_S) :=
  fm_99_113 100000 x4 x6 x7 s0 (0 : Int32) x5 σ
theorem fe_99_104 {z : iv_Z} {d : Nat} (hd : 6 ≤ d) (x4 : Nat) (x5 : Int32) (x6 : Int32) (x7 : Int32) (s0 : Int32) (o0 : Option Value) (o1 : Option Value) (o2 : Option Value) (o3 : Option Value) (σ : fx_S) (q : Int32 × fx_S) (g4 : fx_oc x4 2 = true) (h : fm_99_104  x4 x5 x6 x7 s0 σ = some q) : fx_E z 99 d 104 [o0, o1, o2, o3, some (.ref x4), some (.int x5), some (.int x6), some (.int x7), none, none, none, none] [.int s0] σ (some (.int q.1)) q.2 := by
  unfold fm_99_104 at h
  refine fs_istore (k := 8) (p := 106) (M := 12) (al' := [o0, o1, o2, o3, some (.ref x4), some (.int x5), some (.int x6), some (.int x7), some (.int s0), none, none, none]) (by decide +kernel) rfl mx_99 rfl rfl ?_
  refine fs_iconst (n := 0) (p := 107) (by decide +kernel) rfl kc_0 ?_
  refine fs_istore (k := 9) (p := 109) (M := 12) (al' := [o0, o1, o2, o3, some (.ref x4), some (.int x5), some (.int x6), some (.int x7), some (.int s0), some (.int (0 : Int32)), none, none]) (by decide +kernel) rfl mx_99 rfl rfl ?_
  refine fs_iload (k := 5) (p := 111) (by decide +kernel) rfl rfl ?_
  refine fs_istore (k := 10) (p := 113) (M := 12) (al' := [o0, o1, o2, o3, some (.ref x4), some (.int x5), some (.int x6), some (.int x7), some (.int s0), some (.int (0 : Int32)), some (.int x5), none]) (by decide +kernel) rfl mx_99 rfl rfl ?_
  exact fe_99_113 hd 100000 _ _ _ _ _ _ _ _ _ _ _ _ _ _ g4 h
def fm_99_91 (x3 : Int32) (x4 : Nat) (x5 : Int32) (x6 : Int32) (s0 : Int32) (σ : fx_S) : Option (Int32 × fx_S) :=
  if ¬ x3 = (-1 : Int32) then (
    fm_99_104 x4 x5 x6 s0 x3 σ) else (
    fm_99_104 x4 x5 x6 s0 (8 : Int32) σ)
theorem fe_99_91 {z : iv_Z} {d : Nat} (hd : 6 ≤ d) (x3 : Int32) (x4 : Nat) (x5 : Int32) (x6 : Int32) (s0 : Int32) (o0 : Option Value) (o1 : Option Value) (o2 : Option Value) (σ : fx_S) (q : Int32 × fx_S) (g4 : fx_oc x4 2 = true) (h : fm_99_91  x3 x4 x5 x6 s0 σ = some q) : fx_E z 99 d 91 [o0, o1, o2, some (.int x3), some (.ref x4), some (.int x5), some (.int x6), none, none, none, none, none] [.int s0] σ (some (.int q.1)) q.2 := by
  unfold fm_99_91 at h
  refine fs_istore (k := 7) (p := 93) (M := 12) (al' := [o0, o1, o2, some (.int x3), some (.ref x4), some (.int x5), some (.int x6), some (.int s0), none, none, none, none]) (by decide +kernel) rfl mx_99 rfl rfl ?_
  refine fs_iload_n (k := 3) (p := 94) (by decide +kernel) rfl rfl ?_
  refine fs_iconst (n := -1) (p := 95) (by decide +kernel) rfl kc_m1 ?_
  by_cases c2 : ¬ x3 = (-1 : Int32)
  · rw [if_pos c2] at h
    refine fs_icmp_ne_t (off := 8) (t := 103) (by decide +kernel) (by decide +kernel) c2 ?_
    refine fs_iload_n (k := 3) (p := 104) (by decide +kernel) rfl rfl ?_
    exact fe_99_104 hd _ _ _ _ _ _ _ _ _ _ _ g4 h
  · rw [if_neg c2] at h
    refine fs_icmp_ne_f (off := 8) (t := 103) (p := 98) (by decide +kernel) (by decide +kernel) rfl c2 ?_
    refine fs_bipush (n := 8) (p := 100) (by decide +kernel) rfl kb_8 ?_
    refine fs_goto (off := 4) (p := 104) (by decide +kernel) (by decide +kernel) ?_
    exact fe_99_104 hd _ _ _ _ _ _ _ _ _ _ _ g4 h
def fm_99_79 (x3 : Int32) (x4 : Nat) (x5 : Int32) (s0 : Int32) (σ : fx_S) : Option (Int32 × fx_S) :=
  if ¬ x3 = (-1 : Int32) then (
    fm_99_91 x3 x4 x5 s0 x3 σ) else (
    fm_99_91 x3 x4 x5 s0 (0 : Int32) σ)
theorem fe_99_79 {z : iv_Z} {d : Nat} (hd : 6 ≤ d) (x3 : Int32) (x4 : Nat) (x5 : Int32) (s0 : Int32) (o0 : Option Value) (o1 : Option Value) (o2 : Option Value) (σ : fx_S) (q : Int32 × fx_S) (g4 : fx_oc x4 2 = true) (h : fm_99_79  x3 x4 x5 s0 σ = some q) : fx_E z 99 d 79 [o0, o1, o2, some (.int x3), some (.ref x4), some (.int x5), none, none, none, none, none, none] [.int s0] σ (some (.int q.1)) q.2 := by
  unfold fm_99_79 at h
  refine fs_istore (k := 6) (p := 81) (M := 12) (al' := [o0, o1, o2, some (.int x3), some (.ref x4), some (.int x5), some (.int s0), none, none, none, none, none]) (by decide +kernel) rfl mx_99 rfl rfl ?_
  refine fs_iload_n (k := 3) (p := 82) (by decide +kernel) rfl rfl ?_
  refine fs_iconst (n := -1) (p := 83) (by decide +kernel) rfl kc_m1 ?_
  by_cases c2 : ¬ x3 = (-1 : Int32)
  · rw [if_pos c2] at h
    refine fs_icmp_ne_t (off := 7) (t := 90) (by decide +kernel) (by decide +kernel) c2 ?_
    refine fs_iload_n (k := 3) (p := 91) (by decide +kernel) rfl rfl ?_
    exact fe_99_91 hd _ _ _ _ _ _ _ _ _ _ g4 h
  · rw [if_neg c2] at h
    refine fs_icmp_ne_f (off := 7) (t := 90) (p := 86) (by decide +kernel) (by decide +kernel) rfl c2 ?_
    refine fs_iconst (n := 0) (p := 87) (by decide +kernel) rfl kc_0 ?_
    refine fs_goto (off := 4) (p := 91) (by decide +kernel) (by decide +kernel) ?_
    exact fe_99_91 hd _ _ _ _ _ _ _ _ _ _ g4 h
def fm_99_66 (x2 : Int32) (x3 : Int32) (x4 : Nat) (s0 : Int32) (σ : fx_S) : Option (Int32 × fx_S) :=
  if ¬ x2 = (-1 : Int32) then (
    fm_99_79 x3 x4 s0 x2 σ) else (
    fm_99_79 x3 x4 s0 (7 : Int32) σ)
theorem fe_99_66 {z : iv_Z} {d : Nat} (hd : 6 ≤ d) (x2 : Int32) (x3 : Int32) (x4 : Nat) (s0 : Int32) (o0 : Option Value) (o1 : Option Value) (σ : fx_S) (q : Int32 × fx_S) (g4 : fx_oc x4 2 = true) (h : fm_99_66  x2 x3 x4 s0 σ = some q) : fx_E z 99 d 66 [o0, o1, some (.int x2), some (.int x3), some (.ref x4), none, none, none, none, none, none, none] [.int s0] σ (some (.int q.1)) q.2 := by
  unfold fm_99_66 at h
  refine fs_istore (k := 5) (p := 68) (M := 12) (al' := [o0, o1, some (.int x2), some (.int x3), some (.ref x4), some (.int s0), none, none, none, none, none, none]) (by decide +kernel) rfl mx_99 rfl rfl ?_
  refine fs_iload_n (k := 2) (p := 69) (by decide +kernel) rfl rfl ?_
  refine fs_iconst (n := -1) (p := 70) (by decide +kernel) rfl kc_m1 ?_
  by_cases c2 : ¬ x2 = (-1 : Int32)
  · rw [if_pos c2] at h
    refine fs_icmp_ne_t (off := 8) (t := 78) (by decide +kernel) (by decide +kernel) c2 ?_
    refine fs_iload_n (k := 2) (p := 79) (by decide +kernel) rfl rfl ?_
    exact fe_99_79 hd _ _ _ _ _ _ _ _ _ g4 h
  · rw [if_neg c2] at h
    refine fs_icmp_ne_f (off := 8) (t := 78) (p := 73) (by decide +kernel) (by decide +kernel) rfl c2 ?_
    refine fs_bipush (n := 7) (p := 75) (by decide +kernel) rfl kb_7 ?_
    refine fs_goto (off := 4) (p := 79) (by decide +kernel) (by decide +kernel) ?_
    exact fe_99_79 hd _ _ _ _ _ _ _ _ _ g4 h
def fm_99 (x1 : Int32) (x2 : Int32) (x3 : Int32) (σ : fx_S) : Option (Int32 × fx_S) :=
  (fm_114 x1 σ).bind fun q39 =>
  if (fx_b q39.1) = 0 then (
    some ((-1 : Int32), q39.2)) else (
    (fm_57 1 q39.2).bind fun q42 =>
    if (fx_b q42.1) = 0 then (
      some ((-1 : Int32), q42.2)) else (
      if x2 < (-1 : Int32) then (
        some ((-1 : Int32), q42.2)) else (
        if (8 : Int32) ≤ x2 then (
          some ((-1 : Int32), q42.2)) else (
          if x3 < (-1 : Int32) then (
            some ((-1 : Int32), q42.2)) else (
            if x3 ≤ (8 : Int32) then (
              (fx_ldr 4 70 x1).bind fun v50 =>
              (fm_19 v50 (2 : Int32) q42.2).bind fun q55 =>
              if ¬ x2 = (-1 : Int32) then (
                fm_99_66 x2 x3 v50 x2 q55) else (
                fm_99_66 x2 x3 v50 (0 : Int32) q55)) else (
              some ((-1 : Int32), q42.2)))))))
theorem fe_99 {z : iv_Z} {d : Nat} (hd : 6 ≤ d) {x1 : Int32} {x2 : Int32} {x3 : Int32} {σ : fx_S} {q : Int32 × fx_S} (h : fm_99 x1 x2 x3 σ = some q) : fx_E z 99 d 0 [some (.ref 0), some (.int x1), some (.int x2), some (.int x3), none, none, none, none, none, none, none, none] [] σ (some (.int q.1)) q.2 := by
  unfold fm_99 at h
  refine fs_iload_n (k := 1) (p := 1) (by decide +kernel) rfl rfl ?_
  obtain ⟨q39, w38, h⟩ := fx_bd h
  refine fs_callS (idx := 94) (mj := 114) (na := 1) (mx := 1) (p := 4) (args := [.int x1]) (rest := []) (al2 := [some (.int x1)]) (by decide +kernel) rfl (by decide +kernel) rfl rfl rfl rfl rfl rfl rfl (by omega) (fun d' hd' => fe_114 (by omega) w38) rfl ?_
  by_cases c40 : (fx_b q39.1) = 0
  · rw [if_pos c40] at h
    refine fs_if_eq_t (off := 35) (t := 39) (by decide +kernel) (by decide +kernel) c40 ?_
    refine fs_iconst (n := -1) (p := 40) (by decide +kernel) rfl kc_m1 ?_
    have h := Option.some.inj h
    subst h
    exact fs_iret (by decide +kernel) rt_99
  · rw [if_neg c40] at h
    refine fs_if_eq_f (off := 35) (t := 39) (p := 7) (by decide +kernel) (by decide +kernel) rfl c40 ?_
    refine fs_aload_n (k := 0) (p := 8) (by decide +kernel) rfl rfl ?_
    refine fs_gfr (idx := 13) (ci := 9) (j := 1) (p := 11) (by decide +kernel) rfl (by decide +kernel) fo_0 (fr_a0_1) ?_
    obtain ⟨q42, w41, h⟩ := fx_bd h
    refine fs_callV (idx := 146) (mj := 57) (ci := 6) (na := 0) (mx := 1) (p := 14) (args := [.ref 1]) (rest := []) (al2 := [some (.ref 1)]) (by decide +kernel) rfl (by decide +kernel) fo_1 rfl rfl rfl rfl rfl rfl rfl (by omega) (fun d' hd' => fe_57 (by omega) w41) rfl ?_
    by_cases c43 : (fx_b q42.1) = 0
    · rw [if_pos c43] at h
      refine fs_if_eq_t (off := 25) (t := 39) (by decide +kernel) (by decide +kernel) c43 ?_
      refine fs_iconst (n := -1) (p := 40) (by decide +kernel) rfl kc_m1 ?_
      have h := Option.some.inj h
      subst h
      exact fs_iret (by decide +kernel) rt_99
    · rw [if_neg c43] at h
      refine fs_if_eq_f (off := 25) (t := 39) (p := 17) (by decide +kernel) (by decide +kernel) rfl c43 ?_
      refine fs_iload_n (k := 2) (p := 18) (by decide +kernel) rfl rfl ?_
      refine fs_iconst (n := -1) (p := 19) (by decide +kernel) rfl kc_m1 ?_
      by_cases c45 : x2 < (-1 : Int32)
      · rw [if_pos c45] at h
        refine fs_icmp_lt_t (off := 20) (t := 39) (by decide +kernel) (by decide +kernel) c45 ?_
        refine fs_iconst (n := -1) (p := 40) (by decide +kernel) rfl kc_m1 ?_
        have h := Option.some.inj h
        subst h
        exact fs_iret (by decide +kernel) rt_99
      · rw [if_neg c45] at h
        refine fs_icmp_lt_f (off := 20) (t := 39) (p := 22) (by decide +kernel) (by decide +kernel) rfl c45 ?_
        refine fs_iload_n (k := 2) (p := 23) (by decide +kernel) rfl rfl ?_
        refine fs_bipush (n := 8) (p := 25) (by decide +kernel) rfl kb_8 ?_
        by_cases c46 : (8 : Int32) ≤ x2
        · rw [if_pos c46] at h
          refine fs_icmp_ge_t (off := 14) (t := 39) (by decide +kernel) (by decide +kernel) c46 ?_
          refine fs_iconst (n := -1) (p := 40) (by decide +kernel) rfl kc_m1 ?_
          have h := Option.some.inj h
          subst h
          exact fs_iret (by decide +kernel) rt_99
        · rw [if_neg c46] at h
          refine fs_icmp_ge_f (off := 14) (t := 39) (p := 28) (by decide +kernel) (by decide +kernel) rfl c46 ?_
          refine fs_iload_n (k := 3) (p := 29) (by decide +kernel) rfl rfl ?_
          refine fs_iconst (n := -1) (p := 30) (by decide +kernel) rfl kc_m1 ?_
          by_cases c48 : x3 < (-1 : Int32)
          · rw [if_pos c48] at h
            refine fs_icmp_lt_t (off := 9) (t := 39) (by decide +kernel) (by decide +kernel) c48 ?_
            refine fs_iconst (n := -1) (p := 40) (by decide +kernel) rfl kc_m1 ?_
            have h := Option.some.inj h
            subst h
            exact fs_iret (by decide +kernel) rt_99
          · rw [if_neg c48] at h
            refine fs_icmp_lt_f (off := 9) (t := 39) (p := 33) (by decide +kernel) (by decide +kernel) rfl c48 ?_
            refine fs_iload_n (k := 3) (p := 34) (by decide +kernel) rfl rfl ?_
            refine fs_bipush (n := 8) (p := 36) (by decide +kernel) rfl kb_8 ?_
            by_cases c49 : x3 ≤ (8 : Int32)
            · rw [if_pos c49] at h
              refine fs_icmp_le_t (off := 5) (t := 41) (by decide +kernel) (by decide +kernel) c49 ?_
              refine fs_aload_n (k := 0) (p := 42) (by decide +kernel) rfl rfl ?_
              refine fs_gfr (idx := 60) (ci := 9) (j := 6) (p := 45) (by decide +kernel) rfl (by decide +kernel) fo_0 (fr_a0_6) ?_
              refine fs_iload_n (k := 1) (p := 46) (by decide +kernel) rfl rfl ?_
              obtain ⟨v50, w51, h⟩ := fx_bd h
              have g52 := fa_70 w51
              refine fs_aaload (t := 4) (p := 47) (by decide +kernel) rfl (by decide +kernel) w51 ?_
              refine fs_astore (k := 4) (p := 49) (M := 12) (al' := [some (.ref 0), some (.int x1), some (.int x2), some (.int x3), some (.ref v50), none, none, none, none, none, none, none]) (by decide +kernel) rfl mx_99 rfl rfl ?_
              refine fs_aload (k := 4) (p := 51) (by decide +kernel) rfl rfl ?_
              refine fs_iconst (n := 2) (p := 52) (by decide +kernel) rfl kc_2 ?_
              obtain ⟨q55, w54, h⟩ := fx_bd h
              refine fs_callV (idx := 150) (mj := 19) (ci := 2) (na := 1) (mx := 2) (p := 55) (args := [.ref v50, .int (2 : Int32)]) (rest := []) (al2 := [some (.ref v50), some (.int (2 : Int32))]) (by decide +kernel) rfl (by decide +kernel) g52 rfl rfl rfl rfl rfl rfl rfl (by omega) (fun d' hd' => fe_19 (by omega) w54) rfl ?_
              refine fs_pop (p := 56) (by decide +kernel) rfl rfl ?_
              refine fs_iload_n (k := 2) (p := 57) (by decide +kernel) rfl rfl ?_
              refine fs_iconst (n := -1) (p := 58) (by decide +kernel) rfl kc_m1 ?_
              by_cases c56 : ¬ x2 = (-1 : Int32)
              · rw [if_pos c56] at h
                refine fs_icmp_ne_t (off := 7) (t := 65) (by decide +kernel) (by decide +kernel) c56 ?_
                refine fs_iload_n (k := 2) (p := 66) (by decide +kernel) rfl rfl ?_
                exact fe_99_66 hd _ _ _ _ _ _ _ _ g52 h
              · rw [if_neg c56] at h
                refine fs_icmp_ne_f (off := 7) (t := 65) (p := 61) (by decide +kernel) (by decide +kernel) rfl c56 ?_
                refine fs_iconst (n := 0) (p := 62) (by decide +kernel) rfl kc_0 ?_
                refine fs_goto (off := 4) (p := 66) (by decide +kernel) (by decide +kernel) ?_
                exact fe_99_66 hd _ _ _ _ _ _ _ _ g52 h
            · rw [if_neg c49] at h
              refine fs_icmp_le_f (off := 5) (t := 41) (p := 39) (by decide +kernel) (by decide +kernel) rfl c49 ?_
              refine fs_iconst (n := -1) (p := 40) (by decide +kernel) rfl kc_m1 ?_
              have h := Option.some.inj h
              subst h
              exact fs_iret (by decide +kernel) rt_99

/-! ZoneShares.exact(III)J -/
theorem mx_100 : iv_mx 100 = 9 := by decide +kernel
theorem rt_100 : iv_rt 100 = some .long := by decide +kernel
def fm_100_18 (σ : fx_S) : Option (Int64 × fx_S) :=
  some ((-1 : Int64), σ)
theorem fe_100_18 {z : iv_Z} {d : Nat} (hd : 6 ≤ d) (o0 : Option Value) (o1 : Option Value) (o2 : Option Value) (o3 : Option Value) (σ : fx_S) (q : Int64 × fx_S) (h : fm_100_18  σ = some q) : fx_E z 100 d 18 [o0, o1, o2, o3, none, none, none, none, none] [] σ (some (.long q.1)) q.2 := by
  unfold fm_100_18 at h
  refine fs_ldc2 (idx := 221) (p := 21) (x := -1) (by decide +kernel) rfl (by decide +kernel) ?_
  have h := Option.some.inj h
  subst h
  exact fs_lret (by decide +kernel) rt_100
def fm_100 (x1 : Int32) (x2 : Int32) (x3 : Int32) (σ : fx_S) : Option (Int64 × fx_S) :=
  (fm_118 x1 x2 σ).bind fun q30 =>
  if (fx_b q30.1) = 0 then (
    fm_100_18 q30.2) else (
    if x3 < 0 then (
      fm_100_18 q30.2) else (
      if x3 ≤ (2 : Int32) then (
        (fx_ldr 4 70 x1).bind fun v35 =>
        (fm_19 v35 (2 : Int32) q30.2).bind fun q40 =>
        (fm_78 (v35 + 3) q40).bind fun q42 =>
        if (0 : Int64) < q42.1 then (
          (fm_79 (v35 + 3) x2 q42.1 q42.2).bind fun q46 =>
          if ¬ x3 = 0 then (
            if ¬ q42.1 = 0 then (
            (fm_127 (q46.1 - q46.1 / q42.1 * q42.1) q42.1 (x3 - (1 : Int32)) q46.2).bind fun q51 =>
            some (q51.1, q51.2)) else none) else (
            (fm_77 (v35 + 3) x2 q46.2).bind fun q53 =>
            if ¬ q42.1 = 0 then (
            some (((q53.1).toInt64 + (q46.1 / q42.1)), q53.2)) else none)) else (
          some ((-1 : Int64), q42.2))) else (
        fm_100_18 q30.2)))
theorem fe_100 {z : iv_Z} {d : Nat} (hd : 6 ≤ d) {x1 : Int32} {x2 : Int32} {x3 : Int32} {σ : fx_S} {q : Int64 × fx_S} (h : fm_100 x1 x2 x3 σ = some q) : fx_E z 100 d 0 [some (.ref 0), some (.int x1), some (.int x2), some (.int x3), none, none, none, none, none] [] σ (some (.long q.1)) q.2 := by
  unfold fm_100 at h
  refine fs_aload_n (k := 0) (p := 1) (by decide +kernel) rfl rfl ?_
  refine fs_iload_n (k := 1) (p := 2) (by decide +kernel) rfl rfl ?_
  refine fs_iload_n (k := 2) (p := 3) (by decide +kernel) rfl rfl ?_
  obtain ⟨q30, w29, h⟩ := fx_bd h
  refine fs_callV (idx := 199) (mj := 118) (ci := 9) (na := 2) (mx := 3) (p := 6) (args := [.ref 0, .int x1, .int x2]) (rest := []) (al2 := [some (.ref 0), some (.int x1), some (.int x2)]) (by decide +kernel) rfl (by decide +kernel) fo_0 rfl rfl rfl rfl rfl rfl rfl (by omega) (fun d' hd' => fe_118 (by omega) w29) rfl ?_
  by_cases c31 : (fx_b q30.1) = 0
  · rw [if_pos c31] at h
    refine fs_if_eq_t (off := 12) (t := 18) (by decide +kernel) (by decide +kernel) c31 ?_
    exact fe_100_18 hd _ _ _ _ _ _ h
  · rw [if_neg c31] at h
    refine fs_if_eq_f (off := 12) (t := 18) (p := 9) (by decide +kernel) (by decide +kernel) rfl c31 ?_
    refine fs_iload_n (k := 3) (p := 10) (by decide +kernel) rfl rfl ?_
    by_cases c33 : x3 < 0
    · rw [if_pos c33] at h
      refine fs_if_lt_t (off := 8) (t := 18) (by decide +kernel) (by decide +kernel) c33 ?_
      exact fe_100_18 hd _ _ _ _ _ _ h
    · rw [if_neg c33] at h
      refine fs_if_lt_f (off := 8) (t := 18) (p := 13) (by decide +kernel) (by decide +kernel) rfl c33 ?_
      refine fs_iload_n (k := 3) (p := 14) (by decide +kernel) rfl rfl ?_
      refine fs_iconst (n := 2) (p := 15) (by decide +kernel) rfl kc_2 ?_
      by_cases c34 : x3 ≤ (2 : Int32)
      · rw [if_pos c34] at h
        refine fs_icmp_le_t (off := 7) (t := 22) (by decide +kernel) (by decide +kernel) c34 ?_
        refine fs_aload_n (k := 0) (p := 23) (by decide +kernel) rfl rfl ?_
        refine fs_gfr (idx := 60) (ci := 9) (j := 6) (p := 26) (by decide +kernel) rfl (by decide +kernel) fo_0 (fr_a0_6) ?_
        refine fs_iload_n (k := 1) (p := 27) (by decide +kernel) rfl rfl ?_
        obtain ⟨v35, w36, h⟩ := fx_bd h
        have g37 := fa_70 w36
        refine fs_aaload (t := 4) (p := 28) (by decide +kernel) rfl (by decide +kernel) w36 ?_
        refine fs_iconst (n := 2) (p := 29) (by decide +kernel) rfl kc_2 ?_
        obtain ⟨q40, w39, h⟩ := fx_bd h
        refine fs_callV (idx := 150) (mj := 19) (ci := 2) (na := 1) (mx := 2) (p := 32) (args := [.ref v35, .int (2 : Int32)]) (rest := []) (al2 := [some (.ref v35), some (.int (2 : Int32))]) (by decide +kernel) rfl (by decide +kernel) g37 rfl rfl rfl rfl rfl rfl rfl (by omega) (fun d' hd' => fe_19 (by omega) w39) rfl ?_
        refine fs_gfr (idx := 202) (ci := 2) (j := 2) (p := 35) (by decide +kernel) rfl (by decide +kernel) g37 (fr_2_2 g37) ?_
        refine fs_astore (k := 4) (p := 37) (M := 9) (al' := [some (.ref 0), some (.int x1), some (.int x2), some (.int x3), some (.ref (v35 + 3)), none, none, none, none]) (by decide +kernel) rfl mx_100 rfl rfl ?_
        refine fs_aload (k := 4) (p := 39) (by decide +kernel) rfl rfl ?_
        obtain ⟨q42, w41, h⟩ := fx_bd h
        refine fs_callV (idx := 223) (mj := 78) (ci := 7) (na := 0) (mx := 6) (p := 42) (args := [.ref (v35 + 3)]) (rest := []) (al2 := [some (.ref (v35 + 3)), none, none, none, none, none]) (by decide +kernel) rfl (by decide +kernel) (fg_2_2 g37) rfl rfl rfl rfl rfl rfl rfl (by omega) (fun d' hd' => fe_78 (by omega) w41) rfl ?_
        refine fs_lstore (k := 5) (p := 44) (M := 9) (al' := [some (.ref 0), some (.int x1), some (.int x2), some (.int x3), some (.ref (v35 + 3)), some (.long q42.1), none, none, none]) (by decide +kernel) rfl mx_100 rfl rfl ?_
        refine fs_lload (k := 5) (p := 46) (by decide +kernel) rfl rfl ?_
        refine fs_lconst (n := 0) (p := 47) (by decide +kernel) rfl kl_0 ?_
        by_cases c44 : (0 : Int64) < q42.1
        · rw [if_pos c44] at h
          refine fs_lcmp_gt_t (off := 7) (t := 55) (by decide +kernel) (by decide +kernel) (by decide +kernel) c44 ?_
          refine fs_aload (k := 4) (p := 57) (by decide +kernel) rfl rfl ?_
          refine fs_iload_n (k := 2) (p := 58) (by decide +kernel) rfl rfl ?_
          refine fs_lload (k := 5) (p := 60) (by decide +kernel) rfl rfl ?_
          obtain ⟨q46, w45, h⟩ := fx_bd h
          refine fs_callV (idx := 227) (mj := 79) (ci := 7) (na := 2) (mx := 7) (p := 63) (args := [.ref (v35 + 3), .int x2, .long q42.1]) (rest := []) (al2 := [some (.ref (v35 + 3)), some (.int x2), some (.long q42.1), none, none, none, none]) (by decide +kernel) rfl (by decide +kernel) (fg_2_2 g37) rfl rfl rfl rfl rfl rfl rfl (by omega) (fun d' hd' => fe_79 (by omega) w45) rfl ?_
          refine fs_lstore (k := 7) (p := 65) (M := 9) (al' := [some (.ref 0), some (.int x1), some (.int x2), some (.int x3), some (.ref (v35 + 3)), some (.long q42.1), none, some (.long q46.1), none]) (by decide +kernel) rfl mx_100 rfl rfl ?_
          refine fs_iload_n (k := 3) (p := 66) (by decide +kernel) rfl rfl ?_
          by_cases c47 : ¬ x3 = 0
          · rw [if_pos c47] at h
            refine fs_if_ne_t (off := 17) (t := 83) (by decide +kernel) (by decide +kernel) c47 ?_
            refine fs_lload (k := 7) (p := 85) (by decide +kernel) rfl rfl ?_
            refine fs_lload (k := 5) (p := 87) (by decide +kernel) rfl rfl ?_
            obtain ⟨z49, h⟩ := fx_gd h
            refine fs_lrem (p := 88) (by decide +kernel) rfl z49 ?_
            refine fs_lload (k := 5) (p := 90) (by decide +kernel) rfl rfl ?_
            refine fs_iload_n (k := 3) (p := 91) (by decide +kernel) rfl rfl ?_
            refine fs_iconst (n := 1) (p := 92) (by decide +kernel) rfl kc_1 ?_
            refine fs_isub (p := 93) (by decide +kernel) rfl ?_
            obtain ⟨q51, w50, h⟩ := fx_bd h
            refine fs_callS (idx := 214) (mj := 127) (na := 3) (mx := 7) (p := 96) (args := [.long (q46.1 - q46.1 / q42.1 * q42.1), .long q42.1, .int (x3 - (1 : Int32))]) (rest := []) (al2 := [some (.long (q46.1 - q46.1 / q42.1 * q42.1)), none, some (.long q42.1), none, some (.int (x3 - (1 : Int32))), none, none]) (by decide +kernel) rfl (by decide +kernel) rfl rfl rfl rfl rfl rfl rfl (by omega) (fun d' hd' => fe_127 (by omega) w50) rfl ?_
            have h := Option.some.inj h
            subst h
            exact fs_lret (by decide +kernel) rt_100
          · rw [if_neg c47] at h
            refine fs_if_ne_f (off := 17) (t := 83) (p := 69) (by decide +kernel) (by decide +kernel) rfl c47 ?_
            refine fs_aload (k := 4) (p := 71) (by decide +kernel) rfl rfl ?_
            refine fs_iload_n (k := 2) (p := 72) (by decide +kernel) rfl rfl ?_
            obtain ⟨q53, w52, h⟩ := fx_bd h
            refine fs_callV (idx := 231) (mj := 77) (ci := 7) (na := 1) (mx := 4) (p := 75) (args := [.ref (v35 + 3), .int x2]) (rest := []) (al2 := [some (.ref (v35 + 3)), some (.int x2), none, none]) (by decide +kernel) rfl (by decide +kernel) (fg_2_2 g37) rfl rfl rfl rfl rfl rfl rfl (by omega) (fun d' hd' => fe_77 (by omega) w52) rfl ?_
            refine fs_i2l (p := 76) (by decide +kernel) rfl ?_
            refine fs_lload (k := 7) (p := 78) (by decide +kernel) rfl rfl ?_
            refine fs_lload (k := 5) (p := 80) (by decide +kernel) rfl rfl ?_
            obtain ⟨z56, h⟩ := fx_gd h
            refine fs_ldiv (p := 81) (by decide +kernel) rfl z56 ?_
            refine fs_ladd (p := 82) (by decide +kernel) rfl ?_
            have h := Option.some.inj h
            subst h
            exact fs_lret (by decide +kernel) rt_100
        · rw [if_neg c44] at h
          refine fs_lcmp_gt_f (off := 7) (t := 55) (p := 51) (by decide +kernel) (by decide +kernel) (by decide +kernel) rfl c44 ?_
          refine fs_ldc2 (idx := 221) (p := 54) (x := -1) (by decide +kernel) rfl (by decide +kernel) ?_
          have h := Option.some.inj h
          subst h
          exact fs_lret (by decide +kernel) rt_100
      · rw [if_neg c34] at h
        refine fs_icmp_le_f (off := 7) (t := 22) (p := 18) (by decide +kernel) (by decide +kernel) rfl c34 ?_
        exact fe_100_18 hd _ _ _ _ _ _ h

/-! ZoneShares.coarse(III)I -/
theorem mx_101 : iv_mx 101 = 7 := by decide +kernel
theorem rt_101 : iv_rt 101 = some .int := by decide +kernel
def fm_101_115 (k_79 : Int32 → Nat → Int32 → Int32 → fx_S → Option (Int32 × fx_S)) (x2 : Int32) (x4 : Nat) (x5 : Int32) (x6 : Int32) (σ : fx_S) : Option (Int32 × fx_S) :=
  k_79 x2 x4 x5 (x6 + (1 : Int32)) σ
theorem fe_101_115 {z : iv_Z} {d : Nat} (hd : 6 ≤ d) {k_79 : Int32 → Nat → Int32 → Int32 → fx_S → Option (Int32 × fx_S)} (hk_79 : ∀ (x2 : Int32) (x4 : Nat) (x5 : Int32) (x6 : Int32) (o1 : Option Value) (o3 : Option Value) (σ : fx_S) (q : Int32 × fx_S) (g4 : fx_oc x4 2 = true), k_79 x2 x4 x5 x6 σ = some q → fx_E z 101 d 79 [some (.ref 0), o1, some (.int x2), o3, some (.ref x4), some (.int x5), some (.int x6)] [] σ (some (.int q.1)) q.2) (x2 : Int32) (x4 : Nat) (x5 : Int32) (x6 : Int32) (o1 : Option Value) (o3 : Option Value) (σ : fx_S) (q : Int32 × fx_S) (g4 : fx_oc x4 2 = true) (h : fm_101_115 k_79  x2 x4 x5 x6 σ = some q) : fx_E z 101 d 115 [some (.ref 0), o1, some (.int x2), o3, some (.ref x4), some (.int x5), some (.int x6)] [] σ (some (.int q.1)) q.2 := by
  unfold fm_101_115 at h
  refine fs_iinc (k := 6) (n := 1) (p := 118) (M := 7) (al' := [some (.ref 0), o1, some (.int x2), o3, some (.ref x4), some (.int x5), some (.int (x6 + (1 : Int32)))]) (by decide +kernel) rfl kc_1 mx_101 rfl rfl rfl ?_
  refine fs_goto (off := -39) (p := 79) (by decide +kernel) (by decide +kernel) ?_
  exact hk_79 _ _ _ _ _ _ _ _ g4 h
def fm_101_79 : Nat → Int32 → Nat → Int32 → Int32 → fx_S → Option (Int32 × fx_S)
  | 0, _, _, _, _, _ => none
  | n + 1, x2, x4, x5, x6, σ =>
    if (8 : Int32) ≤ x6 then (
      some (x5, σ)) else (
      (fx_ld σ 5 x6).bind fun v3 =>
      if ¬ v3 = x2 then (
        fm_101_115 (fm_101_79 n) x2 x4 x5 x6 σ) else (
        (fm_76 (x4 + 3) x6 σ).bind fun q10 =>
        fm_101_115 (fm_101_79 n) x2 x4 (x5 + q10.1) x6 q10.2))
theorem fe_101_79 {z : iv_Z} {d : Nat} (hd : 6 ≤ d) : ∀ (n : Nat) (x2 : Int32) (x4 : Nat) (x5 : Int32) (x6 : Int32) (o1 : Option Value) (o3 : Option Value) (σ : fx_S) (q : Int32 × fx_S) (g4 : fx_oc x4 2 = true), fm_101_79 n x2 x4 x5 x6 σ = some q → fx_E z 101 d 79 [some (.ref 0), o1, some (.int x2), o3, some (.ref x4), some (.int x5), some (.int x6)] [] σ (some (.int q.1)) q.2 := by
  intro n
  induction n with
  | zero =>
    intro x2 x4 x5 x6 o1 o3 σ q g4 h
    rw [fm_101_79] at h
    exact fx_no h
  | succ n ih =>
    intro x2 x4 x5 x6 o1 o3 σ q g4 h
    rw [fm_101_79] at h
    refine fs_iload (k := 6) (p := 81) (by decide +kernel) rfl rfl ?_
    refine fs_bipush (n := 8) (p := 83) (by decide +kernel) rfl kb_8 ?_
    by_cases c2 : (8 : Int32) ≤ x6
    · rw [if_pos c2] at h
      refine fs_icmp_ge_t (off := 38) (t := 121) (by decide +kernel) (by decide +kernel) c2 ?_
      refine fs_iload (k := 5) (p := 123) (by decide +kernel) rfl rfl ?_
      have h := Option.some.inj h
      subst h
      exact fs_iret (by decide +kernel) rt_101
    · rw [if_neg c2] at h
      refine fs_icmp_ge_f (off := 38) (t := 121) (p := 86) (by decide +kernel) (by decide +kernel) rfl c2 ?_
      refine fs_aload_n (k := 0) (p := 87) (by decide +kernel) rfl rfl ?_
      refine fs_gfr (idx := 13) (ci := 9) (j := 1) (p := 90) (by decide +kernel) rfl (by decide +kernel) fo_0 (fr_a0_1) ?_
      refine fs_gfr (idx := 134) (ci := 6) (j := 3) (p := 93) (by decide +kernel) rfl (by decide +kernel) fo_1 (fr_a1_3) ?_
      refine fs_iload (k := 6) (p := 95) (by decide +kernel) rfl rfl ?_
      obtain ⟨v3, w4, h⟩ := fx_bd h
      refine fs_iaload (p := 96) (by decide +kernel) rfl w4 ?_
      refine fs_iload_n (k := 2) (p := 97) (by decide +kernel) rfl rfl ?_
      by_cases c8 : ¬ v3 = x2
      · rw [if_pos c8] at h
        refine fs_icmp_ne_t (off := 18) (t := 115) (by decide +kernel) (by decide +kernel) c8 ?_
        exact fe_101_115 hd ih _ _ _ _ _ _ _ _ g4 h
      · rw [if_neg c8] at h
        refine fs_icmp_ne_f (off := 18) (t := 115) (p := 100) (by decide +kernel) (by decide +kernel) rfl c8 ?_
        refine fs_iload (k := 5) (p := 102) (by decide +kernel) rfl rfl ?_
        refine fs_aload (k := 4) (p := 104) (by decide +kernel) rfl rfl ?_
        refine fs_gfr (idx := 202) (ci := 2) (j := 2) (p := 107) (by decide +kernel) rfl (by decide +kernel) g4 (fr_2_2 g4) ?_
        refine fs_iload (k := 6) (p := 109) (by decide +kernel) rfl rfl ?_
        obtain ⟨q10, w9, h⟩ := fx_bd h
        refine fs_callV (idx := 237) (mj := 76) (ci := 7) (na := 1) (mx := 4) (p := 112) (args := [.ref (x4 + 3), .int x6]) (rest := [.int x5]) (al2 := [some (.ref (x4 + 3)), some (.int x6), none, none]) (by decide +kernel) rfl (by decide +kernel) (fg_2_2 g4) rfl rfl rfl rfl rfl rfl rfl (by omega) (fun d' hd' => fe_76 (by omega) w9) rfl ?_
        refine fs_iadd (p := 113) (by decide +kernel) rfl ?_
        refine fs_istore (k := 5) (p := 115) (M := 7) (al' := [some (.ref 0), o1, some (.int x2), o3, some (.ref x4), some (.int (x5 + q10.1)), some (.int x6)]) (by decide +kernel) rfl mx_101 rfl rfl ?_
        exact fe_101_115 hd ih _ _ _ _ _ _ _ _ g4 h
def fm_101 (x1 : Int32) (x2 : Int32) (x3 : Int32) (σ : fx_S) : Option (Int32 × fx_S) :=
  (fm_114 x1 σ).bind fun q35 =>
  if (fx_b q35.1) = 0 then (
    some ((-1 : Int32), q35.2)) else (
    (fm_57 1 q35.2).bind fun q38 =>
    if (fx_b q38.1) = 0 then (
      some ((-1 : Int32), q38.2)) else (
      (fm_117 x2 q38.2).bind fun q41 =>
      if (fx_b q41.1) = 0 then (
        some ((-1 : Int32), q41.2)) else (
        if x3 < 0 then (
          some ((-1 : Int32), q41.2)) else (
          if x3 ≤ (1 : Int32) then (
            (fx_ldr 4 70 x1).bind fun v46 =>
            if ¬ x3 = (1 : Int32) then (
              (fm_19 v46 (2 : Int32) q41.2).bind fun q52 =>
              fm_101_79 100000 x2 v46 (0 : Int32) (0 : Int32) q52) else (
              (fm_19 v46 (8 : Int32) q41.2).bind fun q54 =>
              (fm_76 (v46 + 21) x2 q54).bind fun q56 =>
              some (q56.1, q56.2))) else (
            some ((-1 : Int32), q41.2))))))
theorem fe_101 {z : iv_Z} {d : Nat} (hd : 6 ≤ d) {x1 : Int32} {x2 : Int32} {x3 : Int32} {σ : fx_S} {q : Int32 × fx_S} (h : fm_101 x1 x2 x3 σ = some q) : fx_E z 101 d 0 [some (.ref 0), some (.int x1), some (.int x2), some (.int x3), none, none, none] [] σ (some (.int q.1)) q.2 := by
  unfold fm_101 at h
  refine fs_iload_n (k := 1) (p := 1) (by decide +kernel) rfl rfl ?_
  obtain ⟨q35, w34, h⟩ := fx_bd h
  refine fs_callS (idx := 94) (mj := 114) (na := 1) (mx := 1) (p := 4) (args := [.int x1]) (rest := []) (al2 := [some (.int x1)]) (by decide +kernel) rfl (by decide +kernel) rfl rfl rfl rfl rfl rfl rfl (by omega) (fun d' hd' => fe_114 (by omega) w34) rfl ?_
  by_cases c36 : (fx_b q35.1) = 0
  · rw [if_pos c36] at h
    refine fs_if_eq_t (off := 29) (t := 33) (by decide +kernel) (by decide +kernel) c36 ?_
    refine fs_iconst (n := -1) (p := 34) (by decide +kernel) rfl kc_m1 ?_
    have h := Option.some.inj h
    subst h
    exact fs_iret (by decide +kernel) rt_101
  · rw [if_neg c36] at h
    refine fs_if_eq_f (off := 29) (t := 33) (p := 7) (by decide +kernel) (by decide +kernel) rfl c36 ?_
    refine fs_aload_n (k := 0) (p := 8) (by decide +kernel) rfl rfl ?_
    refine fs_gfr (idx := 13) (ci := 9) (j := 1) (p := 11) (by decide +kernel) rfl (by decide +kernel) fo_0 (fr_a0_1) ?_
    obtain ⟨q38, w37, h⟩ := fx_bd h
    refine fs_callV (idx := 146) (mj := 57) (ci := 6) (na := 0) (mx := 1) (p := 14) (args := [.ref 1]) (rest := []) (al2 := [some (.ref 1)]) (by decide +kernel) rfl (by decide +kernel) fo_1 rfl rfl rfl rfl rfl rfl rfl (by omega) (fun d' hd' => fe_57 (by omega) w37) rfl ?_
    by_cases c39 : (fx_b q38.1) = 0
    · rw [if_pos c39] at h
      refine fs_if_eq_t (off := 19) (t := 33) (by decide +kernel) (by decide +kernel) c39 ?_
      refine fs_iconst (n := -1) (p := 34) (by decide +kernel) rfl kc_m1 ?_
      have h := Option.some.inj h
      subst h
      exact fs_iret (by decide +kernel) rt_101
    · rw [if_neg c39] at h
      refine fs_if_eq_f (off := 19) (t := 33) (p := 17) (by decide +kernel) (by decide +kernel) rfl c39 ?_
      refine fs_iload_n (k := 2) (p := 18) (by decide +kernel) rfl rfl ?_
      obtain ⟨q41, w40, h⟩ := fx_bd h
      refine fs_callS (idx := 131) (mj := 117) (na := 1) (mx := 1) (p := 21) (args := [.int x2]) (rest := []) (al2 := [some (.int x2)]) (by decide +kernel) rfl (by decide +kernel) rfl rfl rfl rfl rfl rfl rfl (by omega) (fun d' hd' => fe_117 (by omega) w40) rfl ?_
      by_cases c42 : (fx_b q41.1) = 0
      · rw [if_pos c42] at h
        refine fs_if_eq_t (off := 12) (t := 33) (by decide +kernel) (by decide +kernel) c42 ?_
        refine fs_iconst (n := -1) (p := 34) (by decide +kernel) rfl kc_m1 ?_
        have h := Option.some.inj h
        subst h
        exact fs_iret (by decide +kernel) rt_101
      · rw [if_neg c42] at h
        refine fs_if_eq_f (off := 12) (t := 33) (p := 24) (by decide +kernel) (by decide +kernel) rfl c42 ?_
        refine fs_iload_n (k := 3) (p := 25) (by decide +kernel) rfl rfl ?_
        by_cases c44 : x3 < 0
        · rw [if_pos c44] at h
          refine fs_if_lt_t (off := 8) (t := 33) (by decide +kernel) (by decide +kernel) c44 ?_
          refine fs_iconst (n := -1) (p := 34) (by decide +kernel) rfl kc_m1 ?_
          have h := Option.some.inj h
          subst h
          exact fs_iret (by decide +kernel) rt_101
        · rw [if_neg c44] at h
          refine fs_if_lt_f (off := 8) (t := 33) (p := 28) (by decide +kernel) (by decide +kernel) rfl c44 ?_
          refine fs_iload_n (k := 3) (p := 29) (by decide +kernel) rfl rfl ?_
          refine fs_iconst (n := 1) (p := 30) (by decide +kernel) rfl kc_1 ?_
          by_cases c45 : x3 ≤ (1 : Int32)
          · rw [if_pos c45] at h
            refine fs_icmp_le_t (off := 5) (t := 35) (by decide +kernel) (by decide +kernel) c45 ?_
            refine fs_aload_n (k := 0) (p := 36) (by decide +kernel) rfl rfl ?_
            refine fs_gfr (idx := 60) (ci := 9) (j := 6) (p := 39) (by decide +kernel) rfl (by decide +kernel) fo_0 (fr_a0_6) ?_
            refine fs_iload_n (k := 1) (p := 40) (by decide +kernel) rfl rfl ?_
            obtain ⟨v46, w47, h⟩ := fx_bd h
            have g48 := fa_70 w47
            refine fs_aaload (t := 4) (p := 41) (by decide +kernel) rfl (by decide +kernel) w47 ?_
            refine fs_astore (k := 4) (p := 43) (M := 7) (al' := [some (.ref 0), some (.int x1), some (.int x2), some (.int x3), some (.ref v46), none, none]) (by decide +kernel) rfl mx_101 rfl rfl ?_
            refine fs_iload_n (k := 3) (p := 44) (by decide +kernel) rfl rfl ?_
            refine fs_iconst (n := 1) (p := 45) (by decide +kernel) rfl kc_1 ?_
            by_cases c50 : ¬ x3 = (1 : Int32)
            · rw [if_pos c50] at h
              refine fs_icmp_ne_t (off := 21) (t := 66) (by decide +kernel) (by decide +kernel) c50 ?_
              refine fs_aload (k := 4) (p := 68) (by decide +kernel) rfl rfl ?_
              refine fs_iconst (n := 2) (p := 69) (by decide +kernel) rfl kc_2 ?_
              obtain ⟨q52, w51, h⟩ := fx_bd h
              refine fs_callV (idx := 150) (mj := 19) (ci := 2) (na := 1) (mx := 2) (p := 72) (args := [.ref v46, .int (2 : Int32)]) (rest := []) (al2 := [some (.ref v46), some (.int (2 : Int32))]) (by decide +kernel) rfl (by decide +kernel) g48 rfl rfl rfl rfl rfl rfl rfl (by omega) (fun d' hd' => fe_19 (by omega) w51) rfl ?_
              refine fs_pop (p := 73) (by decide +kernel) rfl rfl ?_
              refine fs_iconst (n := 0) (p := 74) (by decide +kernel) rfl kc_0 ?_
              refine fs_istore (k := 5) (p := 76) (M := 7) (al' := [some (.ref 0), some (.int x1), some (.int x2), some (.int x3), some (.ref v46), some (.int (0 : Int32)), none]) (by decide +kernel) rfl mx_101 rfl rfl ?_
              refine fs_iconst (n := 0) (p := 77) (by decide +kernel) rfl kc_0 ?_
              refine fs_istore (k := 6) (p := 79) (M := 7) (al' := [some (.ref 0), some (.int x1), some (.int x2), some (.int x3), some (.ref v46), some (.int (0 : Int32)), some (.int (0 : Int32))]) (by decide +kernel) rfl mx_101 rfl rfl ?_
              exact fe_101_79 hd 100000 _ _ _ _ _ _ _ _ g48 h
            · rw [if_neg c50] at h
              refine fs_icmp_ne_f (off := 21) (t := 66) (p := 48) (by decide +kernel) (by decide +kernel) rfl c50 ?_
              refine fs_aload (k := 4) (p := 50) (by decide +kernel) rfl rfl ?_
              refine fs_bipush (n := 8) (p := 52) (by decide +kernel) rfl kb_8 ?_
              obtain ⟨q54, w53, h⟩ := fx_bd h
              refine fs_callV (idx := 150) (mj := 19) (ci := 2) (na := 1) (mx := 2) (p := 55) (args := [.ref v46, .int (8 : Int32)]) (rest := []) (al2 := [some (.ref v46), some (.int (8 : Int32))]) (by decide +kernel) rfl (by decide +kernel) g48 rfl rfl rfl rfl rfl rfl rfl (by omega) (fun d' hd' => fe_19 (by omega) w53) rfl ?_
              refine fs_pop (p := 56) (by decide +kernel) rfl rfl ?_
              refine fs_aload (k := 4) (p := 58) (by decide +kernel) rfl rfl ?_
              refine fs_gfr (idx := 234) (ci := 2) (j := 4) (p := 61) (by decide +kernel) rfl (by decide +kernel) g48 (fr_2_4 g48) ?_
              refine fs_iload_n (k := 2) (p := 62) (by decide +kernel) rfl rfl ?_
              obtain ⟨q56, w55, h⟩ := fx_bd h
              refine fs_callV (idx := 237) (mj := 76) (ci := 7) (na := 1) (mx := 4) (p := 65) (args := [.ref (v46 + 21), .int x2]) (rest := []) (al2 := [some (.ref (v46 + 21)), some (.int x2), none, none]) (by decide +kernel) rfl (by decide +kernel) (fg_2_4 g48) rfl rfl rfl rfl rfl rfl rfl (by omega) (fun d' hd' => fe_76 (by omega) w55) rfl ?_
              have h := Option.some.inj h
              subst h
              exact fs_iret (by decide +kernel) rt_101
          · rw [if_neg c45] at h
            refine fs_icmp_le_f (off := 5) (t := 35) (p := 33) (by decide +kernel) (by decide +kernel) rfl c45 ?_
            refine fs_iconst (n := -1) (p := 34) (by decide +kernel) rfl kc_m1 ?_
            have h := Option.some.inj h
            subst h
            exact fs_iret (by decide +kernel) rt_101

/-! ZoneShares.surface(IIII)J -/
theorem mx_106 : iv_mx 106 = 7 := by decide +kernel
theorem rt_106 : iv_rt 106 = some .long := by decide +kernel
def fm_106_40 (σ : fx_S) : Option (Int64 × fx_S) :=
  some ((-1 : Int64), σ)
theorem fe_106_40 {z : iv_Z} {d : Nat} (hd : 6 ≤ d) (o0 : Option Value) (o1 : Option Value) (o2 : Option Value) (o3 : Option Value) (o4 : Option Value) (σ : fx_S) (q : Int64 × fx_S) (h : fm_106_40  σ = some q) : fx_E z 106 d 40 [o0, o1, o2, o3, o4, none, none] [] σ (some (.long q.1)) q.2 := by
  unfold fm_106_40 at h
  refine fs_ldc2 (idx := 221) (p := 43) (x := -1) (by decide +kernel) rfl (by decide +kernel) ?_
  have h := Option.some.inj h
  subst h
  exact fs_lret (by decide +kernel) rt_106
def fm_106 (x1 : Int32) (x2 : Int32) (x3 : Int32) (x4 : Int32) (σ : fx_S) : Option (Int64 × fx_S) :=
  (fm_114 x1 σ).bind fun q28 =>
  if (fx_b q28.1) = 0 then (
    fm_106_40 q28.2) else (
    (fm_57 1 q28.2).bind fun q31 =>
    if (fx_b q31.1) = 0 then (
      fm_106_40 q31.2) else (
      (fm_59 1 x2 x3 q31.2).bind fun q34 =>
      if (fx_b q34.1) = 0 then (
        fm_106_40 q34.2) else (
        if x4 < 0 then (
          fm_106_40 q34.2) else (
          if x4 ≤ (1 : Int32) then (
            (fx_ldr 4 70 x1).bind fun v39 =>
            (fm_19 v39 (2 : Int32) q34.2).bind fun q44 =>
            (fm_27 v39 ((x2 * (q44.1 1 5)) + x3) q44).bind fun q46 =>
            (fm_28 v39 ((x2 * (q44.1 1 5)) + x3) q46.2).bind fun q49 =>
            (fm_127 (q46.1).toInt64 (q49.1).toInt64 x4 q49.2).bind fun q52 =>
            some (q52.1, q52.2)) else (
            fm_106_40 q34.2)))))
theorem fe_106 {z : iv_Z} {d : Nat} (hd : 6 ≤ d) {x1 : Int32} {x2 : Int32} {x3 : Int32} {x4 : Int32} {σ : fx_S} {q : Int64 × fx_S} (h : fm_106 x1 x2 x3 x4 σ = some q) : fx_E z 106 d 0 [some (.ref 0), some (.int x1), some (.int x2), some (.int x3), some (.int x4), none, none] [] σ (some (.long q.1)) q.2 := by
  unfold fm_106 at h
  refine fs_iload_n (k := 1) (p := 1) (by decide +kernel) rfl rfl ?_
  obtain ⟨q28, w27, h⟩ := fx_bd h
  refine fs_callS (idx := 94) (mj := 114) (na := 1) (mx := 1) (p := 4) (args := [.int x1]) (rest := []) (al2 := [some (.int x1)]) (by decide +kernel) rfl (by decide +kernel) rfl rfl rfl rfl rfl rfl rfl (by omega) (fun d' hd' => fe_114 (by omega) w27) rfl ?_
  by_cases c29 : (fx_b q28.1) = 0
  · rw [if_pos c29] at h
    refine fs_if_eq_t (off := 36) (t := 40) (by decide +kernel) (by decide +kernel) c29 ?_
    exact fe_106_40 hd _ _ _ _ _ _ _ h
  · rw [if_neg c29] at h
    refine fs_if_eq_f (off := 36) (t := 40) (p := 7) (by decide +kernel) (by decide +kernel) rfl c29 ?_
    refine fs_aload_n (k := 0) (p := 8) (by decide +kernel) rfl rfl ?_
    refine fs_gfr (idx := 13) (ci := 9) (j := 1) (p := 11) (by decide +kernel) rfl (by decide +kernel) fo_0 (fr_a0_1) ?_
    obtain ⟨q31, w30, h⟩ := fx_bd h
    refine fs_callV (idx := 146) (mj := 57) (ci := 6) (na := 0) (mx := 1) (p := 14) (args := [.ref 1]) (rest := []) (al2 := [some (.ref 1)]) (by decide +kernel) rfl (by decide +kernel) fo_1 rfl rfl rfl rfl rfl rfl rfl (by omega) (fun d' hd' => fe_57 (by omega) w30) rfl ?_
    by_cases c32 : (fx_b q31.1) = 0
    · rw [if_pos c32] at h
      refine fs_if_eq_t (off := 26) (t := 40) (by decide +kernel) (by decide +kernel) c32 ?_
      exact fe_106_40 hd _ _ _ _ _ _ _ h
    · rw [if_neg c32] at h
      refine fs_if_eq_f (off := 26) (t := 40) (p := 17) (by decide +kernel) (by decide +kernel) rfl c32 ?_
      refine fs_aload_n (k := 0) (p := 18) (by decide +kernel) rfl rfl ?_
      refine fs_gfr (idx := 13) (ci := 9) (j := 1) (p := 21) (by decide +kernel) rfl (by decide +kernel) fo_0 (fr_a0_1) ?_
      refine fs_iload_n (k := 2) (p := 22) (by decide +kernel) rfl rfl ?_
      refine fs_iload_n (k := 3) (p := 23) (by decide +kernel) rfl rfl ?_
      obtain ⟨q34, w33, h⟩ := fx_bd h
      refine fs_callV (idx := 170) (mj := 59) (ci := 6) (na := 2) (mx := 3) (p := 26) (args := [.ref 1, .int x2, .int x3]) (rest := []) (al2 := [some (.ref 1), some (.int x2), some (.int x3)]) (by decide +kernel) rfl (by decide +kernel) fo_1 rfl rfl rfl rfl rfl rfl rfl (by omega) (fun d' hd' => fe_59 (by omega) w33) rfl ?_
      by_cases c35 : (fx_b q34.1) = 0
      · rw [if_pos c35] at h
        refine fs_if_eq_t (off := 14) (t := 40) (by decide +kernel) (by decide +kernel) c35 ?_
        exact fe_106_40 hd _ _ _ _ _ _ _ h
      · rw [if_neg c35] at h
        refine fs_if_eq_f (off := 14) (t := 40) (p := 29) (by decide +kernel) (by decide +kernel) rfl c35 ?_
        refine fs_iload (k := 4) (p := 31) (by decide +kernel) rfl rfl ?_
        by_cases c37 : x4 < 0
        · rw [if_pos c37] at h
          refine fs_if_lt_t (off := 9) (t := 40) (by decide +kernel) (by decide +kernel) c37 ?_
          exact fe_106_40 hd _ _ _ _ _ _ _ h
        · rw [if_neg c37] at h
          refine fs_if_lt_f (off := 9) (t := 40) (p := 34) (by decide +kernel) (by decide +kernel) rfl c37 ?_
          refine fs_iload (k := 4) (p := 36) (by decide +kernel) rfl rfl ?_
          refine fs_iconst (n := 1) (p := 37) (by decide +kernel) rfl kc_1 ?_
          by_cases c38 : x4 ≤ (1 : Int32)
          · rw [if_pos c38] at h
            refine fs_icmp_le_t (off := 7) (t := 44) (by decide +kernel) (by decide +kernel) c38 ?_
            refine fs_aload_n (k := 0) (p := 45) (by decide +kernel) rfl rfl ?_
            refine fs_gfr (idx := 60) (ci := 9) (j := 6) (p := 48) (by decide +kernel) rfl (by decide +kernel) fo_0 (fr_a0_6) ?_
            refine fs_iload_n (k := 1) (p := 49) (by decide +kernel) rfl rfl ?_
            obtain ⟨v39, w40, h⟩ := fx_bd h
            have g41 := fa_70 w40
            refine fs_aaload (t := 4) (p := 50) (by decide +kernel) rfl (by decide +kernel) w40 ?_
            refine fs_astore (k := 5) (p := 52) (M := 7) (al' := [some (.ref 0), some (.int x1), some (.int x2), some (.int x3), some (.int x4), some (.ref v39), none]) (by decide +kernel) rfl mx_106 rfl rfl ?_
            refine fs_aload (k := 5) (p := 54) (by decide +kernel) rfl rfl ?_
            refine fs_iconst (n := 2) (p := 55) (by decide +kernel) rfl kc_2 ?_
            obtain ⟨q44, w43, h⟩ := fx_bd h
            refine fs_callV (idx := 150) (mj := 19) (ci := 2) (na := 1) (mx := 2) (p := 58) (args := [.ref v39, .int (2 : Int32)]) (rest := []) (al2 := [some (.ref v39), some (.int (2 : Int32))]) (by decide +kernel) rfl (by decide +kernel) g41 rfl rfl rfl rfl rfl rfl rfl (by omega) (fun d' hd' => fe_19 (by omega) w43) rfl ?_
            refine fs_pop (p := 59) (by decide +kernel) rfl rfl ?_
            refine fs_iload_n (k := 2) (p := 60) (by decide +kernel) rfl rfl ?_
            refine fs_aload_n (k := 0) (p := 61) (by decide +kernel) rfl rfl ?_
            refine fs_gfr (idx := 13) (ci := 9) (j := 1) (p := 64) (by decide +kernel) rfl (by decide +kernel) fo_0 (fr_a0_1) ?_
            refine fs_gfi (idx := 174) (ci := 6) (j := 5) (p := 67) (by decide +kernel) rfl (by decide +kernel) fo_1 ?_
            refine fs_imul (p := 68) (by decide +kernel) rfl ?_
            refine fs_iload_n (k := 3) (p := 69) (by decide +kernel) rfl rfl ?_
            refine fs_iadd (p := 70) (by decide +kernel) rfl ?_
            refine fs_istore (k := 6) (p := 72) (M := 7) (al' := [some (.ref 0), some (.int x1), some (.int x2), some (.int x3), some (.int x4), some (.ref v39), some (.int ((x2 * (q44.1 1 5)) + x3))]) (by decide +kernel) rfl mx_106 rfl rfl ?_
            refine fs_aload (k := 5) (p := 74) (by decide +kernel) rfl rfl ?_
            refine fs_iload (k := 6) (p := 76) (by decide +kernel) rfl rfl ?_
            obtain ⟨q46, w45, h⟩ := fx_bd h
            refine fs_callV (idx := 258) (mj := 27) (ci := 2) (na := 1) (mx := 4) (p := 79) (args := [.ref v39, .int ((x2 * (q44.1 1 5)) + x3)]) (rest := []) (al2 := [some (.ref v39), some (.int ((x2 * (q44.1 1 5)) + x3)), none, none]) (by decide +kernel) rfl (by decide +kernel) g41 rfl rfl rfl rfl rfl rfl rfl (by omega) (fun d' hd' => fe_27 (by omega) w45) rfl ?_
            refine fs_i2l (p := 80) (by decide +kernel) rfl ?_
            refine fs_aload (k := 5) (p := 82) (by decide +kernel) rfl rfl ?_
            refine fs_iload (k := 6) (p := 84) (by decide +kernel) rfl rfl ?_
            obtain ⟨q49, w48, h⟩ := fx_bd h
            refine fs_callV (idx := 261) (mj := 28) (ci := 2) (na := 1) (mx := 3) (p := 87) (args := [.ref v39, .int ((x2 * (q44.1 1 5)) + x3)]) (rest := [.long (q46.1).toInt64]) (al2 := [some (.ref v39), some (.int ((x2 * (q44.1 1 5)) + x3)), none]) (by decide +kernel) rfl (by decide +kernel) g41 rfl rfl rfl rfl rfl rfl rfl (by omega) (fun d' hd' => fe_28 (by omega) w48) rfl ?_
            refine fs_i2l (p := 88) (by decide +kernel) rfl ?_
            refine fs_iload (k := 4) (p := 90) (by decide +kernel) rfl rfl ?_
            obtain ⟨q52, w51, h⟩ := fx_bd h
            refine fs_callS (idx := 214) (mj := 127) (na := 3) (mx := 7) (p := 93) (args := [.long (q46.1).toInt64, .long (q49.1).toInt64, .int x4]) (rest := []) (al2 := [some (.long (q46.1).toInt64), none, some (.long (q49.1).toInt64), none, some (.int x4), none, none]) (by decide +kernel) rfl (by decide +kernel) rfl rfl rfl rfl rfl rfl rfl (by omega) (fun d' hd' => fe_127 (by omega) w51) rfl ?_
            have h := Option.some.inj h
            subst h
            exact fs_lret (by decide +kernel) rt_106
          · rw [if_neg c38] at h
            refine fs_icmp_le_f (off := 7) (t := 44) (p := 40) (by decide +kernel) (by decide +kernel) rfl c38 ?_
            exact fe_106_40 hd _ _ _ _ _ _ _ h

/-! ZoneShares.densest(II)I -/
theorem mx_107 : iv_mx 107 = 6 := by decide +kernel
theorem rt_107 : iv_rt 107 = some .int := by decide +kernel
def fm_107 (x1 : Int32) (x2 : Int32) (σ : fx_S) : Option (Int32 × fx_S) :=
  (fm_114 x1 σ).bind fun q27 =>
  if (fx_b q27.1) = 0 then (
    some ((-1 : Int32), q27.2)) else (
    (fm_57 1 q27.2).bind fun q30 =>
    if (fx_b q30.1) = 0 then (
      some ((-1 : Int32), q30.2)) else (
      if x2 < 0 then (
        some ((-1 : Int32), q30.2)) else (
        (fm_58 1 q30.2).bind fun q35 =>
        if x2 < q35.1 then (
          (fx_ldr 4 70 x1).bind fun v38 =>
          (fm_19 v38 (32 : Int32) q35.2).bind fun q43 =>
          (fx_ld q43 (v38 + 2) x2).bind fun v44 =>
          if ¬ (if (1 : Int32) < (q43.1 1 5) then (q43.1 1 5) else (1 : Int32)) = 0 then (
          if ¬ (if (1 : Int32) < (q43.1 1 5) then (q43.1 1 5) else (1 : Int32)) = 0 then (
          some ((((12 : Int32) * (v44 / (if (1 : Int32) < (q43.1 1 5) then (q43.1 1 5) else (1 : Int32)))) + (v44 - v44 / (if (1 : Int32) < (q43.1 1 5) then (q43.1 1 5) else (1 : Int32)) * (if (1 : Int32) < (q43.1 1 5) then (q43.1 1 5) else (1 : Int32)))), q43)) else none) else none) else (
          some ((-1 : Int32), q35.2)))))
theorem fe_107 {z : iv_Z} {d : Nat} (hd : 6 ≤ d) {x1 : Int32} {x2 : Int32} {σ : fx_S} {q : Int32 × fx_S} (h : fm_107 x1 x2 σ = some q) : fx_E z 107 d 0 [some (.ref 0), some (.int x1), some (.int x2), none, none, none] [] σ (some (.int q.1)) q.2 := by
  unfold fm_107 at h
  refine fs_iload_n (k := 1) (p := 1) (by decide +kernel) rfl rfl ?_
  obtain ⟨q27, w26, h⟩ := fx_bd h
  refine fs_callS (idx := 94) (mj := 114) (na := 1) (mx := 1) (p := 4) (args := [.int x1]) (rest := []) (al2 := [some (.int x1)]) (by decide +kernel) rfl (by decide +kernel) rfl rfl rfl rfl rfl rfl rfl (by omega) (fun d' hd' => fe_114 (by omega) w26) rfl ?_
  by_cases c28 : (fx_b q27.1) = 0
  · rw [if_pos c28] at h
    refine fs_if_eq_t (off := 28) (t := 32) (by decide +kernel) (by decide +kernel) c28 ?_
    refine fs_iconst (n := -1) (p := 33) (by decide +kernel) rfl kc_m1 ?_
    have h := Option.some.inj h
    subst h
    exact fs_iret (by decide +kernel) rt_107
  · rw [if_neg c28] at h
    refine fs_if_eq_f (off := 28) (t := 32) (p := 7) (by decide +kernel) (by decide +kernel) rfl c28 ?_
    refine fs_aload_n (k := 0) (p := 8) (by decide +kernel) rfl rfl ?_
    refine fs_gfr (idx := 13) (ci := 9) (j := 1) (p := 11) (by decide +kernel) rfl (by decide +kernel) fo_0 (fr_a0_1) ?_
    obtain ⟨q30, w29, h⟩ := fx_bd h
    refine fs_callV (idx := 146) (mj := 57) (ci := 6) (na := 0) (mx := 1) (p := 14) (args := [.ref 1]) (rest := []) (al2 := [some (.ref 1)]) (by decide +kernel) rfl (by decide +kernel) fo_1 rfl rfl rfl rfl rfl rfl rfl (by omega) (fun d' hd' => fe_57 (by omega) w29) rfl ?_
    by_cases c31 : (fx_b q30.1) = 0
    · rw [if_pos c31] at h
      refine fs_if_eq_t (off := 18) (t := 32) (by decide +kernel) (by decide +kernel) c31 ?_
      refine fs_iconst (n := -1) (p := 33) (by decide +kernel) rfl kc_m1 ?_
      have h := Option.some.inj h
      subst h
      exact fs_iret (by decide +kernel) rt_107
    · rw [if_neg c31] at h
      refine fs_if_eq_f (off := 18) (t := 32) (p := 17) (by decide +kernel) (by decide +kernel) rfl c31 ?_
      refine fs_iload_n (k := 2) (p := 18) (by decide +kernel) rfl rfl ?_
      by_cases c33 : x2 < 0
      · rw [if_pos c33] at h
        refine fs_if_lt_t (off := 14) (t := 32) (by decide +kernel) (by decide +kernel) c33 ?_
        refine fs_iconst (n := -1) (p := 33) (by decide +kernel) rfl kc_m1 ?_
        have h := Option.some.inj h
        subst h
        exact fs_iret (by decide +kernel) rt_107
      · rw [if_neg c33] at h
        refine fs_if_lt_f (off := 14) (t := 32) (p := 21) (by decide +kernel) (by decide +kernel) rfl c33 ?_
        refine fs_iload_n (k := 2) (p := 22) (by decide +kernel) rfl rfl ?_
        refine fs_aload_n (k := 0) (p := 23) (by decide +kernel) rfl rfl ?_
        refine fs_gfr (idx := 13) (ci := 9) (j := 1) (p := 26) (by decide +kernel) rfl (by decide +kernel) fo_0 (fr_a0_1) ?_
        obtain ⟨q35, w34, h⟩ := fx_bd h
        refine fs_callV (idx := 90) (mj := 58) (ci := 6) (na := 0) (mx := 1) (p := 29) (args := [.ref 1]) (rest := [.int x2]) (al2 := [some (.ref 1)]) (by decide +kernel) rfl (by decide +kernel) fo_1 rfl rfl rfl rfl rfl rfl rfl (by omega) (fun d' hd' => fe_58 (by omega) w34) rfl ?_
        by_cases c37 : x2 < q35.1
        · rw [if_pos c37] at h
          refine fs_icmp_lt_t (off := 5) (t := 34) (by decide +kernel) (by decide +kernel) c37 ?_
          refine fs_aload_n (k := 0) (p := 35) (by decide +kernel) rfl rfl ?_
          refine fs_gfr (idx := 60) (ci := 9) (j := 6) (p := 38) (by decide +kernel) rfl (by decide +kernel) fo_0 (fr_a0_6) ?_
          refine fs_iload_n (k := 1) (p := 39) (by decide +kernel) rfl rfl ?_
          obtain ⟨v38, w39, h⟩ := fx_bd h
          have g40 := fa_70 w39
          refine fs_aaload (t := 4) (p := 40) (by decide +kernel) rfl (by decide +kernel) w39 ?_
          refine fs_astore_n (k := 3) (p := 41) (M := 6) (al' := [some (.ref 0), some (.int x1), some (.int x2), some (.ref v38), none, none]) (by decide +kernel) rfl mx_107 rfl rfl ?_
          refine fs_aload_n (k := 3) (p := 42) (by decide +kernel) rfl rfl ?_
          refine fs_bipush (n := 32) (p := 44) (by decide +kernel) rfl kb_32 ?_
          obtain ⟨q43, w42, h⟩ := fx_bd h
          refine fs_callV (idx := 150) (mj := 19) (ci := 2) (na := 1) (mx := 2) (p := 47) (args := [.ref v38, .int (32 : Int32)]) (rest := []) (al2 := [some (.ref v38), some (.int (32 : Int32))]) (by decide +kernel) rfl (by decide +kernel) g40 rfl rfl rfl rfl rfl rfl rfl (by omega) (fun d' hd' => fe_19 (by omega) w42) rfl ?_
          refine fs_pop (p := 48) (by decide +kernel) rfl rfl ?_
          refine fs_aload_n (k := 3) (p := 49) (by decide +kernel) rfl rfl ?_
          refine fs_gfr (idx := 264) (ci := 2) (j := 1) (p := 52) (by decide +kernel) rfl (by decide +kernel) g40 (fr_2_1 g40) ?_
          refine fs_iload_n (k := 2) (p := 53) (by decide +kernel) rfl rfl ?_
          obtain ⟨v44, w45, h⟩ := fx_bd h
          refine fs_iaload (p := 54) (by decide +kernel) rfl w45 ?_
          refine fs_istore (k := 4) (p := 56) (M := 6) (al' := [some (.ref 0), some (.int x1), some (.int x2), some (.ref v38), some (.int v44), none]) (by decide +kernel) rfl mx_107 rfl rfl ?_
          refine fs_iconst (n := 1) (p := 57) (by decide +kernel) rfl kc_1 ?_
          refine fs_aload_n (k := 0) (p := 58) (by decide +kernel) rfl rfl ?_
          refine fs_gfr (idx := 13) (ci := 9) (j := 1) (p := 61) (by decide +kernel) rfl (by decide +kernel) fo_0 (fr_a0_1) ?_
          refine fs_gfi (idx := 174) (ci := 6) (j := 5) (p := 64) (by decide +kernel) rfl (by decide +kernel) fo_1 ?_
          refine fs_max (idx := 267) (p := 67) (by decide +kernel) rfl (by decide +kernel) rfl ?_
          refine fs_istore (k := 5) (p := 69) (M := 6) (al' := [some (.ref 0), some (.int x1), some (.int x2), some (.ref v38), some (.int v44), some (.int (if (1 : Int32) < (q43.1 1 5) then (q43.1 1 5) else (1 : Int32)))]) (by decide +kernel) rfl mx_107 rfl rfl ?_
          refine fs_bipush (n := 12) (p := 71) (by decide +kernel) rfl kb_12 ?_
          refine fs_iload (k := 4) (p := 73) (by decide +kernel) rfl rfl ?_
          refine fs_iload (k := 5) (p := 75) (by decide +kernel) rfl rfl ?_
          obtain ⟨z49, h⟩ := fx_gd h
          refine fs_idiv (p := 76) (by decide +kernel) rfl z49 ?_
          refine fs_imul (p := 77) (by decide +kernel) rfl ?_
          refine fs_iload (k := 4) (p := 79) (by decide +kernel) rfl rfl ?_
          refine fs_iload (k := 5) (p := 81) (by decide +kernel) rfl rfl ?_
          obtain ⟨z50, h⟩ := fx_gd h
          refine fs_irem (p := 82) (by decide +kernel) rfl z50 ?_
          refine fs_iadd (p := 83) (by decide +kernel) rfl ?_
          have h := Option.some.inj h
          subst h
          exact fs_iret (by decide +kernel) rt_107
        · rw [if_neg c37] at h
          refine fs_icmp_lt_f (off := 5) (t := 34) (p := 32) (by decide +kernel) (by decide +kernel) rfl c37 ?_
          refine fs_iconst (n := -1) (p := 33) (by decide +kernel) rfl kc_m1 ?_
          have h := Option.some.inj h
          subst h
          exact fs_iret (by decide +kernel) rt_107

/-! ZoneShares.count(I)I -/
theorem mx_111 : iv_mx 111 = 2 := by decide +kernel
theorem rt_111 : iv_rt 111 = some .int := by decide +kernel
def fm_111 (x1 : Int32) (σ : fx_S) : Option (Int32 × fx_S) :=
  if x1 = (0 : Int32) then (
    (fm_58 1 σ).bind fun q50 =>
    some (q50.1, q50.2)) else (
    if x1 = (1 : Int32) then (
      some ((σ.1 1 4), σ)) else (
      if x1 = (2 : Int32) then (
        (fm_63 1 (0 : Int32) (8 : Int32) σ).bind fun q48 =>
        some (q48.1, q48.2)) else (
        if x1 = (3 : Int32) then (
          (fm_63 1 (1 : Int32) (8 : Int32) σ).bind fun q46 =>
          some (q46.1, q46.2)) else (
          if x1 = (4 : Int32) then (
            (fm_63 1 (2 : Int32) (4 : Int32) σ).bind fun q44 =>
            some (q44.1, q44.2)) else (
            if x1 = (5 : Int32) then (
              some ((σ.1 1 7), σ)) else (
              if x1 = (6 : Int32) then (
                some ((σ.1 1 8), σ)) else (
                if x1 = (7 : Int32) then (
                  some ((σ.1 1 6), σ)) else (
                  if x1 = (8 : Int32) then (
                    some ((σ.1 16 2), σ)) else (
                    if x1 = (9 : Int32) then (
                      some ((σ.1 14 1), σ)) else (
                      if x1 = (10 : Int32) then (
                        (fm_126 (1 : Int32) σ).bind fun q42 =>
                        some (q42.1, q42.2)) else (
                        if x1 = (11 : Int32) then (
                          (fm_126 (0 : Int32) σ).bind fun q40 =>
                          some (q40.1, q40.2)) else (
                          some ((-1 : Int32), σ)))))))))))))
theorem fe_111 {z : iv_Z} {d : Nat} (hd : 6 ≤ d) {x1 : Int32} {σ : fx_S} {q : Int32 × fx_S} (h : fm_111 x1 σ = some q) : fx_E z 111 d 0 [some (.ref 0), some (.int x1)] [] σ (some (.int q.1)) q.2 := by
  unfold fm_111 at h
  refine fs_iload_n (k := 1) (p := 1) (by decide +kernel) rfl rfl ?_
  by_cases c26 : x1 = (0 : Int32)
  · rw [if_pos c26] at h
    refine fs_tsw_h (dflt := 163) (lo := 0) (hi := 11) (offs := #[63, 71, 79, 90, 101, 111, 119, 127, 135, 143, 151, 157]) (x := x1) (j := 0) (t := 64) (by decide +kernel) (by decide +kernel) (by decide) (c26.trans (by decide)) ?_
    refine fs_aload_n (k := 0) (p := 65) (by decide +kernel) rfl rfl ?_
    refine fs_gfr (idx := 13) (ci := 9) (j := 1) (p := 68) (by decide +kernel) rfl (by decide +kernel) fo_0 (fr_a0_1) ?_
    obtain ⟨q50, w49, h⟩ := fx_bd h
    refine fs_callV (idx := 90) (mj := 58) (ci := 6) (na := 0) (mx := 1) (p := 71) (args := [.ref 1]) (rest := []) (al2 := [some (.ref 1)]) (by decide +kernel) rfl (by decide +kernel) fo_1 rfl rfl rfl rfl rfl rfl rfl (by omega) (fun d' hd' => fe_58 (by omega) w49) rfl ?_
    have h := Option.some.inj h
    subst h
    exact fs_iret (by decide +kernel) rt_111
  · rw [if_neg c26] at h
    by_cases c27 : x1 = (1 : Int32)
    · rw [if_pos c27] at h
      refine fs_tsw_h (dflt := 163) (lo := 0) (hi := 11) (offs := #[63, 71, 79, 90, 101, 111, 119, 127, 135, 143, 151, 157]) (x := x1) (j := 1) (t := 72) (by decide +kernel) (by decide +kernel) (by decide) (c27.trans (by decide)) ?_
      refine fs_aload_n (k := 0) (p := 73) (by decide +kernel) rfl rfl ?_
      refine fs_gfr (idx := 13) (ci := 9) (j := 1) (p := 76) (by decide +kernel) rfl (by decide +kernel) fo_0 (fr_a0_1) ?_
      refine fs_gfi (idx := 297) (ci := 6) (j := 4) (p := 79) (by decide +kernel) rfl (by decide +kernel) fo_1 ?_
      have h := Option.some.inj h
      subst h
      exact fs_iret (by decide +kernel) rt_111
    · rw [if_neg c27] at h
      by_cases c28 : x1 = (2 : Int32)
      · rw [if_pos c28] at h
        refine fs_tsw_h (dflt := 163) (lo := 0) (hi := 11) (offs := #[63, 71, 79, 90, 101, 111, 119, 127, 135, 143, 151, 157]) (x := x1) (j := 2) (t := 80) (by decide +kernel) (by decide +kernel) (by decide) (c28.trans (by decide)) ?_
        refine fs_aload_n (k := 0) (p := 81) (by decide +kernel) rfl rfl ?_
        refine fs_gfr (idx := 13) (ci := 9) (j := 1) (p := 84) (by decide +kernel) rfl (by decide +kernel) fo_0 (fr_a0_1) ?_
        refine fs_iconst (n := 0) (p := 85) (by decide +kernel) rfl kc_0 ?_
        refine fs_bipush (n := 8) (p := 87) (by decide +kernel) rfl kb_8 ?_
        obtain ⟨q48, w47, h⟩ := fx_bd h
        refine fs_callV (idx := 300) (mj := 63) (ci := 6) (na := 2) (mx := 5) (p := 90) (args := [.ref 1, .int (0 : Int32), .int (8 : Int32)]) (rest := []) (al2 := [some (.ref 1), some (.int (0 : Int32)), some (.int (8 : Int32)), none, none]) (by decide +kernel) rfl (by decide +kernel) fo_1 rfl rfl rfl rfl rfl rfl rfl (by omega) (fun d' hd' => fe_63 (by omega) w47) rfl ?_
        have h := Option.some.inj h
        subst h
        exact fs_iret (by decide +kernel) rt_111
      · rw [if_neg c28] at h
        by_cases c29 : x1 = (3 : Int32)
        · rw [if_pos c29] at h
          refine fs_tsw_h (dflt := 163) (lo := 0) (hi := 11) (offs := #[63, 71, 79, 90, 101, 111, 119, 127, 135, 143, 151, 157]) (x := x1) (j := 3) (t := 91) (by decide +kernel) (by decide +kernel) (by decide) (c29.trans (by decide)) ?_
          refine fs_aload_n (k := 0) (p := 92) (by decide +kernel) rfl rfl ?_
          refine fs_gfr (idx := 13) (ci := 9) (j := 1) (p := 95) (by decide +kernel) rfl (by decide +kernel) fo_0 (fr_a0_1) ?_
          refine fs_iconst (n := 1) (p := 96) (by decide +kernel) rfl kc_1 ?_
          refine fs_bipush (n := 8) (p := 98) (by decide +kernel) rfl kb_8 ?_
          obtain ⟨q46, w45, h⟩ := fx_bd h
          refine fs_callV (idx := 300) (mj := 63) (ci := 6) (na := 2) (mx := 5) (p := 101) (args := [.ref 1, .int (1 : Int32), .int (8 : Int32)]) (rest := []) (al2 := [some (.ref 1), some (.int (1 : Int32)), some (.int (8 : Int32)), none, none]) (by decide +kernel) rfl (by decide +kernel) fo_1 rfl rfl rfl rfl rfl rfl rfl (by omega) (fun d' hd' => fe_63 (by omega) w45) rfl ?_
          have h := Option.some.inj h
          subst h
          exact fs_iret (by decide +kernel) rt_111
        · rw [if_neg c29] at h
          by_cases c30 : x1 = (4 : Int32)
          · rw [if_pos c30] at h
            refine fs_tsw_h (dflt := 163) (lo := 0) (hi := 11) (offs := #[63, 71, 79, 90, 101, 111, 119, 127, 135, 143, 151, 157]) (x := x1) (j := 4) (t := 102) (by decide +kernel) (by decide +kernel) (by decide) (c30.trans (by decide)) ?_
            refine fs_aload_n (k := 0) (p := 103) (by decide +kernel) rfl rfl ?_
            refine fs_gfr (idx := 13) (ci := 9) (j := 1) (p := 106) (by decide +kernel) rfl (by decide +kernel) fo_0 (fr_a0_1) ?_
            refine fs_iconst (n := 2) (p := 107) (by decide +kernel) rfl kc_2 ?_
            refine fs_iconst (n := 4) (p := 108) (by decide +kernel) rfl kc_4 ?_
            obtain ⟨q44, w43, h⟩ := fx_bd h
            refine fs_callV (idx := 300) (mj := 63) (ci := 6) (na := 2) (mx := 5) (p := 111) (args := [.ref 1, .int (2 : Int32), .int (4 : Int32)]) (rest := []) (al2 := [some (.ref 1), some (.int (2 : Int32)), some (.int (4 : Int32)), none, none]) (by decide +kernel) rfl (by decide +kernel) fo_1 rfl rfl rfl rfl rfl rfl rfl (by omega) (fun d' hd' => fe_63 (by omega) w43) rfl ?_
            have h := Option.some.inj h
            subst h
            exact fs_iret (by decide +kernel) rt_111
          · rw [if_neg c30] at h
            by_cases c31 : x1 = (5 : Int32)
            · rw [if_pos c31] at h
              refine fs_tsw_h (dflt := 163) (lo := 0) (hi := 11) (offs := #[63, 71, 79, 90, 101, 111, 119, 127, 135, 143, 151, 157]) (x := x1) (j := 5) (t := 112) (by decide +kernel) (by decide +kernel) (by decide) (c31.trans (by decide)) ?_
              refine fs_aload_n (k := 0) (p := 113) (by decide +kernel) rfl rfl ?_
              refine fs_gfr (idx := 13) (ci := 9) (j := 1) (p := 116) (by decide +kernel) rfl (by decide +kernel) fo_0 (fr_a0_1) ?_
              refine fs_gfi (idx := 122) (ci := 6) (j := 7) (p := 119) (by decide +kernel) rfl (by decide +kernel) fo_1 ?_
              have h := Option.some.inj h
              subst h
              exact fs_iret (by decide +kernel) rt_111
            · rw [if_neg c31] at h
              by_cases c32 : x1 = (6 : Int32)
              · rw [if_pos c32] at h
                refine fs_tsw_h (dflt := 163) (lo := 0) (hi := 11) (offs := #[63, 71, 79, 90, 101, 111, 119, 127, 135, 143, 151, 157]) (x := x1) (j := 6) (t := 120) (by decide +kernel) (by decide +kernel) (by decide) (c32.trans (by decide)) ?_
                refine fs_aload_n (k := 0) (p := 121) (by decide +kernel) rfl rfl ?_
                refine fs_gfr (idx := 13) (ci := 9) (j := 1) (p := 124) (by decide +kernel) rfl (by decide +kernel) fo_0 (fr_a0_1) ?_
                refine fs_gfi (idx := 125) (ci := 6) (j := 8) (p := 127) (by decide +kernel) rfl (by decide +kernel) fo_1 ?_
                have h := Option.some.inj h
                subst h
                exact fs_iret (by decide +kernel) rt_111
              · rw [if_neg c32] at h
                by_cases c33 : x1 = (7 : Int32)
                · rw [if_pos c33] at h
                  refine fs_tsw_h (dflt := 163) (lo := 0) (hi := 11) (offs := #[63, 71, 79, 90, 101, 111, 119, 127, 135, 143, 151, 157]) (x := x1) (j := 7) (t := 128) (by decide +kernel) (by decide +kernel) (by decide) (c33.trans (by decide)) ?_
                  refine fs_aload_n (k := 0) (p := 129) (by decide +kernel) rfl rfl ?_
                  refine fs_gfr (idx := 13) (ci := 9) (j := 1) (p := 132) (by decide +kernel) rfl (by decide +kernel) fo_0 (fr_a0_1) ?_
                  refine fs_gfi (idx := 303) (ci := 6) (j := 6) (p := 135) (by decide +kernel) rfl (by decide +kernel) fo_1 ?_
                  have h := Option.some.inj h
                  subst h
                  exact fs_iret (by decide +kernel) rt_111
                · rw [if_neg c33] at h
                  by_cases c34 : x1 = (8 : Int32)
                  · rw [if_pos c34] at h
                    refine fs_tsw_h (dflt := 163) (lo := 0) (hi := 11) (offs := #[63, 71, 79, 90, 101, 111, 119, 127, 135, 143, 151, 157]) (x := x1) (j := 8) (t := 136) (by decide +kernel) (by decide +kernel) (by decide) (c34.trans (by decide)) ?_
                    refine fs_aload_n (k := 0) (p := 137) (by decide +kernel) rfl rfl ?_
                    refine fs_gfr (idx := 29) (ci := 9) (j := 2) (p := 140) (by decide +kernel) rfl (by decide +kernel) fo_0 (fr_a0_2) ?_
                    refine fs_gfi (idx := 160) (ci := 3) (j := 2) (p := 143) (by decide +kernel) rfl (by decide +kernel) fo_16 ?_
                    have h := Option.some.inj h
                    subst h
                    exact fs_iret (by decide +kernel) rt_111
                  · rw [if_neg c34] at h
                    by_cases c35 : x1 = (9 : Int32)
                    · rw [if_pos c35] at h
                      refine fs_tsw_h (dflt := 163) (lo := 0) (hi := 11) (offs := #[63, 71, 79, 90, 101, 111, 119, 127, 135, 143, 151, 157]) (x := x1) (j := 9) (t := 144) (by decide +kernel) (by decide +kernel) (by decide) (c35.trans (by decide)) ?_
                      refine fs_aload_n (k := 0) (p := 145) (by decide +kernel) rfl rfl ?_
                      refine fs_gfr (idx := 22) (ci := 9) (j := 0) (p := 148) (by decide +kernel) rfl (by decide +kernel) fo_0 (fr_a0_0) ?_
                      refine fs_gfi (idx := 67) (ci := 8) (j := 1) (p := 151) (by decide +kernel) rfl (by decide +kernel) fo_14 ?_
                      have h := Option.some.inj h
                      subst h
                      exact fs_iret (by decide +kernel) rt_111
                    · rw [if_neg c35] at h
                      by_cases c36 : x1 = (10 : Int32)
                      · rw [if_pos c36] at h
                        refine fs_tsw_h (dflt := 163) (lo := 0) (hi := 11) (offs := #[63, 71, 79, 90, 101, 111, 119, 127, 135, 143, 151, 157]) (x := x1) (j := 10) (t := 152) (by decide +kernel) (by decide +kernel) (by decide) (c36.trans (by decide)) ?_
                        refine fs_aload_n (k := 0) (p := 153) (by decide +kernel) rfl rfl ?_
                        refine fs_iconst (n := 1) (p := 154) (by decide +kernel) rfl kc_1 ?_
                        obtain ⟨q42, w41, h⟩ := fx_bd h
                        refine fs_callV (idx := 306) (mj := 126) (ci := 9) (na := 1) (mx := 5) (p := 157) (args := [.ref 0, .int (1 : Int32)]) (rest := []) (al2 := [some (.ref 0), some (.int (1 : Int32)), none, none, none]) (by decide +kernel) rfl (by decide +kernel) fo_0 rfl rfl rfl rfl rfl rfl rfl (by omega) (fun d' hd' => fe_126 (by omega) w41) rfl ?_
                        have h := Option.some.inj h
                        subst h
                        exact fs_iret (by decide +kernel) rt_111
                      · rw [if_neg c36] at h
                        by_cases c37 : x1 = (11 : Int32)
                        · rw [if_pos c37] at h
                          refine fs_tsw_h (dflt := 163) (lo := 0) (hi := 11) (offs := #[63, 71, 79, 90, 101, 111, 119, 127, 135, 143, 151, 157]) (x := x1) (j := 11) (t := 158) (by decide +kernel) (by decide +kernel) (by decide) (c37.trans (by decide)) ?_
                          refine fs_aload_n (k := 0) (p := 159) (by decide +kernel) rfl rfl ?_
                          refine fs_iconst (n := 0) (p := 160) (by decide +kernel) rfl kc_0 ?_
                          obtain ⟨q40, w39, h⟩ := fx_bd h
                          refine fs_callV (idx := 306) (mj := 126) (ci := 9) (na := 1) (mx := 5) (p := 163) (args := [.ref 0, .int (0 : Int32)]) (rest := []) (al2 := [some (.ref 0), some (.int (0 : Int32)), none, none, none]) (by decide +kernel) rfl (by decide +kernel) fo_0 rfl rfl rfl rfl rfl rfl rfl (by omega) (fun d' hd' => fe_126 (by omega) w39) rfl ?_
                          have h := Option.some.inj h
                          subst h
                          exact fs_iret (by decide +kernel) rt_111
                        · rw [if_neg c37] at h
                          refine fs_tsw_d (dflt := 163) (lo := 0) (hi := 11) (offs := #[63, 71, 79, 90, 101, 111, 119, 127, 135, 143, 151, 157]) (x := x1) (t := 164) (by decide +kernel) (by decide +kernel) (by decide) (by decide) (fun j hj => by match j, hj with | 0, _ => exact c26 | 1, _ => exact c27 | 2, _ => exact c28 | 3, _ => exact c29 | 4, _ => exact c30 | 5, _ => exact c31 | 6, _ => exact c32 | 7, _ => exact c33 | 8, _ => exact c34 | 9, _ => exact c35 | 10, _ => exact c36 | 11, _ => exact c37) ?_
                          refine fs_iconst (n := -1) (p := 165) (by decide +kernel) rfl kc_m1 ?_
                          have h := Option.some.inj h
                          subst h
                          exact fs_iret (by decide +kernel) rt_111

