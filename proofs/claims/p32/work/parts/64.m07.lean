/-! ZoneShares.weigh(III)I -/
theorem mx_89 : iv_mx 89 = 9 := by decide +kernel
theorem rt_89 : iv_rt 89 = some .int := by decide +kernel
def fm_89_137 : Nat → Int32 → Int32 → Int32 → Int32 → Int32 → fx_S → Option (Int32 × fx_S)
  | 0, _, _, _, _, _, _ => none
  | n + 1, x2, x3, x5, x7, x8, σ =>
    if x5 < x8 then (
      some (x7, σ)) else (
      (fx_st σ 4 ((x8 * (4 : Int32)) + x2) x3).bind fun t4 =>
      fm_89_137 n x2 x3 x5 x7 (x8 + (1 : Int32)) t4)
theorem fe_89_137 {z : iv_Z} {d : Nat} (hd : 3 ≤ d) : ∀ (n : Nat) (x2 : Int32) (x3 : Int32) (x5 : Int32) (x7 : Int32) (x8 : Int32) (o1 : Option Value) (o4 : Option Value) (o6 : Option Value) (σ : fx_S) (q : Int32 × fx_S), fm_89_137 n x2 x3 x5 x7 x8 σ = some q → fx_E z 89 d 137 [some (.ref 0), o1, some (.int x2), some (.int x3), o4, some (.int x5), o6, some (.int x7), some (.int x8)] [] σ (some (.int q.1)) q.2 := by
  intro n
  induction n with
  | zero =>
    intro x2 x3 x5 x7 x8 o1 o4 o6 σ q  h
    rw [fm_89_137] at h
    exact fx_no h
  | succ n ih =>
    intro x2 x3 x5 x7 x8 o1 o4 o6 σ q  h
    rw [fm_89_137] at h
    refine fs_iload (k := 8) (p := 139) (by decide +kernel) rfl rfl ?_
    refine fs_iload (k := 5) (p := 141) (by decide +kernel) rfl rfl ?_
    by_cases c3 : x5 < x8
    · rw [if_pos c3] at h
      refine fs_icmp_gt_t (off := 24) (t := 165) (by decide +kernel) (by decide +kernel) c3 ?_
      refine fs_iload (k := 7) (p := 167) (by decide +kernel) rfl rfl ?_
      have h := Option.some.inj h
      subst h
      exact fs_iret (by decide +kernel) rt_89
    · rw [if_neg c3] at h
      refine fs_icmp_gt_f (off := 24) (t := 165) (p := 144) (by decide +kernel) (by decide +kernel) rfl c3 ?_
      refine fs_aload_n (k := 0) (p := 145) (by decide +kernel) rfl rfl ?_
      refine fs_gfr (idx := 13) (ci := 9) (j := 1) (p := 148) (by decide +kernel) rfl (by decide +kernel) fo_0 (fr_a0_1) ?_
      refine fs_gfr (idx := 119) (ci := 6) (j := 2) (p := 151) (by decide +kernel) rfl (by decide +kernel) fo_1 (fr_a1_2) ?_
      refine fs_iload (k := 8) (p := 153) (by decide +kernel) rfl rfl ?_
      refine fs_iconst (n := 4) (p := 154) (by decide +kernel) rfl kc_4 ?_
      refine fs_imul (p := 155) (by decide +kernel) rfl ?_
      refine fs_iload_n (k := 2) (p := 156) (by decide +kernel) rfl rfl ?_
      refine fs_iadd (p := 157) (by decide +kernel) rfl ?_
      refine fs_iload_n (k := 3) (p := 158) (by decide +kernel) rfl rfl ?_
      obtain ⟨t4, w5, h⟩ := fx_bd h
      refine fs_iastore (p := 159) (by decide +kernel) rfl w5 ?_
      refine fs_iinc (k := 8) (n := 1) (p := 162) (M := 9) (al' := [some (.ref 0), o1, some (.int x2), some (.int x3), o4, some (.int x5), o6, some (.int x7), some (.int (x8 + (1 : Int32)))]) (by decide +kernel) rfl kc_1 mx_89 rfl rfl rfl ?_
      refine fs_goto (off := -25) (p := 137) (by decide +kernel) (by decide +kernel) ?_
      exact ih _ _ _ _ _ _ _ _ _ _ h
def fm_89_97 (k_62 : Int32 → Int32 → Int32 → Int32 → Int32 → Int32 → fx_S → Option (Int32 × fx_S)) (x2 : Int32) (x3 : Int32) (x4 : Int32) (x5 : Int32) (x7 : Int32) (s0 : Int32) (σ : fx_S) : Option (Int32 × fx_S) :=
  k_62 x2 x3 x4 x5 s0 (x7 + (1 : Int32)) σ
theorem fe_89_97 {z : iv_Z} {d : Nat} (hd : 3 ≤ d) {k_62 : Int32 → Int32 → Int32 → Int32 → Int32 → Int32 → fx_S → Option (Int32 × fx_S)} (hk_62 : ∀ (x2 : Int32) (x3 : Int32) (x4 : Int32) (x5 : Int32) (x6 : Int32) (x7 : Int32) (o1 : Option Value) (σ : fx_S) (q : Int32 × fx_S), k_62 x2 x3 x4 x5 x6 x7 σ = some q → fx_E z 89 d 62 [some (.ref 0), o1, some (.int x2), some (.int x3), some (.int x4), some (.int x5), some (.int x6), some (.int x7), none] [] σ (some (.int q.1)) q.2) (x2 : Int32) (x3 : Int32) (x4 : Int32) (x5 : Int32) (x7 : Int32) (s0 : Int32) (o1 : Option Value) (o6 : Option Value) (σ : fx_S) (q : Int32 × fx_S) (h : fm_89_97 k_62  x2 x3 x4 x5 x7 s0 σ = some q) : fx_E z 89 d 97 [some (.ref 0), o1, some (.int x2), some (.int x3), some (.int x4), some (.int x5), o6, some (.int x7), none] [.int s0] σ (some (.int q.1)) q.2 := by
  unfold fm_89_97 at h
  refine fs_istore (k := 6) (p := 99) (M := 9) (al' := [some (.ref 0), o1, some (.int x2), some (.int x3), some (.int x4), some (.int x5), some (.int s0), some (.int x7), none]) (by decide +kernel) rfl mx_89 rfl rfl ?_
  refine fs_iinc (k := 7) (n := 1) (p := 102) (M := 9) (al' := [some (.ref 0), o1, some (.int x2), some (.int x3), some (.int x4), some (.int x5), some (.int s0), some (.int (x7 + (1 : Int32))), none]) (by decide +kernel) rfl kc_1 mx_89 rfl rfl rfl ?_
  refine fs_goto (off := -40) (p := 62) (by decide +kernel) (by decide +kernel) ?_
  exact hk_62 _ _ _ _ _ _ _ _ _ h
def fm_89_62 : Nat → Int32 → Int32 → Int32 → Int32 → Int32 → Int32 → fx_S → Option (Int32 × fx_S)
  | 0, _, _, _, _, _, _, _ => none
  | n + 1, x2, x3, x4, x5, x6, x7, σ =>
    if x5 < x7 then (
      if x6 = 0 then (
        (fx_ld σ 4 ((x4 * (4 : Int32)) + x2)).bind fun v6 =>
        (fm_119 σ).bind fun q10 =>
        fm_89_137 100000 x2 x3 x5 v6 x4 q10) else (
        some ((-2 : Int32), σ))) else (
      if x6 = 0 then (
        fm_89_97 (fm_89_62 n) x2 x3 x4 x5 x7 (0 : Int32) σ) else (
        (fx_ld σ 4 ((x7 * (4 : Int32)) + x2)).bind fun v13 =>
        if ¬ v13 = x3 then (
          fm_89_97 (fm_89_62 n) x2 x3 x4 x5 x7 (0 : Int32) σ) else (
          fm_89_97 (fm_89_62 n) x2 x3 x4 x5 x7 (1 : Int32) σ)))
theorem fe_89_62 {z : iv_Z} {d : Nat} (hd : 3 ≤ d) : ∀ (n : Nat) (x2 : Int32) (x3 : Int32) (x4 : Int32) (x5 : Int32) (x6 : Int32) (x7 : Int32) (o1 : Option Value) (σ : fx_S) (q : Int32 × fx_S), fm_89_62 n x2 x3 x4 x5 x6 x7 σ = some q → fx_E z 89 d 62 [some (.ref 0), o1, some (.int x2), some (.int x3), some (.int x4), some (.int x5), some (.int x6), some (.int x7), none] [] σ (some (.int q.1)) q.2 := by
  intro n
  induction n with
  | zero =>
    intro x2 x3 x4 x5 x6 x7 o1 σ q  h
    rw [fm_89_62] at h
    exact fx_no h
  | succ n ih =>
    intro x2 x3 x4 x5 x6 x7 o1 σ q  h
    rw [fm_89_62] at h
    refine fs_iload (k := 7) (p := 64) (by decide +kernel) rfl rfl ?_
    refine fs_iload (k := 5) (p := 66) (by decide +kernel) rfl rfl ?_
    by_cases c3 : x5 < x7
    · rw [if_pos c3] at h
      refine fs_icmp_gt_t (off := 39) (t := 105) (by decide +kernel) (by decide +kernel) c3 ?_
      refine fs_iload (k := 6) (p := 107) (by decide +kernel) rfl rfl ?_
      by_cases c5 : x6 = 0
      · rw [if_pos c5] at h
        refine fs_if_eq_t (off := 6) (t := 113) (by decide +kernel) (by decide +kernel) c5 ?_
        refine fs_aload_n (k := 0) (p := 114) (by decide +kernel) rfl rfl ?_
        refine fs_gfr (idx := 13) (ci := 9) (j := 1) (p := 117) (by decide +kernel) rfl (by decide +kernel) fo_0 (fr_a0_1) ?_
        refine fs_gfr (idx := 119) (ci := 6) (j := 2) (p := 120) (by decide +kernel) rfl (by decide +kernel) fo_1 (fr_a1_2) ?_
        refine fs_iload (k := 4) (p := 122) (by decide +kernel) rfl rfl ?_
        refine fs_iconst (n := 4) (p := 123) (by decide +kernel) rfl kc_4 ?_
        refine fs_imul (p := 124) (by decide +kernel) rfl ?_
        refine fs_iload_n (k := 2) (p := 125) (by decide +kernel) rfl rfl ?_
        refine fs_iadd (p := 126) (by decide +kernel) rfl ?_
        obtain ⟨v6, w7, h⟩ := fx_bd h
        refine fs_iaload (p := 127) (by decide +kernel) rfl w7 ?_
        refine fs_istore (k := 7) (p := 129) (M := 9) (al' := [some (.ref 0), o1, some (.int x2), some (.int x3), some (.int x4), some (.int x5), some (.int x6), some (.int v6), none]) (by decide +kernel) rfl mx_89 rfl rfl ?_
        refine fs_aload_n (k := 0) (p := 130) (by decide +kernel) rfl rfl ?_
        obtain ⟨q10, w9, h⟩ := fx_bd h
        refine fs_callV (idx := 83) (mj := 119) (ci := 9) (na := 0) (mx := 1) (p := 133) (args := [.ref 0]) (rest := []) (al2 := [some (.ref 0)]) (by decide +kernel) rfl (by decide +kernel) fo_0 rfl rfl rfl rfl rfl rfl rfl (by omega) (fun d' hd' => fe_119 (by omega) w9) rfl ?_
        refine fs_iload (k := 4) (p := 135) (by decide +kernel) rfl rfl ?_
        refine fs_istore (k := 8) (p := 137) (M := 9) (al' := [some (.ref 0), o1, some (.int x2), some (.int x3), some (.int x4), some (.int x5), some (.int x6), some (.int v6), some (.int x4)]) (by decide +kernel) rfl mx_89 rfl rfl ?_
        exact fe_89_137 hd 100000 _ _ _ _ _ _ _ _ _ _ h
      · rw [if_neg c5] at h
        refine fs_if_eq_f (off := 6) (t := 113) (p := 110) (by decide +kernel) (by decide +kernel) rfl c5 ?_
        refine fs_bipush (n := -2) (p := 112) (by decide +kernel) rfl kb_m2 ?_
        have h := Option.some.inj h
        subst h
        exact fs_iret (by decide +kernel) rt_89
    · rw [if_neg c3] at h
      refine fs_icmp_gt_f (off := 39) (t := 105) (p := 69) (by decide +kernel) (by decide +kernel) rfl c3 ?_
      refine fs_iload (k := 6) (p := 71) (by decide +kernel) rfl rfl ?_
      by_cases c12 : x6 = 0
      · rw [if_pos c12] at h
        refine fs_if_eq_t (off := 25) (t := 96) (by decide +kernel) (by decide +kernel) c12 ?_
        refine fs_iconst (n := 0) (p := 97) (by decide +kernel) rfl kc_0 ?_
        exact fe_89_97 hd ih _ _ _ _ _ _ _ _ _ _ h
      · rw [if_neg c12] at h
        refine fs_if_eq_f (off := 25) (t := 96) (p := 74) (by decide +kernel) (by decide +kernel) rfl c12 ?_
        refine fs_aload_n (k := 0) (p := 75) (by decide +kernel) rfl rfl ?_
        refine fs_gfr (idx := 13) (ci := 9) (j := 1) (p := 78) (by decide +kernel) rfl (by decide +kernel) fo_0 (fr_a0_1) ?_
        refine fs_gfr (idx := 119) (ci := 6) (j := 2) (p := 81) (by decide +kernel) rfl (by decide +kernel) fo_1 (fr_a1_2) ?_
        refine fs_iload (k := 7) (p := 83) (by decide +kernel) rfl rfl ?_
        refine fs_iconst (n := 4) (p := 84) (by decide +kernel) rfl kc_4 ?_
        refine fs_imul (p := 85) (by decide +kernel) rfl ?_
        refine fs_iload_n (k := 2) (p := 86) (by decide +kernel) rfl rfl ?_
        refine fs_iadd (p := 87) (by decide +kernel) rfl ?_
        obtain ⟨v13, w14, h⟩ := fx_bd h
        refine fs_iaload (p := 88) (by decide +kernel) rfl w14 ?_
        refine fs_iload_n (k := 3) (p := 89) (by decide +kernel) rfl rfl ?_
        by_cases c18 : ¬ v13 = x3
        · rw [if_pos c18] at h
          refine fs_icmp_ne_t (off := 7) (t := 96) (by decide +kernel) (by decide +kernel) c18 ?_
          refine fs_iconst (n := 0) (p := 97) (by decide +kernel) rfl kc_0 ?_
          exact fe_89_97 hd ih _ _ _ _ _ _ _ _ _ _ h
        · rw [if_neg c18] at h
          refine fs_icmp_ne_f (off := 7) (t := 96) (p := 92) (by decide +kernel) (by decide +kernel) rfl c18 ?_
          refine fs_iconst (n := 1) (p := 93) (by decide +kernel) rfl kc_1 ?_
          refine fs_goto (off := 4) (p := 97) (by decide +kernel) (by decide +kernel) ?_
          exact fe_89_97 hd ih _ _ _ _ _ _ _ _ _ _ h
def fm_89_53 (x2 : Int32) (x3 : Int32) (x4 : Int32) (s0 : Int32) (σ : fx_S) : Option (Int32 × fx_S) :=
  fm_89_62 100000 x2 x3 x4 s0 (1 : Int32) x4 σ
theorem fe_89_53 {z : iv_Z} {d : Nat} (hd : 3 ≤ d) (x2 : Int32) (x3 : Int32) (x4 : Int32) (s0 : Int32) (o1 : Option Value) (σ : fx_S) (q : Int32 × fx_S) (h : fm_89_53  x2 x3 x4 s0 σ = some q) : fx_E z 89 d 53 [some (.ref 0), o1, some (.int x2), some (.int x3), some (.int x4), none, none, none, none] [.int s0] σ (some (.int q.1)) q.2 := by
  unfold fm_89_53 at h
  refine fs_istore (k := 5) (p := 55) (M := 9) (al' := [some (.ref 0), o1, some (.int x2), some (.int x3), some (.int x4), some (.int s0), none, none, none]) (by decide +kernel) rfl mx_89 rfl rfl ?_
  refine fs_iconst (n := 1) (p := 56) (by decide +kernel) rfl kc_1 ?_
  refine fs_istore (k := 6) (p := 58) (M := 9) (al' := [some (.ref 0), o1, some (.int x2), some (.int x3), some (.int x4), some (.int s0), some (.int (1 : Int32)), none, none]) (by decide +kernel) rfl mx_89 rfl rfl ?_
  refine fs_iload (k := 4) (p := 60) (by decide +kernel) rfl rfl ?_
  refine fs_istore (k := 7) (p := 62) (M := 9) (al' := [some (.ref 0), o1, some (.int x2), some (.int x3), some (.int x4), some (.int s0), some (.int (1 : Int32)), some (.int x4), none]) (by decide +kernel) rfl mx_89 rfl rfl ?_
  exact fe_89_62 hd 100000 _ _ _ _ _ _ _ _ _ h
def fm_89_41 (x1 : Int32) (x2 : Int32) (x3 : Int32) (s0 : Int32) (σ : fx_S) : Option (Int32 × fx_S) :=
  if ¬ x1 = (-1 : Int32) then (
    fm_89_53 x2 x3 s0 x1 σ) else (
    fm_89_53 x2 x3 s0 (2 : Int32) σ)
theorem fe_89_41 {z : iv_Z} {d : Nat} (hd : 3 ≤ d) (x1 : Int32) (x2 : Int32) (x3 : Int32) (s0 : Int32) (σ : fx_S) (q : Int32 × fx_S) (h : fm_89_41  x1 x2 x3 s0 σ = some q) : fx_E z 89 d 41 [some (.ref 0), some (.int x1), some (.int x2), some (.int x3), none, none, none, none, none] [.int s0] σ (some (.int q.1)) q.2 := by
  unfold fm_89_41 at h
  refine fs_istore (k := 4) (p := 43) (M := 9) (al' := [some (.ref 0), some (.int x1), some (.int x2), some (.int x3), some (.int s0), none, none, none, none]) (by decide +kernel) rfl mx_89 rfl rfl ?_
  refine fs_iload_n (k := 1) (p := 44) (by decide +kernel) rfl rfl ?_
  refine fs_iconst (n := -1) (p := 45) (by decide +kernel) rfl kc_m1 ?_
  by_cases c2 : ¬ x1 = (-1 : Int32)
  · rw [if_pos c2] at h
    refine fs_icmp_ne_t (off := 7) (t := 52) (by decide +kernel) (by decide +kernel) c2 ?_
    refine fs_iload_n (k := 1) (p := 53) (by decide +kernel) rfl rfl ?_
    exact fe_89_53 hd _ _ _ _ _ _ _ h
  · rw [if_neg c2] at h
    refine fs_icmp_ne_f (off := 7) (t := 52) (p := 48) (by decide +kernel) (by decide +kernel) rfl c2 ?_
    refine fs_iconst (n := 2) (p := 49) (by decide +kernel) rfl kc_2 ?_
    refine fs_goto (off := 4) (p := 53) (by decide +kernel) (by decide +kernel) ?_
    exact fe_89_53 hd _ _ _ _ _ _ _ h
def fm_89_12 (x1 : Int32) (x2 : Int32) (x3 : Int32) (σ : fx_S) : Option (Int32 × fx_S) :=
  (fm_116 x2 σ).bind fun q2 =>
  if (fx_b q2.1) = 0 then (
    some ((-1 : Int32), q2.2)) else (
    if x3 < 0 then (
      some ((-1 : Int32), q2.2)) else (
      if x3 ≤ (9 : Int32) then (
        if ¬ x1 = (-1 : Int32) then (
          fm_89_41 x1 x2 x3 x1 q2.2) else (
          fm_89_41 x1 x2 x3 (0 : Int32) q2.2)) else (
        some ((-1 : Int32), q2.2))))
theorem fe_89_12 {z : iv_Z} {d : Nat} (hd : 3 ≤ d) (x1 : Int32) (x2 : Int32) (x3 : Int32) (σ : fx_S) (q : Int32 × fx_S) (h : fm_89_12  x1 x2 x3 σ = some q) : fx_E z 89 d 12 [some (.ref 0), some (.int x1), some (.int x2), some (.int x3), none, none, none, none, none] [] σ (some (.int q.1)) q.2 := by
  unfold fm_89_12 at h
  refine fs_iload_n (k := 2) (p := 13) (by decide +kernel) rfl rfl ?_
  obtain ⟨q2, w1, h⟩ := fx_bd h
  refine fs_callS (idx := 116) (mj := 116) (na := 1) (mx := 1) (p := 16) (args := [.int x2]) (rest := []) (al2 := [some (.int x2)]) (by decide +kernel) rfl (by decide +kernel) rfl rfl rfl rfl rfl rfl rfl (by omega) (fun d' hd' => fe_116 (by omega) w1) rfl ?_
  by_cases c3 : (fx_b q2.1) = 0
  · rw [if_pos c3] at h
    refine fs_if_eq_t (off := 13) (t := 29) (by decide +kernel) (by decide +kernel) c3 ?_
    refine fs_iconst (n := -1) (p := 30) (by decide +kernel) rfl kc_m1 ?_
    have h := Option.some.inj h
    subst h
    exact fs_iret (by decide +kernel) rt_89
  · rw [if_neg c3] at h
    refine fs_if_eq_f (off := 13) (t := 29) (p := 19) (by decide +kernel) (by decide +kernel) rfl c3 ?_
    refine fs_iload_n (k := 3) (p := 20) (by decide +kernel) rfl rfl ?_
    by_cases c5 : x3 < 0
    · rw [if_pos c5] at h
      refine fs_if_lt_t (off := 9) (t := 29) (by decide +kernel) (by decide +kernel) c5 ?_
      refine fs_iconst (n := -1) (p := 30) (by decide +kernel) rfl kc_m1 ?_
      have h := Option.some.inj h
      subst h
      exact fs_iret (by decide +kernel) rt_89
    · rw [if_neg c5] at h
      refine fs_if_lt_f (off := 9) (t := 29) (p := 23) (by decide +kernel) (by decide +kernel) rfl c5 ?_
      refine fs_iload_n (k := 3) (p := 24) (by decide +kernel) rfl rfl ?_
      refine fs_bipush (n := 9) (p := 26) (by decide +kernel) rfl kb_9 ?_
      by_cases c6 : x3 ≤ (9 : Int32)
      · rw [if_pos c6] at h
        refine fs_icmp_le_t (off := 5) (t := 31) (by decide +kernel) (by decide +kernel) c6 ?_
        refine fs_iload_n (k := 1) (p := 32) (by decide +kernel) rfl rfl ?_
        refine fs_iconst (n := -1) (p := 33) (by decide +kernel) rfl kc_m1 ?_
        by_cases c8 : ¬ x1 = (-1 : Int32)
        · rw [if_pos c8] at h
          refine fs_icmp_ne_t (off := 7) (t := 40) (by decide +kernel) (by decide +kernel) c8 ?_
          refine fs_iload_n (k := 1) (p := 41) (by decide +kernel) rfl rfl ?_
          exact fe_89_41 hd _ _ _ _ _ _ h
        · rw [if_neg c8] at h
          refine fs_icmp_ne_f (off := 7) (t := 40) (p := 36) (by decide +kernel) (by decide +kernel) rfl c8 ?_
          refine fs_iconst (n := 0) (p := 37) (by decide +kernel) rfl kc_0 ?_
          refine fs_goto (off := 4) (p := 41) (by decide +kernel) (by decide +kernel) ?_
          exact fe_89_41 hd _ _ _ _ _ _ h
      · rw [if_neg c6] at h
        refine fs_icmp_le_f (off := 5) (t := 31) (p := 29) (by decide +kernel) (by decide +kernel) rfl c6 ?_
        refine fs_iconst (n := -1) (p := 30) (by decide +kernel) rfl kc_m1 ?_
        have h := Option.some.inj h
        subst h
        exact fs_iret (by decide +kernel) rt_89
def fm_89 (x1 : Int32) (x2 : Int32) (x3 : Int32) (σ : fx_S) : Option (Int32 × fx_S) :=
  if x1 = (-1 : Int32) then (
    fm_89_12 x1 x2 x3 σ) else (
    (fm_114 x1 σ).bind fun q43 =>
    if (fx_b q43.1) = 0 then (
      some ((-1 : Int32), q43.2)) else (
      fm_89_12 x1 x2 x3 q43.2))
theorem fe_89 {z : iv_Z} {d : Nat} (hd : 3 ≤ d) {x1 : Int32} {x2 : Int32} {x3 : Int32} {σ : fx_S} {q : Int32 × fx_S} (h : fm_89 x1 x2 x3 σ = some q) : fx_E z 89 d 0 [some (.ref 0), some (.int x1), some (.int x2), some (.int x3), none, none, none, none, none] [] σ (some (.int q.1)) q.2 := by
  unfold fm_89 at h
  refine fs_iload_n (k := 1) (p := 1) (by decide +kernel) rfl rfl ?_
  refine fs_iconst (n := -1) (p := 2) (by decide +kernel) rfl kc_m1 ?_
  by_cases c41 : x1 = (-1 : Int32)
  · rw [if_pos c41] at h
    refine fs_icmp_eq_t (off := 10) (t := 12) (by decide +kernel) (by decide +kernel) c41 ?_
    exact fe_89_12 hd _ _ _ _ _ h
  · rw [if_neg c41] at h
    refine fs_icmp_eq_f (off := 10) (t := 12) (p := 5) (by decide +kernel) (by decide +kernel) rfl c41 ?_
    refine fs_iload_n (k := 1) (p := 6) (by decide +kernel) rfl rfl ?_
    obtain ⟨q43, w42, h⟩ := fx_bd h
    refine fs_callS (idx := 94) (mj := 114) (na := 1) (mx := 1) (p := 9) (args := [.int x1]) (rest := []) (al2 := [some (.int x1)]) (by decide +kernel) rfl (by decide +kernel) rfl rfl rfl rfl rfl rfl rfl (by omega) (fun d' hd' => fe_114 (by omega) w42) rfl ?_
    by_cases c44 : (fx_b q43.1) = 0
    · rw [if_pos c44] at h
      refine fs_if_eq_t (off := 20) (t := 29) (by decide +kernel) (by decide +kernel) c44 ?_
      refine fs_iconst (n := -1) (p := 30) (by decide +kernel) rfl kc_m1 ?_
      have h := Option.some.inj h
      subst h
      exact fs_iret (by decide +kernel) rt_89
    · rw [if_neg c44] at h
      refine fs_if_eq_f (off := 20) (t := 29) (p := 12) (by decide +kernel) (by decide +kernel) rfl c44 ?_
      exact fe_89_12 hd _ _ _ _ _ h

/-! ZoneShares.settle(II)I -/
theorem mx_90 : iv_mx 90 = 4 := by decide +kernel
theorem rt_90 : iv_rt 90 = some .int := by decide +kernel
def fm_90_77 (x3 : Int32) (σ : fx_S) : Option (Int32 × fx_S) :=
  some (x3, σ)
theorem fe_90_77 {z : iv_Z} {d : Nat} (hd : 3 ≤ d) (x3 : Int32) (o0 : Option Value) (o1 : Option Value) (o2 : Option Value) (σ : fx_S) (q : Int32 × fx_S) (h : fm_90_77  x3 σ = some q) : fx_E z 90 d 77 [o0, o1, o2, some (.int x3)] [] σ (some (.int q.1)) q.2 := by
  unfold fm_90_77 at h
  refine fs_iload_n (k := 3) (p := 78) (by decide +kernel) rfl rfl ?_
  have h := Option.some.inj h
  subst h
  exact fs_iret (by decide +kernel) rt_90
def fm_90_41 (x1 : Int32) (x2 : Int32) (s0 : Int32) (σ : fx_S) : Option (Int32 × fx_S) :=
  if ¬ s0 = x2 then (
    (fm_119 σ).bind fun q5 =>
    if ¬ x1 = 0 then (
      fm_90_77 s0 (fx_w1 q5 1 8 x2)) else (
      fm_90_77 s0 (fx_w1 q5 1 7 x2))) else (
    some ((-2 : Int32), σ))
theorem fe_90_41 {z : iv_Z} {d : Nat} (hd : 3 ≤ d) (x1 : Int32) (x2 : Int32) (s0 : Int32) (σ : fx_S) (q : Int32 × fx_S) (h : fm_90_41  x1 x2 s0 σ = some q) : fx_E z 90 d 41 [some (.ref 0), some (.int x1), some (.int x2), none] [.int s0] σ (some (.int q.1)) q.2 := by
  unfold fm_90_41 at h
  refine fs_istore_n (k := 3) (p := 42) (M := 4) (al' := [some (.ref 0), some (.int x1), some (.int x2), some (.int s0)]) (by decide +kernel) rfl mx_90 rfl rfl ?_
  refine fs_iload_n (k := 3) (p := 43) (by decide +kernel) rfl rfl ?_
  refine fs_iload_n (k := 2) (p := 44) (by decide +kernel) rfl rfl ?_
  by_cases c3 : ¬ s0 = x2
  · rw [if_pos c3] at h
    refine fs_icmp_ne_t (off := 6) (t := 50) (by decide +kernel) (by decide +kernel) c3 ?_
    refine fs_aload_n (k := 0) (p := 51) (by decide +kernel) rfl rfl ?_
    obtain ⟨q5, w4, h⟩ := fx_bd h
    refine fs_callV (idx := 83) (mj := 119) (ci := 9) (na := 0) (mx := 1) (p := 54) (args := [.ref 0]) (rest := []) (al2 := [some (.ref 0)]) (by decide +kernel) rfl (by decide +kernel) fo_0 rfl rfl rfl rfl rfl rfl rfl (by omega) (fun d' hd' => fe_119 (by omega) w4) rfl ?_
    refine fs_iload_n (k := 1) (p := 55) (by decide +kernel) rfl rfl ?_
    by_cases c7 : ¬ x1 = 0
    · rw [if_pos c7] at h
      refine fs_if_ne_t (off := 14) (t := 69) (by decide +kernel) (by decide +kernel) c7 ?_
      refine fs_aload_n (k := 0) (p := 70) (by decide +kernel) rfl rfl ?_
      refine fs_gfr (idx := 13) (ci := 9) (j := 1) (p := 73) (by decide +kernel) rfl (by decide +kernel) fo_0 (fr_a0_1) ?_
      refine fs_iload_n (k := 2) (p := 74) (by decide +kernel) rfl rfl ?_
      refine fs_pfi (idx := 125) (ci := 6) (j := 8) (p := 77) (by decide +kernel) rfl (by decide +kernel) (by decide +kernel) fo_1 (fx_oki _ (by decide +kernel)) ?_
      exact fe_90_77 hd _ _ _ _ _ _ h
    · rw [if_neg c7] at h
      refine fs_if_ne_f (off := 14) (t := 69) (p := 58) (by decide +kernel) (by decide +kernel) rfl c7 ?_
      refine fs_aload_n (k := 0) (p := 59) (by decide +kernel) rfl rfl ?_
      refine fs_gfr (idx := 13) (ci := 9) (j := 1) (p := 62) (by decide +kernel) rfl (by decide +kernel) fo_0 (fr_a0_1) ?_
      refine fs_iload_n (k := 2) (p := 63) (by decide +kernel) rfl rfl ?_
      refine fs_pfi (idx := 122) (ci := 6) (j := 7) (p := 66) (by decide +kernel) rfl (by decide +kernel) (by decide +kernel) fo_1 (fx_oki _ (by decide +kernel)) ?_
      refine fs_goto (off := 11) (p := 77) (by decide +kernel) (by decide +kernel) ?_
      exact fe_90_77 hd _ _ _ _ _ _ h
  · rw [if_neg c3] at h
    refine fs_icmp_ne_f (off := 6) (t := 50) (p := 47) (by decide +kernel) (by decide +kernel) rfl c3 ?_
    refine fs_bipush (n := -2) (p := 49) (by decide +kernel) rfl kb_m2 ?_
    have h := Option.some.inj h
    subst h
    exact fs_iret (by decide +kernel) rt_90
def fm_90 (x1 : Int32) (x2 : Int32) (σ : fx_S) : Option (Int32 × fx_S) :=
  if x1 < 0 then (
    some ((-1 : Int32), σ)) else (
    if (1 : Int32) < x1 then (
      some ((-1 : Int32), σ)) else (
      if x2 < 0 then (
        some ((-1 : Int32), σ)) else (
        if x2 ≤ (1 : Int32) then (
          if ¬ x1 = 0 then (
            fm_90_41 x1 x2 (σ.1 1 8) σ) else (
            fm_90_41 x1 x2 (σ.1 1 7) σ)) else (
          some ((-1 : Int32), σ)))))
theorem fe_90 {z : iv_Z} {d : Nat} (hd : 3 ≤ d) {x1 : Int32} {x2 : Int32} {σ : fx_S} {q : Int32 × fx_S} (h : fm_90 x1 x2 σ = some q) : fx_E z 90 d 0 [some (.ref 0), some (.int x1), some (.int x2), none] [] σ (some (.int q.1)) q.2 := by
  unfold fm_90 at h
  refine fs_iload_n (k := 1) (p := 1) (by decide +kernel) rfl rfl ?_
  by_cases c16 : x1 < 0
  · rw [if_pos c16] at h
    refine fs_if_lt_t (off := 17) (t := 18) (by decide +kernel) (by decide +kernel) c16 ?_
    refine fs_iconst (n := -1) (p := 19) (by decide +kernel) rfl kc_m1 ?_
    have h := Option.some.inj h
    subst h
    exact fs_iret (by decide +kernel) rt_90
  · rw [if_neg c16] at h
    refine fs_if_lt_f (off := 17) (t := 18) (p := 4) (by decide +kernel) (by decide +kernel) rfl c16 ?_
    refine fs_iload_n (k := 1) (p := 5) (by decide +kernel) rfl rfl ?_
    refine fs_iconst (n := 1) (p := 6) (by decide +kernel) rfl kc_1 ?_
    by_cases c17 : (1 : Int32) < x1
    · rw [if_pos c17] at h
      refine fs_icmp_gt_t (off := 12) (t := 18) (by decide +kernel) (by decide +kernel) c17 ?_
      refine fs_iconst (n := -1) (p := 19) (by decide +kernel) rfl kc_m1 ?_
      have h := Option.some.inj h
      subst h
      exact fs_iret (by decide +kernel) rt_90
    · rw [if_neg c17] at h
      refine fs_icmp_gt_f (off := 12) (t := 18) (p := 9) (by decide +kernel) (by decide +kernel) rfl c17 ?_
      refine fs_iload_n (k := 2) (p := 10) (by decide +kernel) rfl rfl ?_
      by_cases c19 : x2 < 0
      · rw [if_pos c19] at h
        refine fs_if_lt_t (off := 8) (t := 18) (by decide +kernel) (by decide +kernel) c19 ?_
        refine fs_iconst (n := -1) (p := 19) (by decide +kernel) rfl kc_m1 ?_
        have h := Option.some.inj h
        subst h
        exact fs_iret (by decide +kernel) rt_90
      · rw [if_neg c19] at h
        refine fs_if_lt_f (off := 8) (t := 18) (p := 13) (by decide +kernel) (by decide +kernel) rfl c19 ?_
        refine fs_iload_n (k := 2) (p := 14) (by decide +kernel) rfl rfl ?_
        refine fs_iconst (n := 1) (p := 15) (by decide +kernel) rfl kc_1 ?_
        by_cases c20 : x2 ≤ (1 : Int32)
        · rw [if_pos c20] at h
          refine fs_icmp_le_t (off := 5) (t := 20) (by decide +kernel) (by decide +kernel) c20 ?_
          refine fs_iload_n (k := 1) (p := 21) (by decide +kernel) rfl rfl ?_
          by_cases c21 : ¬ x1 = 0
          · rw [if_pos c21] at h
            refine fs_if_ne_t (off := 13) (t := 34) (by decide +kernel) (by decide +kernel) c21 ?_
            refine fs_aload_n (k := 0) (p := 35) (by decide +kernel) rfl rfl ?_
            refine fs_gfr (idx := 13) (ci := 9) (j := 1) (p := 38) (by decide +kernel) rfl (by decide +kernel) fo_0 (fr_a0_1) ?_
            refine fs_gfi (idx := 125) (ci := 6) (j := 8) (p := 41) (by decide +kernel) rfl (by decide +kernel) fo_1 ?_
            exact fe_90_41 hd _ _ _ _ _ h
          · rw [if_neg c21] at h
            refine fs_if_ne_f (off := 13) (t := 34) (p := 24) (by decide +kernel) (by decide +kernel) rfl c21 ?_
            refine fs_aload_n (k := 0) (p := 25) (by decide +kernel) rfl rfl ?_
            refine fs_gfr (idx := 13) (ci := 9) (j := 1) (p := 28) (by decide +kernel) rfl (by decide +kernel) fo_0 (fr_a0_1) ?_
            refine fs_gfi (idx := 122) (ci := 6) (j := 7) (p := 31) (by decide +kernel) rfl (by decide +kernel) fo_1 ?_
            refine fs_goto (off := 10) (p := 41) (by decide +kernel) (by decide +kernel) ?_
            exact fe_90_41 hd _ _ _ _ _ h
        · rw [if_neg c20] at h
          refine fs_icmp_le_f (off := 5) (t := 20) (p := 18) (by decide +kernel) (by decide +kernel) rfl c20 ?_
          refine fs_iconst (n := -1) (p := 19) (by decide +kernel) rfl kc_m1 ?_
          have h := Option.some.inj h
          subst h
          exact fs_iret (by decide +kernel) rt_90

/-! ZoneShares.district(II)I -/
theorem mx_91 : iv_mx 91 = 4 := by decide +kernel
theorem rt_91 : iv_rt 91 = some .int := by decide +kernel
def fm_91 (x1 : Int32) (x2 : Int32) (σ : fx_S) : Option (Int32 × fx_S) :=
  (fm_115 x1 σ).bind fun q18 =>
  if (fx_b q18.1) = 0 then (
    some ((-1 : Int32), q18.2)) else (
    (fm_117 x2 q18.2).bind fun q21 =>
    if ¬ (fx_b q21.1) = 0 then (
      (fx_ld q21.2 5 x1).bind fun v23 =>
      if ¬ v23 = x2 then (
        (fm_119 q21.2).bind fun q30 =>
        (fx_st q30 5 x1 x2).bind fun t31 =>
        some (v23, t31)) else (
        some ((-2 : Int32), q21.2))) else (
      some ((-1 : Int32), q21.2)))
theorem fe_91 {z : iv_Z} {d : Nat} (hd : 3 ≤ d) {x1 : Int32} {x2 : Int32} {σ : fx_S} {q : Int32 × fx_S} (h : fm_91 x1 x2 σ = some q) : fx_E z 91 d 0 [some (.ref 0), some (.int x1), some (.int x2), none] [] σ (some (.int q.1)) q.2 := by
  unfold fm_91 at h
  refine fs_iload_n (k := 1) (p := 1) (by decide +kernel) rfl rfl ?_
  obtain ⟨q18, w17, h⟩ := fx_bd h
  refine fs_callS (idx := 128) (mj := 115) (na := 1) (mx := 1) (p := 4) (args := [.int x1]) (rest := []) (al2 := [some (.int x1)]) (by decide +kernel) rfl (by decide +kernel) rfl rfl rfl rfl rfl rfl rfl (by omega) (fun d' hd' => fe_115 (by omega) w17) rfl ?_
  by_cases c19 : (fx_b q18.1) = 0
  · rw [if_pos c19] at h
    refine fs_if_eq_t (off := 10) (t := 14) (by decide +kernel) (by decide +kernel) c19 ?_
    refine fs_iconst (n := -1) (p := 15) (by decide +kernel) rfl kc_m1 ?_
    have h := Option.some.inj h
    subst h
    exact fs_iret (by decide +kernel) rt_91
  · rw [if_neg c19] at h
    refine fs_if_eq_f (off := 10) (t := 14) (p := 7) (by decide +kernel) (by decide +kernel) rfl c19 ?_
    refine fs_iload_n (k := 2) (p := 8) (by decide +kernel) rfl rfl ?_
    obtain ⟨q21, w20, h⟩ := fx_bd h
    refine fs_callS (idx := 131) (mj := 117) (na := 1) (mx := 1) (p := 11) (args := [.int x2]) (rest := []) (al2 := [some (.int x2)]) (by decide +kernel) rfl (by decide +kernel) rfl rfl rfl rfl rfl rfl rfl (by omega) (fun d' hd' => fe_117 (by omega) w20) rfl ?_
    by_cases c22 : ¬ (fx_b q21.1) = 0
    · rw [if_pos c22] at h
      refine fs_if_ne_t (off := 5) (t := 16) (by decide +kernel) (by decide +kernel) c22 ?_
      refine fs_aload_n (k := 0) (p := 17) (by decide +kernel) rfl rfl ?_
      refine fs_gfr (idx := 13) (ci := 9) (j := 1) (p := 20) (by decide +kernel) rfl (by decide +kernel) fo_0 (fr_a0_1) ?_
      refine fs_gfr (idx := 134) (ci := 6) (j := 3) (p := 23) (by decide +kernel) rfl (by decide +kernel) fo_1 (fr_a1_3) ?_
      refine fs_iload_n (k := 1) (p := 24) (by decide +kernel) rfl rfl ?_
      obtain ⟨v23, w24, h⟩ := fx_bd h
      refine fs_iaload (p := 25) (by decide +kernel) rfl w24 ?_
      refine fs_istore_n (k := 3) (p := 26) (M := 4) (al' := [some (.ref 0), some (.int x1), some (.int x2), some (.int v23)]) (by decide +kernel) rfl mx_91 rfl rfl ?_
      refine fs_iload_n (k := 3) (p := 27) (by decide +kernel) rfl rfl ?_
      refine fs_iload_n (k := 2) (p := 28) (by decide +kernel) rfl rfl ?_
      by_cases c28 : ¬ v23 = x2
      · rw [if_pos c28] at h
        refine fs_icmp_ne_t (off := 6) (t := 34) (by decide +kernel) (by decide +kernel) c28 ?_
        refine fs_aload_n (k := 0) (p := 35) (by decide +kernel) rfl rfl ?_
        obtain ⟨q30, w29, h⟩ := fx_bd h
        refine fs_callV (idx := 83) (mj := 119) (ci := 9) (na := 0) (mx := 1) (p := 38) (args := [.ref 0]) (rest := []) (al2 := [some (.ref 0)]) (by decide +kernel) rfl (by decide +kernel) fo_0 rfl rfl rfl rfl rfl rfl rfl (by omega) (fun d' hd' => fe_119 (by omega) w29) rfl ?_
        refine fs_aload_n (k := 0) (p := 39) (by decide +kernel) rfl rfl ?_
        refine fs_gfr (idx := 13) (ci := 9) (j := 1) (p := 42) (by decide +kernel) rfl (by decide +kernel) fo_0 (fr_a0_1) ?_
        refine fs_gfr (idx := 134) (ci := 6) (j := 3) (p := 45) (by decide +kernel) rfl (by decide +kernel) fo_1 (fr_a1_3) ?_
        refine fs_iload_n (k := 1) (p := 46) (by decide +kernel) rfl rfl ?_
        refine fs_iload_n (k := 2) (p := 47) (by decide +kernel) rfl rfl ?_
        obtain ⟨t31, w32, h⟩ := fx_bd h
        refine fs_iastore (p := 48) (by decide +kernel) rfl w32 ?_
        refine fs_iload_n (k := 3) (p := 49) (by decide +kernel) rfl rfl ?_
        have h := Option.some.inj h
        subst h
        exact fs_iret (by decide +kernel) rt_91
      · rw [if_neg c28] at h
        refine fs_icmp_ne_f (off := 6) (t := 34) (p := 31) (by decide +kernel) (by decide +kernel) rfl c28 ?_
        refine fs_bipush (n := -2) (p := 33) (by decide +kernel) rfl kb_m2 ?_
        have h := Option.some.inj h
        subst h
        exact fs_iret (by decide +kernel) rt_91
    · rw [if_neg c22] at h
      refine fs_if_ne_f (off := 5) (t := 16) (p := 14) (by decide +kernel) (by decide +kernel) rfl c22 ?_
      refine fs_iconst (n := -1) (p := 15) (by decide +kernel) rfl kc_m1 ?_
      have h := Option.some.inj h
      subst h
      exact fs_iret (by decide +kernel) rt_91

/-! ZoneShares.apart(I)I -/
theorem mx_110 : iv_mx 110 = 4 := by decide +kernel
theorem rt_110 : iv_rt 110 = some .int := by decide +kernel
def fm_110_67 (k_49 : Int32 → Int32 → Int32 → fx_S → Option (Int32 × fx_S)) (x1 : Int32) (x2 : Int32) (x3 : Int32) (σ : fx_S) : Option (Int32 × fx_S) :=
  k_49 x1 x2 (x3 + (1 : Int32)) σ
theorem fe_110_67 {z : iv_Z} {d : Nat} (hd : 3 ≤ d) {k_49 : Int32 → Int32 → Int32 → fx_S → Option (Int32 × fx_S)} (hk_49 : ∀ (x1 : Int32) (x2 : Int32) (x3 : Int32) (σ : fx_S) (q : Int32 × fx_S), k_49 x1 x2 x3 σ = some q → fx_E z 110 d 49 [some (.ref 0), some (.int x1), some (.int x2), some (.int x3)] [] σ (some (.int q.1)) q.2) (x1 : Int32) (x2 : Int32) (x3 : Int32) (σ : fx_S) (q : Int32 × fx_S) (h : fm_110_67 k_49  x1 x2 x3 σ = some q) : fx_E z 110 d 67 [some (.ref 0), some (.int x1), some (.int x2), some (.int x3)] [] σ (some (.int q.1)) q.2 := by
  unfold fm_110_67 at h
  refine fs_iinc (k := 3) (n := 1) (p := 70) (M := 4) (al' := [some (.ref 0), some (.int x1), some (.int x2), some (.int (x3 + (1 : Int32)))]) (by decide +kernel) rfl kc_1 mx_110 rfl rfl rfl ?_
  refine fs_goto (off := -21) (p := 49) (by decide +kernel) (by decide +kernel) ?_
  exact hk_49 _ _ _ _ _ h
def fm_110_49 : Nat → Int32 → Int32 → Int32 → fx_S → Option (Int32 × fx_S)
  | 0, _, _, _, _ => none
  | n + 1, x1, x2, x3, σ =>
    if (8 : Int32) ≤ x3 then (
      some (x2, σ)) else (
      (fm_125 x3 x1 σ).bind fun q4 =>
      if (fx_b q4.1) = 0 then (
        fm_110_67 (fm_110_49 n) x1 x2 x3 q4.2) else (
        fm_110_67 (fm_110_49 n) x1 (x2 + (1 : Int32)) x3 q4.2))
theorem fe_110_49 {z : iv_Z} {d : Nat} (hd : 3 ≤ d) : ∀ (n : Nat) (x1 : Int32) (x2 : Int32) (x3 : Int32) (σ : fx_S) (q : Int32 × fx_S), fm_110_49 n x1 x2 x3 σ = some q → fx_E z 110 d 49 [some (.ref 0), some (.int x1), some (.int x2), some (.int x3)] [] σ (some (.int q.1)) q.2 := by
  intro n
  induction n with
  | zero =>
    intro x1 x2 x3 σ q  h
    rw [fm_110_49] at h
    exact fx_no h
  | succ n ih =>
    intro x1 x2 x3 σ q  h
    rw [fm_110_49] at h
    refine fs_iload_n (k := 3) (p := 50) (by decide +kernel) rfl rfl ?_
    refine fs_bipush (n := 8) (p := 52) (by decide +kernel) rfl kb_8 ?_
    by_cases c2 : (8 : Int32) ≤ x3
    · rw [if_pos c2] at h
      refine fs_icmp_ge_t (off := 21) (t := 73) (by decide +kernel) (by decide +kernel) c2 ?_
      refine fs_iload_n (k := 2) (p := 74) (by decide +kernel) rfl rfl ?_
      have h := Option.some.inj h
      subst h
      exact fs_iret (by decide +kernel) rt_110
    · rw [if_neg c2] at h
      refine fs_icmp_ge_f (off := 21) (t := 73) (p := 55) (by decide +kernel) (by decide +kernel) rfl c2 ?_
      refine fs_aload_n (k := 0) (p := 56) (by decide +kernel) rfl rfl ?_
      refine fs_iload_n (k := 3) (p := 57) (by decide +kernel) rfl rfl ?_
      refine fs_iload_n (k := 1) (p := 58) (by decide +kernel) rfl rfl ?_
      obtain ⟨q4, w3, h⟩ := fx_bd h
      refine fs_callV (idx := 294) (mj := 125) (ci := 9) (na := 2) (mx := 5) (p := 61) (args := [.ref 0, .int x3, .int x1]) (rest := []) (al2 := [some (.ref 0), some (.int x3), some (.int x1), none, none]) (by decide +kernel) rfl (by decide +kernel) fo_0 rfl rfl rfl rfl rfl rfl rfl (by omega) (fun d' hd' => fe_125 (by omega) w3) rfl ?_
      by_cases c5 : (fx_b q4.1) = 0
      · rw [if_pos c5] at h
        refine fs_if_eq_t (off := 6) (t := 67) (by decide +kernel) (by decide +kernel) c5 ?_
        exact fe_110_67 hd ih _ _ _ _ _ h
      · rw [if_neg c5] at h
        refine fs_if_eq_f (off := 6) (t := 67) (p := 64) (by decide +kernel) (by decide +kernel) rfl c5 ?_
        refine fs_iinc (k := 2) (n := 1) (p := 67) (M := 4) (al' := [some (.ref 0), some (.int x1), some (.int (x2 + (1 : Int32))), some (.int x3)]) (by decide +kernel) rfl kc_1 mx_110 rfl rfl rfl ?_
        exact fe_110_67 hd ih _ _ _ _ _ h
def fm_110 (x1 : Int32) (σ : fx_S) : Option (Int32 × fx_S) :=
  if x1 < 0 then (
    some ((-1 : Int32), σ)) else (
    if (3 : Int32) < x1 then (
      some ((-1 : Int32), σ)) else (
      (fm_56 1 (0 : Int32) σ).bind fun q22 =>
      if (fx_b q22.1) = 0 then (
        some ((-1 : Int32), q22.2)) else (
        (fm_56 1 (1 : Int32) q22.2).bind fun q25 =>
        if ¬ (fx_b q25.1) = 0 then (
          if ¬ x1 = 0 then (
            fm_110_49 100000 x1 (0 : Int32) (0 : Int32) q25.2) else (
            (fm_64 1 q25.2).bind fun q29 =>
            some (q29.1, q29.2))) else (
          some ((-1 : Int32), q25.2)))))
theorem fe_110 {z : iv_Z} {d : Nat} (hd : 3 ≤ d) {x1 : Int32} {σ : fx_S} {q : Int32 × fx_S} (h : fm_110 x1 σ = some q) : fx_E z 110 d 0 [some (.ref 0), some (.int x1), none, none] [] σ (some (.int q.1)) q.2 := by
  unfold fm_110 at h
  refine fs_iload_n (k := 1) (p := 1) (by decide +kernel) rfl rfl ?_
  by_cases c19 : x1 < 0
  · rw [if_pos c19] at h
    refine fs_if_lt_t (off := 30) (t := 31) (by decide +kernel) (by decide +kernel) c19 ?_
    refine fs_iconst (n := -1) (p := 32) (by decide +kernel) rfl kc_m1 ?_
    have h := Option.some.inj h
    subst h
    exact fs_iret (by decide +kernel) rt_110
  · rw [if_neg c19] at h
    refine fs_if_lt_f (off := 30) (t := 31) (p := 4) (by decide +kernel) (by decide +kernel) rfl c19 ?_
    refine fs_iload_n (k := 1) (p := 5) (by decide +kernel) rfl rfl ?_
    refine fs_iconst (n := 3) (p := 6) (by decide +kernel) rfl kc_3 ?_
    by_cases c20 : (3 : Int32) < x1
    · rw [if_pos c20] at h
      refine fs_icmp_gt_t (off := 25) (t := 31) (by decide +kernel) (by decide +kernel) c20 ?_
      refine fs_iconst (n := -1) (p := 32) (by decide +kernel) rfl kc_m1 ?_
      have h := Option.some.inj h
      subst h
      exact fs_iret (by decide +kernel) rt_110
    · rw [if_neg c20] at h
      refine fs_icmp_gt_f (off := 25) (t := 31) (p := 9) (by decide +kernel) (by decide +kernel) rfl c20 ?_
      refine fs_aload_n (k := 0) (p := 10) (by decide +kernel) rfl rfl ?_
      refine fs_gfr (idx := 13) (ci := 9) (j := 1) (p := 13) (by decide +kernel) rfl (by decide +kernel) fo_0 (fr_a0_1) ?_
      refine fs_iconst (n := 0) (p := 14) (by decide +kernel) rfl kc_0 ?_
      obtain ⟨q22, w21, h⟩ := fx_bd h
      refine fs_callV (idx := 75) (mj := 56) (ci := 6) (na := 1) (mx := 2) (p := 17) (args := [.ref 1, .int (0 : Int32)]) (rest := []) (al2 := [some (.ref 1), some (.int (0 : Int32))]) (by decide +kernel) rfl (by decide +kernel) fo_1 rfl rfl rfl rfl rfl rfl rfl (by omega) (fun d' hd' => fe_56 (by omega) w21) rfl ?_
      by_cases c23 : (fx_b q22.1) = 0
      · rw [if_pos c23] at h
        refine fs_if_eq_t (off := 14) (t := 31) (by decide +kernel) (by decide +kernel) c23 ?_
        refine fs_iconst (n := -1) (p := 32) (by decide +kernel) rfl kc_m1 ?_
        have h := Option.some.inj h
        subst h
        exact fs_iret (by decide +kernel) rt_110
      · rw [if_neg c23] at h
        refine fs_if_eq_f (off := 14) (t := 31) (p := 20) (by decide +kernel) (by decide +kernel) rfl c23 ?_
        refine fs_aload_n (k := 0) (p := 21) (by decide +kernel) rfl rfl ?_
        refine fs_gfr (idx := 13) (ci := 9) (j := 1) (p := 24) (by decide +kernel) rfl (by decide +kernel) fo_0 (fr_a0_1) ?_
        refine fs_iconst (n := 1) (p := 25) (by decide +kernel) rfl kc_1 ?_
        obtain ⟨q25, w24, h⟩ := fx_bd h
        refine fs_callV (idx := 75) (mj := 56) (ci := 6) (na := 1) (mx := 2) (p := 28) (args := [.ref 1, .int (1 : Int32)]) (rest := []) (al2 := [some (.ref 1), some (.int (1 : Int32))]) (by decide +kernel) rfl (by decide +kernel) fo_1 rfl rfl rfl rfl rfl rfl rfl (by omega) (fun d' hd' => fe_56 (by omega) w24) rfl ?_
        by_cases c26 : ¬ (fx_b q25.1) = 0
        · rw [if_pos c26] at h
          refine fs_if_ne_t (off := 5) (t := 33) (by decide +kernel) (by decide +kernel) c26 ?_
          refine fs_iload_n (k := 1) (p := 34) (by decide +kernel) rfl rfl ?_
          by_cases c27 : ¬ x1 = 0
          · rw [if_pos c27] at h
            refine fs_if_ne_t (off := 11) (t := 45) (by decide +kernel) (by decide +kernel) c27 ?_
            refine fs_iconst (n := 0) (p := 46) (by decide +kernel) rfl kc_0 ?_
            refine fs_istore_n (k := 2) (p := 47) (M := 4) (al' := [some (.ref 0), some (.int x1), some (.int (0 : Int32)), none]) (by decide +kernel) rfl mx_110 rfl rfl ?_
            refine fs_iconst (n := 0) (p := 48) (by decide +kernel) rfl kc_0 ?_
            refine fs_istore_n (k := 3) (p := 49) (M := 4) (al' := [some (.ref 0), some (.int x1), some (.int (0 : Int32)), some (.int (0 : Int32))]) (by decide +kernel) rfl mx_110 rfl rfl ?_
            exact fe_110_49 hd 100000 _ _ _ _ _ h
          · rw [if_neg c27] at h
            refine fs_if_ne_f (off := 11) (t := 45) (p := 37) (by decide +kernel) (by decide +kernel) rfl c27 ?_
            refine fs_aload_n (k := 0) (p := 38) (by decide +kernel) rfl rfl ?_
            refine fs_gfr (idx := 13) (ci := 9) (j := 1) (p := 41) (by decide +kernel) rfl (by decide +kernel) fo_0 (fr_a0_1) ?_
            obtain ⟨q29, w28, h⟩ := fx_bd h
            refine fs_callV (idx := 291) (mj := 64) (ci := 6) (na := 0) (mx := 4) (p := 44) (args := [.ref 1]) (rest := []) (al2 := [some (.ref 1), none, none, none]) (by decide +kernel) rfl (by decide +kernel) fo_1 rfl rfl rfl rfl rfl rfl rfl (by omega) (fun d' hd' => fe_64 (by omega) w28) rfl ?_
            have h := Option.some.inj h
            subst h
            exact fs_iret (by decide +kernel) rt_110
        · rw [if_neg c26] at h
          refine fs_if_ne_f (off := 5) (t := 33) (p := 31) (by decide +kernel) (by decide +kernel) rfl c26 ?_
          refine fs_iconst (n := -1) (p := 32) (by decide +kernel) rfl kc_m1 ?_
          have h := Option.some.inj h
          subst h
          exact fs_iret (by decide +kernel) rt_110

/-! ZoneShares$CountsText.read(LZoneShares$Tape;)I -/
theorem mx_4 : iv_mx 4 = 6 := by decide +kernel
theorem rt_4 : iv_rt 4 = some .int := by decide +kernel
def fm_4_112 (k_33 : Int32 → Int32 → fx_S → Option (Int32 × fx_S)) (x3 : Int32) (s0 : Int32) (σ : fx_S) : Option (Int32 × fx_S) :=
  k_33 s0 (x3 + (1 : Int32)) (fx_w1 σ 60 2 ((σ.1 60 2) + (1 : Int32)))
theorem fe_4_112 {z : iv_Z} {d : Nat} (hd : 3 ≤ d) {k_33 : Int32 → Int32 → fx_S → Option (Int32 × fx_S)} (hk_33 : ∀ (x2 : Int32) (x3 : Int32) (o4 : Option Value) (o5 : Option Value) (σ : fx_S) (q : Int32 × fx_S), k_33 x2 x3 σ = some q → fx_E z 4 d 33 [some (.ref 60), some (.ref 14), some (.int x2), some (.int x3), o4, o5] [] σ (some (.int q.1)) q.2) (x3 : Int32) (s0 : Int32) (o2 : Option Value) (o4 : Option Value) (o5 : Option Value) (σ : fx_S) (q : Int32 × fx_S) (h : fm_4_112 k_33  x3 s0 σ = some q) : fx_E z 4 d 112 [some (.ref 60), some (.ref 14), o2, some (.int x3), o4, o5] [.int s0] σ (some (.int q.1)) q.2 := by
  unfold fm_4_112 at h
  refine fs_istore_n (k := 2) (p := 113) (M := 6) (al' := [some (.ref 60), some (.ref 14), some (.int s0), some (.int x3), o4, o5]) (by decide +kernel) rfl mx_4 rfl rfl ?_
  refine fs_aload_n (k := 0) (p := 114) (by decide +kernel) rfl rfl ?_
  refine fs_dup (p := 115) (by decide +kernel) rfl rfl ?_
  refine fs_gfi (idx := 25) (ci := 0) (j := 2) (p := 118) (by decide +kernel) rfl (by decide +kernel) fo_60 ?_
  refine fs_iconst (n := 1) (p := 119) (by decide +kernel) rfl kc_1 ?_
  refine fs_iadd (p := 120) (by decide +kernel) rfl ?_
  refine fs_pfi (idx := 25) (ci := 0) (j := 2) (p := 123) (by decide +kernel) rfl (by decide +kernel) (by decide +kernel) fo_60 (fx_oki _ (by decide +kernel)) ?_
  refine fs_iinc (k := 3) (n := 1) (p := 126) (M := 6) (al' := [some (.ref 60), some (.ref 14), some (.int s0), some (.int (x3 + (1 : Int32))), o4, o5]) (by decide +kernel) rfl kc_1 mx_4 rfl rfl rfl ?_
  refine fs_goto (off := -93) (p := 33) (by decide +kernel) (by decide +kernel) ?_
  exact hk_33 _ _ _ _ _ _ h
def fm_4_100 (k_33 : Int32 → Int32 → fx_S → Option (Int32 × fx_S)) (x3 : Int32) (x5 : Int32) (σ : fx_S) : Option (Int32 × fx_S) :=
  if ¬ x5 = (44 : Int32) then (
    fm_4_112 k_33 x3 (0 : Int32) σ) else (
    fm_4_112 k_33 x3 (1 : Int32) σ)
theorem fe_4_100 {z : iv_Z} {d : Nat} (hd : 3 ≤ d) {k_33 : Int32 → Int32 → fx_S → Option (Int32 × fx_S)} (hk_33 : ∀ (x2 : Int32) (x3 : Int32) (o4 : Option Value) (o5 : Option Value) (σ : fx_S) (q : Int32 × fx_S), k_33 x2 x3 σ = some q → fx_E z 4 d 33 [some (.ref 60), some (.ref 14), some (.int x2), some (.int x3), o4, o5] [] σ (some (.int q.1)) q.2) (x3 : Int32) (x5 : Int32) (o2 : Option Value) (o4 : Option Value) (σ : fx_S) (q : Int32 × fx_S) (h : fm_4_100 k_33  x3 x5 σ = some q) : fx_E z 4 d 100 [some (.ref 60), some (.ref 14), o2, some (.int x3), o4, some (.int x5)] [] σ (some (.int q.1)) q.2 := by
  unfold fm_4_100 at h
  refine fs_iload (k := 5) (p := 102) (by decide +kernel) rfl rfl ?_
  refine fs_bipush (n := 44) (p := 104) (by decide +kernel) rfl kb_44 ?_
  by_cases c2 : ¬ x5 = (44 : Int32)
  · rw [if_pos c2] at h
    refine fs_icmp_ne_t (off := 7) (t := 111) (by decide +kernel) (by decide +kernel) c2 ?_
    refine fs_iconst (n := 0) (p := 112) (by decide +kernel) rfl kc_0 ?_
    exact fe_4_112 hd hk_33 _ _ _ _ _ _ _ h
  · rw [if_neg c2] at h
    refine fs_icmp_ne_f (off := 7) (t := 111) (p := 107) (by decide +kernel) (by decide +kernel) rfl c2 ?_
    refine fs_iconst (n := 1) (p := 108) (by decide +kernel) rfl kc_1 ?_
    refine fs_goto (off := 4) (p := 112) (by decide +kernel) (by decide +kernel) ?_
    exact fe_4_112 hd hk_33 _ _ _ _ _ _ _ h
def fm_4_33 : Nat → Int32 → Int32 → fx_S → Option (Int32 × fx_S)
  | 0, _, _, _ => none
  | n + 1, x2, x3, σ =>
    if (200 : Int32) ≤ x3 then (
      some ((-1 : Int32), σ)) else (
      if x2 = 0 then (
        some ((-1 : Int32), σ)) else (
        (fm_5 σ).bind fun q6 =>
        if q6.1 = 0 then (
          (fm_83 (q6.2.1 60 2) q6.2).bind fun q10 =>
          if q10.1 = (44 : Int32) then (
            fm_4_100 (fm_4_33 n) x3 q10.1 q10.2) else (
            if q10.1 = (-1 : Int32) then (
              fm_4_100 (fm_4_33 n) x3 q10.1 q10.2) else (
              some ((((8 : Int32) * (q10.2.1 60 2)) + (1 : Int32)), q10.2)))) else (
          some ((((8 : Int32) * (q6.2.1 60 2)) + q6.1), q6.2))))
theorem fe_4_33 {z : iv_Z} {d : Nat} (hd : 3 ≤ d) : ∀ (n : Nat) (x2 : Int32) (x3 : Int32) (o4 : Option Value) (o5 : Option Value) (σ : fx_S) (q : Int32 × fx_S), fm_4_33 n x2 x3 σ = some q → fx_E z 4 d 33 [some (.ref 60), some (.ref 14), some (.int x2), some (.int x3), o4, o5] [] σ (some (.int q.1)) q.2 := by
  intro n
  induction n with
  | zero =>
    intro x2 x3 o4 o5 σ q  h
    rw [fm_4_33] at h
    exact fx_no h
  | succ n ih =>
    intro x2 x3 o4 o5 σ q  h
    rw [fm_4_33] at h
    refine fs_iload_n (k := 3) (p := 34) (by decide +kernel) rfl rfl ?_
    refine fs_sipush (n := 200) (p := 37) (by decide +kernel) rfl ks_200 ?_
    by_cases c2 : (200 : Int32) ≤ x3
    · rw [if_pos c2] at h
      refine fs_icmp_ge_t (off := 92) (t := 129) (by decide +kernel) (by decide +kernel) c2 ?_
      refine fs_iconst (n := -1) (p := 130) (by decide +kernel) rfl kc_m1 ?_
      have h := Option.some.inj h
      subst h
      exact fs_iret (by decide +kernel) rt_4
    · rw [if_neg c2] at h
      refine fs_icmp_ge_f (off := 92) (t := 129) (p := 40) (by decide +kernel) (by decide +kernel) rfl c2 ?_
      refine fs_iload_n (k := 2) (p := 41) (by decide +kernel) rfl rfl ?_
      by_cases c4 : x2 = 0
      · rw [if_pos c4] at h
        refine fs_if_eq_t (off := 88) (t := 129) (by decide +kernel) (by decide +kernel) c4 ?_
        refine fs_iconst (n := -1) (p := 130) (by decide +kernel) rfl kc_m1 ?_
        have h := Option.some.inj h
        subst h
        exact fs_iret (by decide +kernel) rt_4
      · rw [if_neg c4] at h
        refine fs_if_eq_f (off := 88) (t := 129) (p := 44) (by decide +kernel) (by decide +kernel) rfl c4 ?_
        refine fs_aload_n (k := 0) (p := 45) (by decide +kernel) rfl rfl ?_
        refine fs_aload_n (k := 1) (p := 46) (by decide +kernel) rfl rfl ?_
        obtain ⟨q6, w5, h⟩ := fx_bd h
        refine fs_callV (idx := 33) (mj := 5) (ci := 0) (na := 1) (mx := 4) (p := 49) (args := [.ref 60, .ref 14]) (rest := []) (al2 := [some (.ref 60), some (.ref 14), none, none]) (by decide +kernel) rfl (by decide +kernel) fo_60 rfl rfl rfl rfl rfl rfl rfl (by omega) (fun d' hd' => fe_5 (by omega) w5) rfl ?_
        refine fs_istore (k := 4) (p := 51) (M := 6) (al' := [some (.ref 60), some (.ref 14), some (.int x2), some (.int x3), some (.int q6.1), o5]) (by decide +kernel) rfl mx_4 rfl rfl ?_
        refine fs_iload (k := 4) (p := 53) (by decide +kernel) rfl rfl ?_
        by_cases c8 : q6.1 = 0
        · rw [if_pos c8] at h
          refine fs_if_eq_t (off := 14) (t := 67) (by decide +kernel) (by decide +kernel) c8 ?_
          refine fs_aload_n (k := 1) (p := 68) (by decide +kernel) rfl rfl ?_
          refine fs_aload_n (k := 0) (p := 69) (by decide +kernel) rfl rfl ?_
          refine fs_gfi (idx := 25) (ci := 0) (j := 2) (p := 72) (by decide +kernel) rfl (by decide +kernel) fo_60 ?_
          obtain ⟨q10, w9, h⟩ := fx_bd h
          refine fs_callV (idx := 37) (mj := 83) (ci := 8) (na := 1) (mx := 2) (p := 75) (args := [.ref 14, .int (q6.2.1 60 2)]) (rest := []) (al2 := [some (.ref 14), some (.int (q6.2.1 60 2))]) (by decide +kernel) rfl (by decide +kernel) fo_14 rfl rfl rfl rfl rfl rfl rfl (by omega) (fun d' hd' => fe_83 (by omega) w9) rfl ?_
          refine fs_istore (k := 5) (p := 77) (M := 6) (al' := [some (.ref 60), some (.ref 14), some (.int x2), some (.int x3), some (.int q6.1), some (.int q10.1)]) (by decide +kernel) rfl mx_4 rfl rfl ?_
          refine fs_iload (k := 5) (p := 79) (by decide +kernel) rfl rfl ?_
          refine fs_bipush (n := 44) (p := 81) (by decide +kernel) rfl kb_44 ?_
          by_cases c12 : q10.1 = (44 : Int32)
          · rw [if_pos c12] at h
            refine fs_icmp_eq_t (off := 19) (t := 100) (by decide +kernel) (by decide +kernel) c12 ?_
            exact fe_4_100 hd ih _ _ _ _ _ _ h
          · rw [if_neg c12] at h
            refine fs_icmp_eq_f (off := 19) (t := 100) (p := 84) (by decide +kernel) (by decide +kernel) rfl c12 ?_
            refine fs_iload (k := 5) (p := 86) (by decide +kernel) rfl rfl ?_
            refine fs_iconst (n := -1) (p := 87) (by decide +kernel) rfl kc_m1 ?_
            by_cases c13 : q10.1 = (-1 : Int32)
            · rw [if_pos c13] at h
              refine fs_icmp_eq_t (off := 13) (t := 100) (by decide +kernel) (by decide +kernel) c13 ?_
              exact fe_4_100 hd ih _ _ _ _ _ _ h
            · rw [if_neg c13] at h
              refine fs_icmp_eq_f (off := 13) (t := 100) (p := 90) (by decide +kernel) (by decide +kernel) rfl c13 ?_
              refine fs_bipush (n := 8) (p := 92) (by decide +kernel) rfl kb_8 ?_
              refine fs_aload_n (k := 0) (p := 93) (by decide +kernel) rfl rfl ?_
              refine fs_gfi (idx := 25) (ci := 0) (j := 2) (p := 96) (by decide +kernel) rfl (by decide +kernel) fo_60 ?_
              refine fs_imul (p := 97) (by decide +kernel) rfl ?_
              refine fs_iconst (n := 1) (p := 98) (by decide +kernel) rfl kc_1 ?_
              refine fs_iadd (p := 99) (by decide +kernel) rfl ?_
              have h := Option.some.inj h
              subst h
              exact fs_iret (by decide +kernel) rt_4
        · rw [if_neg c8] at h
          refine fs_if_eq_f (off := 14) (t := 67) (p := 56) (by decide +kernel) (by decide +kernel) rfl c8 ?_
          refine fs_bipush (n := 8) (p := 58) (by decide +kernel) rfl kb_8 ?_
          refine fs_aload_n (k := 0) (p := 59) (by decide +kernel) rfl rfl ?_
          refine fs_gfi (idx := 25) (ci := 0) (j := 2) (p := 62) (by decide +kernel) rfl (by decide +kernel) fo_60 ?_
          refine fs_imul (p := 63) (by decide +kernel) rfl ?_
          refine fs_iload (k := 4) (p := 65) (by decide +kernel) rfl rfl ?_
          refine fs_iadd (p := 66) (by decide +kernel) rfl ?_
          have h := Option.some.inj h
          subst h
          exact fs_iret (by decide +kernel) rt_4
def fm_4_30 (s0 : Int32) (σ : fx_S) : Option (Int32 × fx_S) :=
  fm_4_33 100000 s0 (0 : Int32) σ
theorem fe_4_30 {z : iv_Z} {d : Nat} (hd : 3 ≤ d) (s0 : Int32) (σ : fx_S) (q : Int32 × fx_S) (h : fm_4_30  s0 σ = some q) : fx_E z 4 d 30 [some (.ref 60), some (.ref 14), none, none, none, none] [.int s0] σ (some (.int q.1)) q.2 := by
  unfold fm_4_30 at h
  refine fs_istore_n (k := 2) (p := 31) (M := 6) (al' := [some (.ref 60), some (.ref 14), some (.int s0), none, none, none]) (by decide +kernel) rfl mx_4 rfl rfl ?_
  refine fs_iconst (n := 0) (p := 32) (by decide +kernel) rfl kc_0 ?_
  refine fs_istore_n (k := 3) (p := 33) (M := 6) (al' := [some (.ref 60), some (.ref 14), some (.int s0), some (.int (0 : Int32)), none, none]) (by decide +kernel) rfl mx_4 rfl rfl ?_
  exact fe_4_33 hd 100000 _ _ _ _ _ _ h
def fm_4 (σ : fx_S) : Option (Int32 × fx_S) :=
  (fm_235 61 (0 : Int32) σ).bind fun q34 =>
  if ((fx_w1 (fx_w1 q34 60 1 (0 : Int32)) 60 2 (0 : Int32)).1 14 1) ≤ 0 then (
    fm_4_30 (0 : Int32) (fx_w1 (fx_w1 q34 60 1 (0 : Int32)) 60 2 (0 : Int32))) else (
    fm_4_30 (1 : Int32) (fx_w1 (fx_w1 q34 60 1 (0 : Int32)) 60 2 (0 : Int32)))
theorem fe_4 {z : iv_Z} {d : Nat} (hd : 3 ≤ d) {σ : fx_S} {q : Int32 × fx_S} (h : fm_4 σ = some q) : fx_E z 4 d 0 [some (.ref 60), some (.ref 14), none, none, none, none] [] σ (some (.int q.1)) q.2 := by
  unfold fm_4 at h
  refine fs_aload_n (k := 0) (p := 1) (by decide +kernel) rfl rfl ?_
  refine fs_gfr (idx := 9) (ci := 0) (j := 0) (p := 4) (by decide +kernel) rfl (by decide +kernel) fo_60 (fr_a60_0) ?_
  refine fs_iconst (n := 0) (p := 5) (by decide +kernel) rfl kc_0 ?_
  obtain ⟨q34, w33, h⟩ := fx_bd h
  refine fs_callS (idx := 15) (mj := 235) (na := 2) (mx := 4) (p := 8) (args := [.ref 61, .int (0 : Int32)]) (rest := []) (al2 := [some (.ref 61), some (.int (0 : Int32)), none, none]) (by decide +kernel) rfl (by decide +kernel) rfl rfl rfl rfl rfl rfl rfl (by omega) (fun d' hd' => fe_235 (by omega) w33) rfl ?_
  refine fs_aload_n (k := 0) (p := 9) (by decide +kernel) rfl rfl ?_
  refine fs_iconst (n := 0) (p := 10) (by decide +kernel) rfl kc_0 ?_
  refine fs_pfi (idx := 21) (ci := 0) (j := 1) (p := 13) (by decide +kernel) rfl (by decide +kernel) (by decide +kernel) fo_60 (fx_oki _ (by decide +kernel)) ?_
  refine fs_aload_n (k := 0) (p := 14) (by decide +kernel) rfl rfl ?_
  refine fs_iconst (n := 0) (p := 15) (by decide +kernel) rfl kc_0 ?_
  refine fs_pfi (idx := 25) (ci := 0) (j := 2) (p := 18) (by decide +kernel) rfl (by decide +kernel) (by decide +kernel) fo_60 (fx_oki _ (by decide +kernel)) ?_
  refine fs_aload_n (k := 1) (p := 19) (by decide +kernel) rfl rfl ?_
  refine fs_gfi (idx := 28) (ci := 8) (j := 1) (p := 22) (by decide +kernel) rfl (by decide +kernel) fo_14 ?_
  by_cases c36 : ((fx_w1 (fx_w1 q34 60 1 (0 : Int32)) 60 2 (0 : Int32)).1 14 1) ≤ 0
  · rw [if_pos c36] at h
    refine fs_if_le_t (off := 7) (t := 29) (by decide +kernel) (by decide +kernel) c36 ?_
    refine fs_iconst (n := 0) (p := 30) (by decide +kernel) rfl kc_0 ?_
    exact fe_4_30 hd _ _ _ h
  · rw [if_neg c36] at h
    refine fs_if_le_f (off := 7) (t := 29) (p := 25) (by decide +kernel) (by decide +kernel) rfl c36 ?_
    refine fs_iconst (n := 1) (p := 26) (by decide +kernel) rfl kc_1 ?_
    refine fs_goto (off := 4) (p := 30) (by decide +kernel) (by decide +kernel) ?_
    exact fe_4_30 hd _ _ _ h

/-! ZoneShares$Group.makeLives()V -/
theorem mx_20 : iv_mx 20 = 1 := by decide +kernel
theorem rt_20 : iv_rt 20 = none := by decide +kernel
def fm_20 (x0 : Nat) (σ : fx_S) : Option (fx_S) :=
  if fx_oc x0 2 = true then (
  (fm_21 x0 (1 : Int32) σ).bind fun q7 =>
  if (fx_b q7.1) = 0 then (
    some q7.2) else (
    (fm_22 x0 q7.2).bind fun q10 =>
    some q10)) else none
theorem fe_20 {z : iv_Z} {d : Nat} (hd : 4 ≤ d) {x0 : Nat} {σ : fx_S} {q : fx_S} (h : fm_20 x0 σ = some q) : fx_E z 20 d 0 [some (.ref x0)] [] σ none q := by
  unfold fm_20 at h
  obtain ⟨g0, h⟩ := fx_gd h
  refine fs_aload_n (k := 0) (p := 1) (by decide +kernel) rfl rfl ?_
  refine fs_iconst (n := 1) (p := 2) (by decide +kernel) rfl kc_1 ?_
  obtain ⟨q7, w6, h⟩ := fx_bd h
  refine fs_callV (idx := 52) (mj := 21) (ci := 2) (na := 1) (mx := 3) (p := 5) (args := [.ref x0, .int (1 : Int32)]) (rest := []) (al2 := [some (.ref x0), some (.int (1 : Int32)), none]) (by decide +kernel) rfl (by decide +kernel) g0 rfl rfl rfl rfl rfl rfl rfl (by omega) (fun d' hd' => fe_21 (by omega) w6) rfl ?_
  by_cases c8 : (fx_b q7.1) = 0
  · rw [if_pos c8] at h
    refine fs_if_eq_t (off := 7) (t := 12) (by decide +kernel) (by decide +kernel) c8 ?_
    have h := Option.some.inj h
    subst h
    exact fs_ret (by decide +kernel) rt_20
  · rw [if_neg c8] at h
    refine fs_if_eq_f (off := 7) (t := 12) (p := 8) (by decide +kernel) (by decide +kernel) rfl c8 ?_
    refine fs_aload_n (k := 0) (p := 9) (by decide +kernel) rfl rfl ?_
    obtain ⟨q10, w9, h⟩ := fx_bd h
    refine fs_callV (idx := 82) (mj := 22) (ci := 2) (na := 0) (mx := 5) (p := 12) (args := [.ref x0]) (rest := []) (al2 := [some (.ref x0), none, none, none, none]) (by decide +kernel) rfl (by decide +kernel) g0 rfl rfl rfl rfl rfl rfl rfl (by omega) (fun d' hd' => fe_22 (by omega) w9) rfl ?_
    have h := Option.some.inj h
    subst h
    exact fs_ret (by decide +kernel) rt_20

/-! ZoneShares$Rounder.round(LZoneShares$Table;Z)V -/
theorem mx_41 : iv_mx 41 = 4 := by decide +kernel
theorem rt_41 : iv_rt 41 = none := by decide +kernel
def fm_41_84 (k_63 : Nat → Int32 → fx_S → Option (fx_S)) (x1 : Nat) (x3 : Int32) (σ : fx_S) : Option (fx_S) :=
  (fx_ld σ (x1 + 6) x3).bind fun v1 =>
  (fx_ld σ 8 x3).bind fun v4 =>
  (fx_st σ (x1 + 8) x3 (v1 + v4)).bind fun t6 =>
  k_63 x1 (x3 + (1 : Int32)) t6
theorem fe_41_84 {z : iv_Z} {d : Nat} (hd : 4 ≤ d) {k_63 : Nat → Int32 → fx_S → Option (fx_S)} (hk_63 : ∀ (x1 : Nat) (x3 : Int32) (o2 : Option Value) (σ : fx_S) (q : fx_S) (g1 : fx_oc x1 7 = true), k_63 x1 x3 σ = some q → fx_E z 41 d 63 [some (.ref 6), some (.ref x1), o2, some (.int x3)] [] σ none q) (x1 : Nat) (x3 : Int32) (o2 : Option Value) (σ : fx_S) (q : fx_S) (g1 : fx_oc x1 7 = true) (h : fm_41_84 k_63  x1 x3 σ = some q) : fx_E z 41 d 84 [some (.ref 6), some (.ref x1), o2, some (.int x3)] [] σ none q := by
  unfold fm_41_84 at h
  refine fs_aload_n (k := 1) (p := 85) (by decide +kernel) rfl rfl ?_
  refine fs_gfr (idx := 60) (ci := 7) (j := 7) (p := 88) (by decide +kernel) rfl (by decide +kernel) g1 (fr_7_7 g1) ?_
  refine fs_iload_n (k := 3) (p := 89) (by decide +kernel) rfl rfl ?_
  refine fs_aload_n (k := 1) (p := 90) (by decide +kernel) rfl rfl ?_
  refine fs_gfr (idx := 63) (ci := 7) (j := 5) (p := 93) (by decide +kernel) rfl (by decide +kernel) g1 (fr_7_5 g1) ?_
  refine fs_iload_n (k := 3) (p := 94) (by decide +kernel) rfl rfl ?_
  obtain ⟨v1, w2, h⟩ := fx_bd h
  refine fs_iaload (p := 95) (by decide +kernel) rfl w2 ?_
  refine fs_aload_n (k := 0) (p := 96) (by decide +kernel) rfl rfl ?_
  refine fs_gfr (idx := 15) (ci := 5) (j := 1) (p := 99) (by decide +kernel) rfl (by decide +kernel) fo_6 (fr_a6_1) ?_
  refine fs_iload_n (k := 3) (p := 100) (by decide +kernel) rfl rfl ?_
  obtain ⟨v4, w5, h⟩ := fx_bd h
  refine fs_iaload (p := 101) (by decide +kernel) rfl w5 ?_
  refine fs_iadd (p := 102) (by decide +kernel) rfl ?_
  obtain ⟨t6, w7, h⟩ := fx_bd h
  refine fs_iastore (p := 103) (by decide +kernel) rfl w7 ?_
  refine fs_iinc (k := 3) (n := 1) (p := 106) (M := 4) (al' := [some (.ref 6), some (.ref x1), (fx_kl o2), some (.int (x3 + (1 : Int32)))]) (by decide +kernel) rfl kc_1 mx_41 rfl rfl rfl ?_
  refine fs_goto (off := -43) (p := 63) (by decide +kernel) (by decide +kernel) ?_
  exact hk_63 _ _ _ _ _ g1 h
def fm_41_63 : Nat → Nat → Int32 → fx_S → Option (fx_S)
  | 0, _, _, _ => none
  | n + 1, x1, x3, σ =>
    if (72 : Int32) ≤ x3 then (
      some σ) else (
      (fx_ld σ 7 x3).bind fun v3 =>
      if ¬ v3 = (1 : Int32) then (
        fm_41_84 (fm_41_63 n) x1 x3 σ) else (
        (fm_45 x3 σ).bind fun q9 =>
        fm_41_84 (fm_41_63 n) x1 x3 q9))
theorem fe_41_63 {z : iv_Z} {d : Nat} (hd : 4 ≤ d) : ∀ (n : Nat) (x1 : Nat) (x3 : Int32) (o2 : Option Value) (σ : fx_S) (q : fx_S) (g1 : fx_oc x1 7 = true), fm_41_63 n x1 x3 σ = some q → fx_E z 41 d 63 [some (.ref 6), some (.ref x1), o2, some (.int x3)] [] σ none q := by
  intro n
  induction n with
  | zero =>
    intro x1 x3 o2 σ q g1 h
    rw [fm_41_63] at h
    exact fx_no h
  | succ n ih =>
    intro x1 x3 o2 σ q g1 h
    rw [fm_41_63] at h
    refine fs_iload_n (k := 3) (p := 64) (by decide +kernel) rfl rfl ?_
    refine fs_bipush (n := 72) (p := 66) (by decide +kernel) rfl kb_72 ?_
    by_cases c2 : (72 : Int32) ≤ x3
    · rw [if_pos c2] at h
      refine fs_icmp_ge_t (off := 43) (t := 109) (by decide +kernel) (by decide +kernel) c2 ?_
      have h := Option.some.inj h
      subst h
      exact fs_ret (by decide +kernel) rt_41
    · rw [if_neg c2] at h
      refine fs_icmp_ge_f (off := 43) (t := 109) (p := 69) (by decide +kernel) (by decide +kernel) rfl c2 ?_
      refine fs_aload_n (k := 0) (p := 70) (by decide +kernel) rfl rfl ?_
      refine fs_gfr (idx := 11) (ci := 5) (j := 0) (p := 73) (by decide +kernel) rfl (by decide +kernel) fo_6 (fr_a6_0) ?_
      refine fs_iload_n (k := 3) (p := 74) (by decide +kernel) rfl rfl ?_
      obtain ⟨v3, w4, h⟩ := fx_bd h
      refine fs_iaload (p := 75) (by decide +kernel) rfl w4 ?_
      refine fs_iconst (n := 1) (p := 76) (by decide +kernel) rfl kc_1 ?_
      by_cases c7 : ¬ v3 = (1 : Int32)
      · rw [if_pos c7] at h
        refine fs_icmp_ne_t (off := 8) (t := 84) (by decide +kernel) (by decide +kernel) c7 ?_
        exact fe_41_84 hd ih _ _ _ _ _ g1 h
      · rw [if_neg c7] at h
        refine fs_icmp_ne_f (off := 8) (t := 84) (p := 79) (by decide +kernel) (by decide +kernel) rfl c7 ?_
        refine fs_aload_n (k := 0) (p := 80) (by decide +kernel) rfl rfl ?_
        refine fs_iload_n (k := 3) (p := 81) (by decide +kernel) rfl rfl ?_
        obtain ⟨q9, w8, h⟩ := fx_bd h
        refine fs_callV (idx := 57) (mj := 45) (ci := 5) (na := 1) (mx := 4) (p := 84) (args := [.ref 6, .int x3]) (rest := []) (al2 := [some (.ref 6), some (.int x3), none, none]) (by decide +kernel) rfl (by decide +kernel) fo_6 rfl rfl rfl rfl rfl rfl rfl (by omega) (fun d' hd' => fe_45 (by omega) w8) rfl ?_
        exact fe_41_84 hd ih _ _ _ _ _ g1 h
def fm_41_44 : Nat → Nat → Int32 → fx_S → Option (fx_S)
  | 0, _, _, _ => none
  | n + 1, x1, x3, σ =>
    if (9 : Int32) ≤ x3 then (
      fm_41_63 100000 x1 (0 : Int32) σ) else (
      (fm_44 x3 σ).bind fun q4 =>
      fm_41_44 n x1 (x3 + (1 : Int32)) q4)
theorem fe_41_44 {z : iv_Z} {d : Nat} (hd : 4 ≤ d) : ∀ (n : Nat) (x1 : Nat) (x3 : Int32) (o2 : Option Value) (σ : fx_S) (q : fx_S) (g1 : fx_oc x1 7 = true), fm_41_44 n x1 x3 σ = some q → fx_E z 41 d 44 [some (.ref 6), some (.ref x1), o2, some (.int x3)] [] σ none q := by
  intro n
  induction n with
  | zero =>
    intro x1 x3 o2 σ q g1 h
    rw [fm_41_44] at h
    exact fx_no h
  | succ n ih =>
    intro x1 x3 o2 σ q g1 h
    rw [fm_41_44] at h
    refine fs_iload_n (k := 3) (p := 45) (by decide +kernel) rfl rfl ?_
    refine fs_bipush (n := 9) (p := 47) (by decide +kernel) rfl kb_9 ?_
    by_cases c2 : (9 : Int32) ≤ x3
    · rw [if_pos c2] at h
      refine fs_icmp_ge_t (off := 14) (t := 61) (by decide +kernel) (by decide +kernel) c2 ?_
      refine fs_iconst (n := 0) (p := 62) (by decide +kernel) rfl kc_0 ?_
      refine fs_istore_n (k := 3) (p := 63) (M := 4) (al' := [some (.ref 6), some (.ref x1), (fx_kl o2), some (.int (0 : Int32))]) (by decide +kernel) rfl mx_41 rfl rfl ?_
      exact fe_41_63 hd 100000 _ _ _ _ _ g1 h
    · rw [if_neg c2] at h
      refine fs_icmp_ge_f (off := 14) (t := 61) (p := 50) (by decide +kernel) (by decide +kernel) rfl c2 ?_
      refine fs_aload_n (k := 0) (p := 51) (by decide +kernel) rfl rfl ?_
      refine fs_iload_n (k := 3) (p := 52) (by decide +kernel) rfl rfl ?_
      obtain ⟨q4, w3, h⟩ := fx_bd h
      refine fs_callV (idx := 53) (mj := 44) (ci := 5) (na := 1) (mx := 3) (p := 55) (args := [.ref 6, .int x3]) (rest := []) (al2 := [some (.ref 6), some (.int x3), none]) (by decide +kernel) rfl (by decide +kernel) fo_6 rfl rfl rfl rfl rfl rfl rfl (by omega) (fun d' hd' => fe_44 (by omega) w3) rfl ?_
      refine fs_iinc (k := 3) (n := 1) (p := 58) (M := 4) (al' := [some (.ref 6), some (.ref x1), (fx_kl o2), some (.int (x3 + (1 : Int32)))]) (by decide +kernel) rfl kc_1 mx_41 rfl rfl rfl ?_
      refine fs_goto (off := -14) (p := 44) (by decide +kernel) (by decide +kernel) ?_
      exact ih _ _ _ _ _ g1 h
def fm_41_20 : Nat → Nat → Int32 → fx_S → Option (fx_S)
  | 0, _, _, _ => none
  | n + 1, x1, x3, σ =>
    if (8 : Int32) ≤ x3 then (
      fm_41_44 100000 x1 (0 : Int32) σ) else (
      (fm_73 x1 x3 σ).bind fun q4 =>
      (fm_43 x3 q4.1 q4.2).bind fun q6 =>
      fm_41_20 n x1 (x3 + (1 : Int32)) q6)
theorem fe_41_20 {z : iv_Z} {d : Nat} (hd : 4 ≤ d) : ∀ (n : Nat) (x1 : Nat) (x3 : Int32) (o2 : Option Value) (σ : fx_S) (q : fx_S) (g1 : fx_oc x1 7 = true), fm_41_20 n x1 x3 σ = some q → fx_E z 41 d 20 [some (.ref 6), some (.ref x1), o2, some (.int x3)] [] σ none q := by
  intro n
  induction n with
  | zero =>
    intro x1 x3 o2 σ q g1 h
    rw [fm_41_20] at h
    exact fx_no h
  | succ n ih =>
    intro x1 x3 o2 σ q g1 h
    rw [fm_41_20] at h
    refine fs_iload_n (k := 3) (p := 21) (by decide +kernel) rfl rfl ?_
    refine fs_bipush (n := 8) (p := 23) (by decide +kernel) rfl kb_8 ?_
    by_cases c2 : (8 : Int32) ≤ x3
    · rw [if_pos c2] at h
      refine fs_icmp_ge_t (off := 19) (t := 42) (by decide +kernel) (by decide +kernel) c2 ?_
      refine fs_iconst (n := 0) (p := 43) (by decide +kernel) rfl kc_0 ?_
      refine fs_istore_n (k := 3) (p := 44) (M := 4) (al' := [some (.ref 6), some (.ref x1), (fx_kl o2), some (.int (0 : Int32))]) (by decide +kernel) rfl mx_41 rfl rfl ?_
      exact fe_41_44 hd 100000 _ _ _ _ _ g1 h
    · rw [if_neg c2] at h
      refine fs_icmp_ge_f (off := 19) (t := 42) (p := 26) (by decide +kernel) (by decide +kernel) rfl c2 ?_
      refine fs_aload_n (k := 0) (p := 27) (by decide +kernel) rfl rfl ?_
      refine fs_iload_n (k := 3) (p := 28) (by decide +kernel) rfl rfl ?_
      refine fs_aload_n (k := 1) (p := 29) (by decide +kernel) rfl rfl ?_
      refine fs_iload_n (k := 3) (p := 30) (by decide +kernel) rfl rfl ?_
      obtain ⟨q4, w3, h⟩ := fx_bd h
      refine fs_callV (idx := 45) (mj := 73) (ci := 7) (na := 1) (mx := 2) (p := 33) (args := [.ref x1, .int x3]) (rest := [.int x3, .ref 6]) (al2 := [some (.ref x1), some (.int x3)]) (by decide +kernel) rfl (by decide +kernel) g1 rfl rfl rfl rfl rfl rfl rfl (by omega) (fun d' hd' => fe_73 (by omega) w3) rfl ?_
      obtain ⟨q6, w5, h⟩ := fx_bd h
      refine fs_callV (idx := 49) (mj := 43) (ci := 5) (na := 2) (mx := 4) (p := 36) (args := [.ref 6, .int x3, .int q4.1]) (rest := []) (al2 := [some (.ref 6), some (.int x3), some (.int q4.1), none]) (by decide +kernel) rfl (by decide +kernel) fo_6 rfl rfl rfl rfl rfl rfl rfl (by omega) (fun d' hd' => fe_43 (by omega) w5) rfl ?_
      refine fs_iinc (k := 3) (n := 1) (p := 39) (M := 4) (al' := [some (.ref 6), some (.ref x1), (fx_kl o2), some (.int (x3 + (1 : Int32)))]) (by decide +kernel) rfl kc_1 mx_41 rfl rfl rfl ?_
      refine fs_goto (off := -19) (p := 20) (by decide +kernel) (by decide +kernel) ?_
      exact ih _ _ _ _ _ g1 h
def fm_41 (x1 : Nat) (x2 : Int32) (σ : fx_S) : Option (fx_S) :=
  if fx_oc x1 7 = true then (
  (fm_70 x1 σ).bind fun q36 =>
  if ¬ x2 = 0 then (
    (fm_42 x1 q36).bind fun q40 =>
    fm_41_20 100000 x1 (0 : Int32) q40) else (
    (fm_74 x1 q36).bind fun q42 =>
    some q42)) else none
theorem fe_41 {z : iv_Z} {d : Nat} (hd : 4 ≤ d) {x1 : Nat} {x2 : Int32} {σ : fx_S} {q : fx_S} (h : fm_41 x1 x2 σ = some q) : fx_E z 41 d 0 [some (.ref 6), some (.ref x1), some (.int x2), none] [] σ none q := by
  unfold fm_41 at h
  obtain ⟨g1, h⟩ := fx_gd h
  refine fs_aload_n (k := 1) (p := 1) (by decide +kernel) rfl rfl ?_
  obtain ⟨q36, w35, h⟩ := fx_bd h
  refine fs_callV (idx := 33) (mj := 70) (ci := 7) (na := 0) (mx := 3) (p := 4) (args := [.ref x1]) (rest := []) (al2 := [some (.ref x1), none, none]) (by decide +kernel) rfl (by decide +kernel) g1 rfl rfl rfl rfl rfl rfl rfl (by omega) (fun d' hd' => fe_70 (by omega) w35) rfl ?_
  refine fs_iload_n (k := 2) (p := 5) (by decide +kernel) rfl rfl ?_
  by_cases c38 : ¬ x2 = 0
  · rw [if_pos c38] at h
    refine fs_if_ne_t (off := 8) (t := 13) (by decide +kernel) (by decide +kernel) c38 ?_
    refine fs_aload_n (k := 0) (p := 14) (by decide +kernel) rfl rfl ?_
    refine fs_aload_n (k := 1) (p := 15) (by decide +kernel) rfl rfl ?_
    obtain ⟨q40, w39, h⟩ := fx_bd h
    refine fs_callV (idx := 41) (mj := 42) (ci := 5) (na := 1) (mx := 7) (p := 18) (args := [.ref 6, .ref x1]) (rest := []) (al2 := [some (.ref 6), some (.ref x1), none, none, none, none, none]) (by decide +kernel) rfl (by decide +kernel) fo_6 rfl rfl rfl rfl rfl rfl rfl (by omega) (fun d' hd' => fe_42 (by omega) w39) rfl ?_
    refine fs_iconst (n := 0) (p := 19) (by decide +kernel) rfl kc_0 ?_
    refine fs_istore_n (k := 3) (p := 20) (M := 4) (al' := [some (.ref 6), some (.ref x1), some (.int x2), some (.int (0 : Int32))]) (by decide +kernel) rfl mx_41 rfl rfl ?_
    exact fe_41_20 hd 100000 _ _ _ _ _ g1 h
  · rw [if_neg c38] at h
    refine fs_if_ne_f (off := 8) (t := 13) (p := 8) (by decide +kernel) (by decide +kernel) rfl c38 ?_
    refine fs_aload_n (k := 1) (p := 9) (by decide +kernel) rfl rfl ?_
    obtain ⟨q42, w41, h⟩ := fx_bd h
    refine fs_callV (idx := 38) (mj := 74) (ci := 7) (na := 0) (mx := 4) (p := 12) (args := [.ref x1]) (rest := []) (al2 := [some (.ref x1), none, none, none]) (by decide +kernel) rfl (by decide +kernel) g1 rfl rfl rfl rfl rfl rfl rfl (by omega) (fun d' hd' => fe_74 (by omega) w41) rfl ?_
    have h := Option.some.inj h
    subst h
    exact fs_ret (by decide +kernel) rt_41

/-! ZoneShares.counts(I)I -/
theorem mx_88 : iv_mx 88 = 3 := by decide +kernel
theorem rt_88 : iv_rt 88 = some .int := by decide +kernel
def fm_88 (x1 : Int32) (σ : fx_S) : Option (Int32 × fx_S) :=
  (fm_114 x1 σ).bind fun q16 =>
  if ¬ (fx_b q16.1) = 0 then (
    (fm_4 q16.2).bind fun q19 =>
    if q19.1 = (-1 : Int32) then (
      (fm_119 (fx_w1 q19.2 14 1 (0 : Int32))).bind fun q23 =>
      (fx_cpy q23 61 (0 : Int32) 3 (x1 * (9 : Int32)) (9 : Int32)).bind fun t24 =>
      (fm_66 1 x1 t24).bind fun q28 =>
      some (q28.1, q28.2)) else (
      some (((-2 : Int32) - q19.1), (fx_w1 q19.2 14 1 (0 : Int32))))) else (
    some ((-1 : Int32), q16.2))
theorem fe_88 {z : iv_Z} {d : Nat} (hd : 4 ≤ d) {x1 : Int32} {σ : fx_S} {q : Int32 × fx_S} (h : fm_88 x1 σ = some q) : fx_E z 88 d 0 [some (.ref 0), some (.int x1), none] [] σ (some (.int q.1)) q.2 := by
  unfold fm_88 at h
  refine fs_iload_n (k := 1) (p := 1) (by decide +kernel) rfl rfl ?_
  obtain ⟨q16, w15, h⟩ := fx_bd h
  refine fs_callS (idx := 94) (mj := 114) (na := 1) (mx := 1) (p := 4) (args := [.int x1]) (rest := []) (al2 := [some (.int x1)]) (by decide +kernel) rfl (by decide +kernel) rfl rfl rfl rfl rfl rfl rfl (by omega) (fun d' hd' => fe_114 (by omega) w15) rfl ?_
  by_cases c17 : ¬ (fx_b q16.1) = 0
  · rw [if_pos c17] at h
    refine fs_if_ne_t (off := 5) (t := 9) (by decide +kernel) (by decide +kernel) c17 ?_
    refine fs_aload_n (k := 0) (p := 10) (by decide +kernel) rfl rfl ?_
    refine fs_gfr (idx := 43) (ci := 9) (j := 4) (p := 13) (by decide +kernel) rfl (by decide +kernel) fo_0 (fr_a0_4) ?_
    refine fs_aload_n (k := 0) (p := 14) (by decide +kernel) rfl rfl ?_
    refine fs_gfr (idx := 22) (ci := 9) (j := 0) (p := 17) (by decide +kernel) rfl (by decide +kernel) fo_0 (fr_a0_0) ?_
    obtain ⟨q19, w18, h⟩ := fx_bd h
    refine fs_callV (idx := 97) (mj := 4) (ci := 0) (na := 1) (mx := 6) (p := 20) (args := [.ref 60, .ref 14]) (rest := []) (al2 := [some (.ref 60), some (.ref 14), none, none, none, none]) (by decide +kernel) rfl (by decide +kernel) fo_60 rfl rfl rfl rfl rfl rfl rfl (by omega) (fun d' hd' => fe_4 (by omega) w18) rfl ?_
    refine fs_istore_n (k := 2) (p := 21) (M := 3) (al' := [some (.ref 0), some (.int x1), some (.int q19.1)]) (by decide +kernel) rfl mx_88 rfl rfl ?_
    refine fs_aload_n (k := 0) (p := 22) (by decide +kernel) rfl rfl ?_
    refine fs_gfr (idx := 22) (ci := 9) (j := 0) (p := 25) (by decide +kernel) rfl (by decide +kernel) fo_0 (fr_a0_0) ?_
    refine fs_iconst (n := 0) (p := 26) (by decide +kernel) rfl kc_0 ?_
    refine fs_pfi (idx := 67) (ci := 8) (j := 1) (p := 29) (by decide +kernel) rfl (by decide +kernel) (by decide +kernel) fo_14 (fx_oki _ (by decide +kernel)) ?_
    refine fs_iload_n (k := 2) (p := 30) (by decide +kernel) rfl rfl ?_
    refine fs_iconst (n := -1) (p := 31) (by decide +kernel) rfl kc_m1 ?_
    by_cases c21 : q19.1 = (-1 : Int32)
    · rw [if_pos c21] at h
      refine fs_icmp_eq_t (off := 8) (t := 39) (by decide +kernel) (by decide +kernel) c21 ?_
      refine fs_aload_n (k := 0) (p := 40) (by decide +kernel) rfl rfl ?_
      obtain ⟨q23, w22, h⟩ := fx_bd h
      refine fs_callV (idx := 83) (mj := 119) (ci := 9) (na := 0) (mx := 1) (p := 43) (args := [.ref 0]) (rest := []) (al2 := [some (.ref 0)]) (by decide +kernel) rfl (by decide +kernel) fo_0 rfl rfl rfl rfl rfl rfl rfl (by omega) (fun d' hd' => fe_119 (by omega) w22) rfl ?_
      refine fs_aload_n (k := 0) (p := 44) (by decide +kernel) rfl rfl ?_
      refine fs_gfr (idx := 43) (ci := 9) (j := 4) (p := 47) (by decide +kernel) rfl (by decide +kernel) fo_0 (fr_a0_4) ?_
      refine fs_gfr (idx := 100) (ci := 0) (j := 0) (p := 50) (by decide +kernel) rfl (by decide +kernel) fo_60 (fr_a60_0) ?_
      refine fs_iconst (n := 0) (p := 51) (by decide +kernel) rfl kc_0 ?_
      refine fs_aload_n (k := 0) (p := 52) (by decide +kernel) rfl rfl ?_
      refine fs_gfr (idx := 13) (ci := 9) (j := 1) (p := 55) (by decide +kernel) rfl (by decide +kernel) fo_0 (fr_a0_1) ?_
      refine fs_gfr (idx := 103) (ci := 6) (j := 1) (p := 58) (by decide +kernel) rfl (by decide +kernel) fo_1 (fr_a1_1) ?_
      refine fs_iload_n (k := 1) (p := 59) (by decide +kernel) rfl rfl ?_
      refine fs_bipush (n := 9) (p := 61) (by decide +kernel) rfl kb_9 ?_
      refine fs_imul (p := 62) (by decide +kernel) rfl ?_
      refine fs_bipush (n := 9) (p := 64) (by decide +kernel) rfl kb_9 ?_
      obtain ⟨t24, w25, h⟩ := fx_bd h
      refine fs_cpy (idx := 106) (p := 67) (by decide +kernel) rfl (by decide +kernel) rfl w25 ?_
      refine fs_aload_n (k := 0) (p := 68) (by decide +kernel) rfl rfl ?_
      refine fs_gfr (idx := 13) (ci := 9) (j := 1) (p := 71) (by decide +kernel) rfl (by decide +kernel) fo_0 (fr_a0_1) ?_
      refine fs_iload_n (k := 1) (p := 72) (by decide +kernel) rfl rfl ?_
      obtain ⟨q28, w27, h⟩ := fx_bd h
      refine fs_callV (idx := 112) (mj := 66) (ci := 6) (na := 1) (mx := 4) (p := 75) (args := [.ref 1, .int x1]) (rest := []) (al2 := [some (.ref 1), some (.int x1), none, none]) (by decide +kernel) rfl (by decide +kernel) fo_1 rfl rfl rfl rfl rfl rfl rfl (by omega) (fun d' hd' => fe_66 (by omega) w27) rfl ?_
      have h := Option.some.inj h
      subst h
      exact fs_iret (by decide +kernel) rt_88
    · rw [if_neg c21] at h
      refine fs_icmp_eq_f (off := 8) (t := 39) (p := 34) (by decide +kernel) (by decide +kernel) rfl c21 ?_
      refine fs_bipush (n := -2) (p := 36) (by decide +kernel) rfl kb_m2 ?_
      refine fs_iload_n (k := 2) (p := 37) (by decide +kernel) rfl rfl ?_
      refine fs_isub (p := 38) (by decide +kernel) rfl ?_
      have h := Option.some.inj h
      subst h
      exact fs_iret (by decide +kernel) rt_88
  · rw [if_neg c17] at h
    refine fs_if_ne_f (off := 5) (t := 9) (p := 7) (by decide +kernel) (by decide +kernel) rfl c17 ?_
    refine fs_iconst (n := -1) (p := 8) (by decide +kernel) rfl kc_m1 ?_
    have h := Option.some.inj h
    subst h
    exact fs_iret (by decide +kernel) rt_88

/-! ZoneShares.people(II)I -/
theorem mx_97 : iv_mx 97 = 4 := by decide +kernel
theorem rt_97 : iv_rt 97 = some .int := by decide +kernel
def fm_97 (x1 : Int32) (x2 : Int32) (σ : fx_S) : Option (Int32 × fx_S) :=
  (fm_114 x1 σ).bind fun q22 =>
  if (fx_b q22.1) = 0 then (
    some ((-1 : Int32), q22.2)) else (
    if x2 < 0 then (
      some ((-1 : Int32), q22.2)) else (
      if x2 ≤ (10 : Int32) then (
        (fx_ldr 4 70 x1).bind fun v27 =>
        (fm_20 v27 q22.2).bind fun q32 =>
        if (8 : Int32) ≤ x2 then (
          if ¬ x2 = (8 : Int32) then (
            if ¬ x2 = (9 : Int32) then (
              (fm_66 1 x1 q32).bind fun q37 =>
              some (q37.1, q37.2)) else (
              some ((q32.1 v27 7), q32))) else (
            some ((q32.1 v27 6), q32))) else (
          (fx_ld q32 (v27 + 1) x2).bind fun v38 =>
          some (v38, q32))) else (
        some ((-1 : Int32), q22.2))))
theorem fe_97 {z : iv_Z} {d : Nat} (hd : 5 ≤ d) {x1 : Int32} {x2 : Int32} {σ : fx_S} {q : Int32 × fx_S} (h : fm_97 x1 x2 σ = some q) : fx_E z 97 d 0 [some (.ref 0), some (.int x1), some (.int x2), none] [] σ (some (.int q.1)) q.2 := by
  unfold fm_97 at h
  refine fs_iload_n (k := 1) (p := 1) (by decide +kernel) rfl rfl ?_
  obtain ⟨q22, w21, h⟩ := fx_bd h
  refine fs_callS (idx := 94) (mj := 114) (na := 1) (mx := 1) (p := 4) (args := [.int x1]) (rest := []) (al2 := [some (.int x1)]) (by decide +kernel) rfl (by decide +kernel) rfl rfl rfl rfl rfl rfl rfl (by omega) (fun d' hd' => fe_114 (by omega) w21) rfl ?_
  by_cases c23 : (fx_b q22.1) = 0
  · rw [if_pos c23] at h
    refine fs_if_eq_t (off := 13) (t := 17) (by decide +kernel) (by decide +kernel) c23 ?_
    refine fs_iconst (n := -1) (p := 18) (by decide +kernel) rfl kc_m1 ?_
    have h := Option.some.inj h
    subst h
    exact fs_iret (by decide +kernel) rt_97
  · rw [if_neg c23] at h
    refine fs_if_eq_f (off := 13) (t := 17) (p := 7) (by decide +kernel) (by decide +kernel) rfl c23 ?_
    refine fs_iload_n (k := 2) (p := 8) (by decide +kernel) rfl rfl ?_
    by_cases c25 : x2 < 0
    · rw [if_pos c25] at h
      refine fs_if_lt_t (off := 9) (t := 17) (by decide +kernel) (by decide +kernel) c25 ?_
      refine fs_iconst (n := -1) (p := 18) (by decide +kernel) rfl kc_m1 ?_
      have h := Option.some.inj h
      subst h
      exact fs_iret (by decide +kernel) rt_97
    · rw [if_neg c25] at h
      refine fs_if_lt_f (off := 9) (t := 17) (p := 11) (by decide +kernel) (by decide +kernel) rfl c25 ?_
      refine fs_iload_n (k := 2) (p := 12) (by decide +kernel) rfl rfl ?_
      refine fs_bipush (n := 10) (p := 14) (by decide +kernel) rfl kb_10 ?_
      by_cases c26 : x2 ≤ (10 : Int32)
      · rw [if_pos c26] at h
        refine fs_icmp_le_t (off := 5) (t := 19) (by decide +kernel) (by decide +kernel) c26 ?_
        refine fs_aload_n (k := 0) (p := 20) (by decide +kernel) rfl rfl ?_
        refine fs_gfr (idx := 60) (ci := 9) (j := 6) (p := 23) (by decide +kernel) rfl (by decide +kernel) fo_0 (fr_a0_6) ?_
        refine fs_iload_n (k := 1) (p := 24) (by decide +kernel) rfl rfl ?_
        obtain ⟨v27, w28, h⟩ := fx_bd h
        have g29 := fa_70 w28
        refine fs_aaload (t := 4) (p := 25) (by decide +kernel) rfl (by decide +kernel) w28 ?_
        refine fs_astore_n (k := 3) (p := 26) (M := 4) (al' := [some (.ref 0), some (.int x1), some (.int x2), some (.ref v27)]) (by decide +kernel) rfl mx_97 rfl rfl ?_
        refine fs_aload_n (k := 3) (p := 27) (by decide +kernel) rfl rfl ?_
        obtain ⟨q32, w31, h⟩ := fx_bd h
        refine fs_callV (idx := 187) (mj := 20) (ci := 2) (na := 0) (mx := 1) (p := 30) (args := [.ref v27]) (rest := []) (al2 := [some (.ref v27)]) (by decide +kernel) rfl (by decide +kernel) g29 rfl rfl rfl rfl rfl rfl rfl (by omega) (fun d' hd' => fe_20 (by omega) w31) rfl ?_
        refine fs_iload_n (k := 2) (p := 31) (by decide +kernel) rfl rfl ?_
        refine fs_bipush (n := 8) (p := 33) (by decide +kernel) rfl kb_8 ?_
        by_cases c33 : (8 : Int32) ≤ x2
        · rw [if_pos c33] at h
          refine fs_icmp_ge_t (off := 10) (t := 43) (by decide +kernel) (by decide +kernel) c33 ?_
          refine fs_iload_n (k := 2) (p := 44) (by decide +kernel) rfl rfl ?_
          refine fs_bipush (n := 8) (p := 46) (by decide +kernel) rfl kb_8 ?_
          by_cases c34 : ¬ x2 = (8 : Int32)
          · rw [if_pos c34] at h
            refine fs_icmp_ne_t (off := 8) (t := 54) (by decide +kernel) (by decide +kernel) c34 ?_
            refine fs_iload_n (k := 2) (p := 55) (by decide +kernel) rfl rfl ?_
            refine fs_bipush (n := 9) (p := 57) (by decide +kernel) rfl kb_9 ?_
            by_cases c35 : ¬ x2 = (9 : Int32)
            · rw [if_pos c35] at h
              refine fs_icmp_ne_t (off := 10) (t := 67) (by decide +kernel) (by decide +kernel) c35 ?_
              refine fs_aload_n (k := 0) (p := 68) (by decide +kernel) rfl rfl ?_
              refine fs_gfr (idx := 13) (ci := 9) (j := 1) (p := 71) (by decide +kernel) rfl (by decide +kernel) fo_0 (fr_a0_1) ?_
              refine fs_iload_n (k := 1) (p := 72) (by decide +kernel) rfl rfl ?_
              obtain ⟨q37, w36, h⟩ := fx_bd h
              refine fs_callV (idx := 112) (mj := 66) (ci := 6) (na := 1) (mx := 4) (p := 75) (args := [.ref 1, .int x1]) (rest := []) (al2 := [some (.ref 1), some (.int x1), none, none]) (by decide +kernel) rfl (by decide +kernel) fo_1 rfl rfl rfl rfl rfl rfl rfl (by omega) (fun d' hd' => fe_66 (by omega) w36) rfl ?_
              have h := Option.some.inj h
              subst h
              exact fs_iret (by decide +kernel) rt_97
            · rw [if_neg c35] at h
              refine fs_icmp_ne_f (off := 10) (t := 67) (p := 60) (by decide +kernel) (by decide +kernel) rfl c35 ?_
              refine fs_aload_n (k := 3) (p := 61) (by decide +kernel) rfl rfl ?_
              refine fs_gfi (idx := 196) (ci := 2) (j := 7) (p := 64) (by decide +kernel) rfl (by decide +kernel) g29 ?_
              refine fs_goto (off := 11) (p := 75) (by decide +kernel) (by decide +kernel) ?_
              have h := Option.some.inj h
              subst h
              exact fs_iret (by decide +kernel) rt_97
          · rw [if_neg c34] at h
            refine fs_icmp_ne_f (off := 8) (t := 54) (p := 49) (by decide +kernel) (by decide +kernel) rfl c34 ?_
            refine fs_aload_n (k := 3) (p := 50) (by decide +kernel) rfl rfl ?_
            refine fs_gfi (idx := 193) (ci := 2) (j := 6) (p := 53) (by decide +kernel) rfl (by decide +kernel) g29 ?_
            have h := Option.some.inj h
            subst h
            exact fs_iret (by decide +kernel) rt_97
        · rw [if_neg c33] at h
          refine fs_icmp_ge_f (off := 10) (t := 43) (p := 36) (by decide +kernel) (by decide +kernel) rfl c33 ?_
          refine fs_aload_n (k := 3) (p := 37) (by decide +kernel) rfl rfl ?_
          refine fs_gfr (idx := 190) (ci := 2) (j := 0) (p := 40) (by decide +kernel) rfl (by decide +kernel) g29 (fr_2_0 g29) ?_
          refine fs_iload_n (k := 2) (p := 41) (by decide +kernel) rfl rfl ?_
          obtain ⟨v38, w39, h⟩ := fx_bd h
          refine fs_iaload (p := 42) (by decide +kernel) rfl w39 ?_
          have h := Option.some.inj h
          subst h
          exact fs_iret (by decide +kernel) rt_97
      · rw [if_neg c26] at h
        refine fs_icmp_le_f (off := 5) (t := 19) (p := 17) (by decide +kernel) (by decide +kernel) rfl c26 ?_
        refine fs_iconst (n := -1) (p := 18) (by decide +kernel) rfl kc_m1 ?_
        have h := Option.some.inj h
        subst h
        exact fs_iret (by decide +kernel) rt_97

/-! ZoneShares.peopleInAll(Z)I -/
theorem mx_126 : iv_mx 126 = 5 := by decide +kernel
theorem rt_126 : iv_rt 126 = some .int := by decide +kernel
def fm_126_67 (x2 : Int32) (σ : fx_S) : Option (Int32 × fx_S) :=
  some (x2, σ)
theorem fe_126_67 {z : iv_Z} {d : Nat} (hd : 5 ≤ d) (x2 : Int32) (o0 : Option Value) (o1 : Option Value) (o3 : Option Value) (o4 : Option Value) (σ : fx_S) (q : Int32 × fx_S) (h : fm_126_67  x2 σ = some q) : fx_E z 126 d 67 [o0, o1, some (.int x2), o3, o4] [] σ (some (.int q.1)) q.2 := by
  unfold fm_126_67 at h
  refine fs_iload_n (k := 2) (p := 68) (by decide +kernel) rfl rfl ?_
  have h := Option.some.inj h
  subst h
  exact fs_iret (by decide +kernel) rt_126
def fm_126_59 (k_4 : Int32 → Int32 → Int32 → fx_S → Option (Int32 × fx_S)) (x1 : Int32) (x3 : Int32) (s0 : Int32) (s1 : Int32) (σ : fx_S) : Option (Int32 × fx_S) :=
  k_4 x1 (s0 + s1) (x3 + (1 : Int32)) σ
theorem fe_126_59 {z : iv_Z} {d : Nat} (hd : 5 ≤ d) {k_4 : Int32 → Int32 → Int32 → fx_S → Option (Int32 × fx_S)} (hk_4 : ∀ (x1 : Int32) (x2 : Int32) (x3 : Int32) (o4 : Option Value) (σ : fx_S) (q : Int32 × fx_S), k_4 x1 x2 x3 σ = some q → fx_E z 126 d 4 [some (.ref 0), some (.int x1), some (.int x2), some (.int x3), o4] [] σ (some (.int q.1)) q.2) (x1 : Int32) (x3 : Int32) (s0 : Int32) (s1 : Int32) (o2 : Option Value) (o4 : Option Value) (σ : fx_S) (q : Int32 × fx_S) (h : fm_126_59 k_4  x1 x3 s0 s1 σ = some q) : fx_E z 126 d 59 [some (.ref 0), some (.int x1), o2, some (.int x3), o4] [.int s1, .int s0] σ (some (.int q.1)) q.2 := by
  unfold fm_126_59 at h
  refine fs_iadd (p := 60) (by decide +kernel) rfl ?_
  refine fs_istore_n (k := 2) (p := 61) (M := 5) (al' := [some (.ref 0), some (.int x1), some (.int (s0 + s1)), some (.int x3), o4]) (by decide +kernel) rfl mx_126 rfl rfl ?_
  refine fs_iinc (k := 3) (n := 1) (p := 64) (M := 5) (al' := [some (.ref 0), some (.int x1), some (.int (s0 + s1)), some (.int (x3 + (1 : Int32))), o4]) (by decide +kernel) rfl kc_1 mx_126 rfl rfl rfl ?_
  refine fs_goto (off := -60) (p := 4) (by decide +kernel) (by decide +kernel) ?_
  exact hk_4 _ _ _ _ _ _ h
def fm_126_4 : Nat → Int32 → Int32 → Int32 → fx_S → Option (Int32 × fx_S)
  | 0, _, _, _, _ => none
  | n + 1, x1, x2, x3, σ =>
    if (3 : Int32) ≤ x3 then (
      fm_126_67 x2 σ) else (
      (fm_57 1 σ).bind fun q4 =>
      if (fx_b q4.1) = 0 then (
        fm_126_67 x2 q4.2) else (
        (fx_ldr 4 70 x3).bind fun v6 =>
        (fm_20 v6 q4.2).bind fun q11 =>
        if x1 = 0 then (
          fm_126_59 (fm_126_4 n) x1 x3 x2 (q11.1 v6 7) q11) else (
          (fm_66 1 x3 q11).bind fun q15 =>
          fm_126_59 (fm_126_4 n) x1 x3 x2 (q15.1 - (q15.2.1 v6 7)) q15.2)))
theorem fe_126_4 {z : iv_Z} {d : Nat} (hd : 5 ≤ d) : ∀ (n : Nat) (x1 : Int32) (x2 : Int32) (x3 : Int32) (o4 : Option Value) (σ : fx_S) (q : Int32 × fx_S), fm_126_4 n x1 x2 x3 σ = some q → fx_E z 126 d 4 [some (.ref 0), some (.int x1), some (.int x2), some (.int x3), o4] [] σ (some (.int q.1)) q.2 := by
  intro n
  induction n with
  | zero =>
    intro x1 x2 x3 o4 σ q  h
    rw [fm_126_4] at h
    exact fx_no h
  | succ n ih =>
    intro x1 x2 x3 o4 σ q  h
    rw [fm_126_4] at h
    refine fs_iload_n (k := 3) (p := 5) (by decide +kernel) rfl rfl ?_
    refine fs_iconst (n := 3) (p := 6) (by decide +kernel) rfl kc_3 ?_
    by_cases c2 : (3 : Int32) ≤ x3
    · rw [if_pos c2] at h
      refine fs_icmp_ge_t (off := 61) (t := 67) (by decide +kernel) (by decide +kernel) c2 ?_
      exact fe_126_67 hd _ _ _ _ _ _ _ h
    · rw [if_neg c2] at h
      refine fs_icmp_ge_f (off := 61) (t := 67) (p := 9) (by decide +kernel) (by decide +kernel) rfl c2 ?_
      refine fs_aload_n (k := 0) (p := 10) (by decide +kernel) rfl rfl ?_
      refine fs_gfr (idx := 13) (ci := 9) (j := 1) (p := 13) (by decide +kernel) rfl (by decide +kernel) fo_0 (fr_a0_1) ?_
      obtain ⟨q4, w3, h⟩ := fx_bd h
      refine fs_callV (idx := 146) (mj := 57) (ci := 6) (na := 0) (mx := 1) (p := 16) (args := [.ref 1]) (rest := []) (al2 := [some (.ref 1)]) (by decide +kernel) rfl (by decide +kernel) fo_1 rfl rfl rfl rfl rfl rfl rfl (by omega) (fun d' hd' => fe_57 (by omega) w3) rfl ?_
      by_cases c5 : (fx_b q4.1) = 0
      · rw [if_pos c5] at h
        refine fs_if_eq_t (off := 51) (t := 67) (by decide +kernel) (by decide +kernel) c5 ?_
        exact fe_126_67 hd _ _ _ _ _ _ _ h
      · rw [if_neg c5] at h
        refine fs_if_eq_f (off := 51) (t := 67) (p := 19) (by decide +kernel) (by decide +kernel) rfl c5 ?_
        refine fs_aload_n (k := 0) (p := 20) (by decide +kernel) rfl rfl ?_
        refine fs_gfr (idx := 60) (ci := 9) (j := 6) (p := 23) (by decide +kernel) rfl (by decide +kernel) fo_0 (fr_a0_6) ?_
        refine fs_iload_n (k := 3) (p := 24) (by decide +kernel) rfl rfl ?_
        obtain ⟨v6, w7, h⟩ := fx_bd h
        have g8 := fa_70 w7
        refine fs_aaload (t := 4) (p := 25) (by decide +kernel) rfl (by decide +kernel) w7 ?_
        refine fs_astore (k := 4) (p := 27) (M := 5) (al' := [some (.ref 0), some (.int x1), some (.int x2), some (.int x3), some (.ref v6)]) (by decide +kernel) rfl mx_126 rfl rfl ?_
        refine fs_aload (k := 4) (p := 29) (by decide +kernel) rfl rfl ?_
        obtain ⟨q11, w10, h⟩ := fx_bd h
        refine fs_callV (idx := 187) (mj := 20) (ci := 2) (na := 0) (mx := 1) (p := 32) (args := [.ref v6]) (rest := []) (al2 := [some (.ref v6)]) (by decide +kernel) rfl (by decide +kernel) g8 rfl rfl rfl rfl rfl rfl rfl (by omega) (fun d' hd' => fe_20 (by omega) w10) rfl ?_
        refine fs_iload_n (k := 2) (p := 33) (by decide +kernel) rfl rfl ?_
        refine fs_iload_n (k := 1) (p := 34) (by decide +kernel) rfl rfl ?_
        by_cases c13 : x1 = 0
        · rw [if_pos c13] at h
          refine fs_if_eq_t (off := 20) (t := 54) (by decide +kernel) (by decide +kernel) c13 ?_
          refine fs_aload (k := 4) (p := 56) (by decide +kernel) rfl rfl ?_
          refine fs_gfi (idx := 196) (ci := 2) (j := 7) (p := 59) (by decide +kernel) rfl (by decide +kernel) g8 ?_
          exact fe_126_59 hd ih _ _ _ _ _ _ _ _ h
        · rw [if_neg c13] at h
          refine fs_if_eq_f (off := 20) (t := 54) (p := 37) (by decide +kernel) (by decide +kernel) rfl c13 ?_
          refine fs_aload_n (k := 0) (p := 38) (by decide +kernel) rfl rfl ?_
          refine fs_gfr (idx := 13) (ci := 9) (j := 1) (p := 41) (by decide +kernel) rfl (by decide +kernel) fo_0 (fr_a0_1) ?_
          refine fs_iload_n (k := 3) (p := 42) (by decide +kernel) rfl rfl ?_
          obtain ⟨q15, w14, h⟩ := fx_bd h
          refine fs_callV (idx := 112) (mj := 66) (ci := 6) (na := 1) (mx := 4) (p := 45) (args := [.ref 1, .int x3]) (rest := [.int x2]) (al2 := [some (.ref 1), some (.int x3), none, none]) (by decide +kernel) rfl (by decide +kernel) fo_1 rfl rfl rfl rfl rfl rfl rfl (by omega) (fun d' hd' => fe_66 (by omega) w14) rfl ?_
          refine fs_aload (k := 4) (p := 47) (by decide +kernel) rfl rfl ?_
          refine fs_gfi (idx := 196) (ci := 2) (j := 7) (p := 50) (by decide +kernel) rfl (by decide +kernel) g8 ?_
          refine fs_isub (p := 51) (by decide +kernel) rfl ?_
          refine fs_goto (off := 8) (p := 59) (by decide +kernel) (by decide +kernel) ?_
          exact fe_126_59 hd ih _ _ _ _ _ _ _ _ h
def fm_126 (x1 : Int32) (σ : fx_S) : Option (Int32 × fx_S) :=
  fm_126_4 100000 x1 (0 : Int32) (0 : Int32) σ
theorem fe_126 {z : iv_Z} {d : Nat} (hd : 5 ≤ d) {x1 : Int32} {σ : fx_S} {q : Int32 × fx_S} (h : fm_126 x1 σ = some q) : fx_E z 126 d 0 [some (.ref 0), some (.int x1), none, none, none] [] σ (some (.int q.1)) q.2 := by
  unfold fm_126 at h
  refine fs_iconst (n := 0) (p := 1) (by decide +kernel) rfl kc_0 ?_
  refine fs_istore_n (k := 2) (p := 2) (M := 5) (al' := [some (.ref 0), some (.int x1), some (.int (0 : Int32)), none, none]) (by decide +kernel) rfl mx_126 rfl rfl ?_
  refine fs_iconst (n := 0) (p := 3) (by decide +kernel) rfl kc_0 ?_
  refine fs_istore_n (k := 3) (p := 4) (M := 5) (al' := [some (.ref 0), some (.int x1), some (.int (0 : Int32)), some (.int (0 : Int32)), none]) (by decide +kernel) rfl mx_126 rfl rfl ?_
  exact fe_126_4 hd 100000 _ _ _ _ _ _ h

/-! ZoneShares$Group.ready(I)LZoneShares$Group; -/
theorem mx_19 : iv_mx 19 = 2 := by decide +kernel
def fm_19_220 (x0 : Nat) (σ : fx_S) : Option (fx_S) :=
  some σ
theorem fe_19_220 {z : iv_Z} {d : Nat} (hd : 5 ≤ d) (x0 : Nat) (o1 : Option Value) (σ : fx_S) (q : fx_S) (g0 : fx_oc x0 2 = true) (h : fm_19_220  x0 σ = some q) : fx_E z 19 d 220 [some (.ref x0), o1] [] σ (some (.ref x0)) q := by
  unfold fm_19_220 at h
  refine fs_aload_n (k := 0) (p := 221) (by decide +kernel) rfl rfl ?_
  have h := Option.some.inj h
  subst h
  exact fs_aret (by decide +kernel) (by decide +kernel)
def fm_19_201 (x0 : Nat) (x1 : Int32) (σ : fx_S) : Option (fx_S) :=
  if ¬ x1 = (32 : Int32) then (
    fm_19_220 x0 σ) else (
    (fm_21 x0 (32 : Int32) σ).bind fun q4 =>
    if (fx_b q4.1) = 0 then (
      fm_19_220 x0 q4.2) else (
      (fm_29 x0 q4.2).bind fun q7 =>
      fm_19_220 x0 q7))
theorem fe_19_201 {z : iv_Z} {d : Nat} (hd : 5 ≤ d) (x0 : Nat) (x1 : Int32) (σ : fx_S) (q : fx_S) (g0 : fx_oc x0 2 = true) (h : fm_19_201  x0 x1 σ = some q) : fx_E z 19 d 201 [some (.ref x0), some (.int x1)] [] σ (some (.ref x0)) q := by
  unfold fm_19_201 at h
  refine fs_iload_n (k := 1) (p := 202) (by decide +kernel) rfl rfl ?_
  refine fs_bipush (n := 32) (p := 204) (by decide +kernel) rfl kb_32 ?_
  by_cases c2 : ¬ x1 = (32 : Int32)
  · rw [if_pos c2] at h
    refine fs_icmp_ne_t (off := 16) (t := 220) (by decide +kernel) (by decide +kernel) c2 ?_
    exact fe_19_220 hd _ _ _ _ g0 h
  · rw [if_neg c2] at h
    refine fs_icmp_ne_f (off := 16) (t := 220) (p := 207) (by decide +kernel) (by decide +kernel) rfl c2 ?_
    refine fs_aload_n (k := 0) (p := 208) (by decide +kernel) rfl rfl ?_
    refine fs_bipush (n := 32) (p := 210) (by decide +kernel) rfl kb_32 ?_
    obtain ⟨q4, w3, h⟩ := fx_bd h
    refine fs_callV (idx := 52) (mj := 21) (ci := 2) (na := 1) (mx := 3) (p := 213) (args := [.ref x0, .int (32 : Int32)]) (rest := []) (al2 := [some (.ref x0), some (.int (32 : Int32)), none]) (by decide +kernel) rfl (by decide +kernel) g0 rfl rfl rfl rfl rfl rfl rfl (by omega) (fun d' hd' => fe_21 (by omega) w3) rfl ?_
    by_cases c5 : (fx_b q4.1) = 0
    · rw [if_pos c5] at h
      refine fs_if_eq_t (off := 7) (t := 220) (by decide +kernel) (by decide +kernel) c5 ?_
      exact fe_19_220 hd _ _ _ _ g0 h
    · rw [if_neg c5] at h
      refine fs_if_eq_f (off := 7) (t := 220) (p := 216) (by decide +kernel) (by decide +kernel) rfl c5 ?_
      refine fs_aload_n (k := 0) (p := 217) (by decide +kernel) rfl rfl ?_
      obtain ⟨q7, w6, h⟩ := fx_bd h
      refine fs_callV (idx := 79) (mj := 29) (ci := 2) (na := 0) (mx := 8) (p := 220) (args := [.ref x0]) (rest := []) (al2 := [some (.ref x0), none, none, none, none, none, none, none]) (by decide +kernel) rfl (by decide +kernel) g0 rfl rfl rfl rfl rfl rfl rfl (by omega) (fun d' hd' => fe_29 (by omega) w6) rfl ?_
      exact fe_19_220 hd _ _ _ _ g0 h
def fm_19_198 (x0 : Nat) (x1 : Int32) (s1 : Nat) (s2 : Int32) (σ : fx_S) : Option (fx_S) :=
  (fm_41 s1 s2 σ).bind fun q2 =>
  fm_19_201 x0 x1 q2
theorem fe_19_198 {z : iv_Z} {d : Nat} (hd : 5 ≤ d) (x0 : Nat) (x1 : Int32) (s1 : Nat) (s2 : Int32) (σ : fx_S) (q : fx_S) (g0 : fx_oc x0 2 = true) (gs1 : fx_oc s1 7 = true) (h : fm_19_198  x0 x1 s1 s2 σ = some q) : fx_E z 19 d 198 [some (.ref x0), some (.int x1)] [.int s2, .ref s1, .ref 6] σ (some (.ref x0)) q := by
  unfold fm_19_198 at h
  obtain ⟨q2, w1, h⟩ := fx_bd h
  refine fs_callV (idx := 64) (mj := 41) (ci := 5) (na := 2) (mx := 4) (p := 201) (args := [.ref 6, .ref s1, .int s2]) (rest := []) (al2 := [some (.ref 6), some (.ref s1), some (.int s2), none]) (by decide +kernel) rfl (by decide +kernel) fo_6 rfl rfl rfl rfl rfl rfl rfl (by omega) (fun d' hd' => fe_41 (by omega) w1) rfl ?_
  exact fe_19_201 hd _ _ _ _ g0 h
def fm_19_155 (x0 : Nat) (x1 : Int32) (σ : fx_S) : Option (fx_S) :=
  if ¬ x1 = (16 : Int32) then (
    fm_19_201 x0 x1 σ) else (
    (fm_21 x0 (16 : Int32) σ).bind fun q4 =>
    if (fx_b q4.1) = 0 then (
      fm_19_201 x0 x1 q4.2) else (
      (fm_26 x0 q4.2).bind fun q7 =>
      if ¬ (q7.1 1 7) = (1 : Int32) then (
        fm_19_198 x0 x1 (x0 + 30) (0 : Int32) q7) else (
        fm_19_198 x0 x1 (x0 + 30) (1 : Int32) q7)))
theorem fe_19_155 {z : iv_Z} {d : Nat} (hd : 5 ≤ d) (x0 : Nat) (x1 : Int32) (σ : fx_S) (q : fx_S) (g0 : fx_oc x0 2 = true) (h : fm_19_155  x0 x1 σ = some q) : fx_E z 19 d 155 [some (.ref x0), some (.int x1)] [] σ (some (.ref x0)) q := by
  unfold fm_19_155 at h
  refine fs_iload_n (k := 1) (p := 156) (by decide +kernel) rfl rfl ?_
  refine fs_bipush (n := 16) (p := 158) (by decide +kernel) rfl kb_16 ?_
  by_cases c2 : ¬ x1 = (16 : Int32)
  · rw [if_pos c2] at h
    refine fs_icmp_ne_t (off := 43) (t := 201) (by decide +kernel) (by decide +kernel) c2 ?_
    exact fe_19_201 hd _ _ _ _ g0 h
  · rw [if_neg c2] at h
    refine fs_icmp_ne_f (off := 43) (t := 201) (p := 161) (by decide +kernel) (by decide +kernel) rfl c2 ?_
    refine fs_aload_n (k := 0) (p := 162) (by decide +kernel) rfl rfl ?_
    refine fs_bipush (n := 16) (p := 164) (by decide +kernel) rfl kb_16 ?_
    obtain ⟨q4, w3, h⟩ := fx_bd h
    refine fs_callV (idx := 52) (mj := 21) (ci := 2) (na := 1) (mx := 3) (p := 167) (args := [.ref x0, .int (16 : Int32)]) (rest := []) (al2 := [some (.ref x0), some (.int (16 : Int32)), none]) (by decide +kernel) rfl (by decide +kernel) g0 rfl rfl rfl rfl rfl rfl rfl (by omega) (fun d' hd' => fe_21 (by omega) w3) rfl ?_
    by_cases c5 : (fx_b q4.1) = 0
    · rw [if_pos c5] at h
      refine fs_if_eq_t (off := 34) (t := 201) (by decide +kernel) (by decide +kernel) c5 ?_
      exact fe_19_201 hd _ _ _ _ g0 h
    · rw [if_neg c5] at h
      refine fs_if_eq_f (off := 34) (t := 201) (p := 170) (by decide +kernel) (by decide +kernel) rfl c5 ?_
      refine fs_aload_n (k := 0) (p := 171) (by decide +kernel) rfl rfl ?_
      obtain ⟨q7, w6, h⟩ := fx_bd h
      refine fs_callV (idx := 76) (mj := 26) (ci := 2) (na := 0) (mx := 4) (p := 174) (args := [.ref x0]) (rest := []) (al2 := [some (.ref x0), none, none, none]) (by decide +kernel) rfl (by decide +kernel) g0 rfl rfl rfl rfl rfl rfl rfl (by omega) (fun d' hd' => fe_26 (by omega) w6) rfl ?_
      refine fs_aload_n (k := 0) (p := 175) (by decide +kernel) rfl rfl ?_
      refine fs_gfr (idx := 45) (ci := 2) (j := 11) (p := 178) (by decide +kernel) rfl (by decide +kernel) g0 (fr_2_11 g0) ?_
      refine fs_aload_n (k := 0) (p := 179) (by decide +kernel) rfl rfl ?_
      refine fs_gfr (idx := 31) (ci := 2) (j := 5) (p := 182) (by decide +kernel) rfl (by decide +kernel) g0 (fr_2_5 g0) ?_
      refine fs_aload_n (k := 0) (p := 183) (by decide +kernel) rfl rfl ?_
      refine fs_gfr (idx := 41) (ci := 2) (j := 10) (p := 186) (by decide +kernel) rfl (by decide +kernel) g0 (fr_2_10 g0) ?_
      refine fs_gfi (idx := 59) (ci := 6) (j := 7) (p := 189) (by decide +kernel) rfl (by decide +kernel) fo_1 ?_
      refine fs_iconst (n := 1) (p := 190) (by decide +kernel) rfl kc_1 ?_
      by_cases c9 : ¬ (q7.1 1 7) = (1 : Int32)
      · rw [if_pos c9] at h
        refine fs_icmp_ne_t (off := 7) (t := 197) (by decide +kernel) (by decide +kernel) c9 ?_
        refine fs_iconst (n := 0) (p := 198) (by decide +kernel) rfl kc_0 ?_
        exact fe_19_198 hd _ _ _ _ _ _ g0 (fg_2_5 g0) h
      · rw [if_neg c9] at h
        refine fs_icmp_ne_f (off := 7) (t := 197) (p := 193) (by decide +kernel) (by decide +kernel) rfl c9 ?_
        refine fs_iconst (n := 1) (p := 194) (by decide +kernel) rfl kc_1 ?_
        refine fs_goto (off := 4) (p := 198) (by decide +kernel) (by decide +kernel) ?_
        exact fe_19_198 hd _ _ _ _ _ _ g0 (fg_2_5 g0) h
def fm_19_152 (x0 : Nat) (x1 : Int32) (s1 : Nat) (s2 : Int32) (σ : fx_S) : Option (fx_S) :=
  (fm_41 s1 s2 σ).bind fun q2 =>
  fm_19_155 x0 x1 q2
theorem fe_19_152 {z : iv_Z} {d : Nat} (hd : 5 ≤ d) (x0 : Nat) (x1 : Int32) (s1 : Nat) (s2 : Int32) (σ : fx_S) (q : fx_S) (g0 : fx_oc x0 2 = true) (gs1 : fx_oc s1 7 = true) (h : fm_19_152  x0 x1 s1 s2 σ = some q) : fx_E z 19 d 152 [some (.ref x0), some (.int x1)] [.int s2, .ref s1, .ref 6] σ (some (.ref x0)) q := by
  unfold fm_19_152 at h
  obtain ⟨q2, w1, h⟩ := fx_bd h
  refine fs_callV (idx := 64) (mj := 41) (ci := 5) (na := 2) (mx := 4) (p := 155) (args := [.ref 6, .ref s1, .int s2]) (rest := []) (al2 := [some (.ref 6), some (.ref s1), some (.int s2), none]) (by decide +kernel) rfl (by decide +kernel) fo_6 rfl rfl rfl rfl rfl rfl rfl (by omega) (fun d' hd' => fe_41 (by omega) w1) rfl ?_
  exact fe_19_155 hd _ _ _ _ g0 h
def fm_19_115 (x0 : Nat) (x1 : Int32) (σ : fx_S) : Option (fx_S) :=
  (fm_21 x0 (8 : Int32) σ).bind fun q2 =>
  if (fx_b q2.1) = 0 then (
    fm_19_155 x0 x1 q2.2) else (
    (fm_25 x0 q2.2).bind fun q5 =>
    if ¬ (q5.1 1 7) = (1 : Int32) then (
      fm_19_152 x0 x1 (x0 + 21) (0 : Int32) q5) else (
      fm_19_152 x0 x1 (x0 + 21) (1 : Int32) q5))
theorem fe_19_115 {z : iv_Z} {d : Nat} (hd : 5 ≤ d) (x0 : Nat) (x1 : Int32) (σ : fx_S) (q : fx_S) (g0 : fx_oc x0 2 = true) (h : fm_19_115  x0 x1 σ = some q) : fx_E z 19 d 115 [some (.ref x0), some (.int x1)] [] σ (some (.ref x0)) q := by
  unfold fm_19_115 at h
  refine fs_aload_n (k := 0) (p := 116) (by decide +kernel) rfl rfl ?_
  refine fs_bipush (n := 8) (p := 118) (by decide +kernel) rfl kb_8 ?_
  obtain ⟨q2, w1, h⟩ := fx_bd h
  refine fs_callV (idx := 52) (mj := 21) (ci := 2) (na := 1) (mx := 3) (p := 121) (args := [.ref x0, .int (8 : Int32)]) (rest := []) (al2 := [some (.ref x0), some (.int (8 : Int32)), none]) (by decide +kernel) rfl (by decide +kernel) g0 rfl rfl rfl rfl rfl rfl rfl (by omega) (fun d' hd' => fe_21 (by omega) w1) rfl ?_
  by_cases c3 : (fx_b q2.1) = 0
  · rw [if_pos c3] at h
    refine fs_if_eq_t (off := 34) (t := 155) (by decide +kernel) (by decide +kernel) c3 ?_
    exact fe_19_155 hd _ _ _ _ g0 h
  · rw [if_neg c3] at h
    refine fs_if_eq_f (off := 34) (t := 155) (p := 124) (by decide +kernel) (by decide +kernel) rfl c3 ?_
    refine fs_aload_n (k := 0) (p := 125) (by decide +kernel) rfl rfl ?_
    obtain ⟨q5, w4, h⟩ := fx_bd h
    refine fs_callV (idx := 73) (mj := 25) (ci := 2) (na := 0) (mx := 6) (p := 128) (args := [.ref x0]) (rest := []) (al2 := [some (.ref x0), none, none, none, none, none]) (by decide +kernel) rfl (by decide +kernel) g0 rfl rfl rfl rfl rfl rfl rfl (by omega) (fun d' hd' => fe_25 (by omega) w4) rfl ?_
    refine fs_aload_n (k := 0) (p := 129) (by decide +kernel) rfl rfl ?_
    refine fs_gfr (idx := 45) (ci := 2) (j := 11) (p := 132) (by decide +kernel) rfl (by decide +kernel) g0 (fr_2_11 g0) ?_
    refine fs_aload_n (k := 0) (p := 133) (by decide +kernel) rfl rfl ?_
    refine fs_gfr (idx := 28) (ci := 2) (j := 4) (p := 136) (by decide +kernel) rfl (by decide +kernel) g0 (fr_2_4 g0) ?_
    refine fs_aload_n (k := 0) (p := 137) (by decide +kernel) rfl rfl ?_
    refine fs_gfr (idx := 41) (ci := 2) (j := 10) (p := 140) (by decide +kernel) rfl (by decide +kernel) g0 (fr_2_10 g0) ?_
    refine fs_gfi (idx := 59) (ci := 6) (j := 7) (p := 143) (by decide +kernel) rfl (by decide +kernel) fo_1 ?_
    refine fs_iconst (n := 1) (p := 144) (by decide +kernel) rfl kc_1 ?_
    by_cases c7 : ¬ (q5.1 1 7) = (1 : Int32)
    · rw [if_pos c7] at h
      refine fs_icmp_ne_t (off := 7) (t := 151) (by decide +kernel) (by decide +kernel) c7 ?_
      refine fs_iconst (n := 0) (p := 152) (by decide +kernel) rfl kc_0 ?_
      exact fe_19_152 hd _ _ _ _ _ _ g0 (fg_2_4 g0) h
    · rw [if_neg c7] at h
      refine fs_icmp_ne_f (off := 7) (t := 151) (p := 147) (by decide +kernel) (by decide +kernel) rfl c7 ?_
      refine fs_iconst (n := 1) (p := 148) (by decide +kernel) rfl kc_1 ?_
      refine fs_goto (off := 4) (p := 152) (by decide +kernel) (by decide +kernel) ?_
      exact fe_19_152 hd _ _ _ _ _ _ g0 (fg_2_4 g0) h
def fm_19_103 (x0 : Nat) (x1 : Int32) (σ : fx_S) : Option (fx_S) :=
  if x1 = (8 : Int32) then (
    fm_19_115 x0 x1 σ) else (
    if ¬ x1 = (16 : Int32) then (
      fm_19_155 x0 x1 σ) else (
      fm_19_115 x0 x1 σ))
theorem fe_19_103 {z : iv_Z} {d : Nat} (hd : 5 ≤ d) (x0 : Nat) (x1 : Int32) (σ : fx_S) (q : fx_S) (g0 : fx_oc x0 2 = true) (h : fm_19_103  x0 x1 σ = some q) : fx_E z 19 d 103 [some (.ref x0), some (.int x1)] [] σ (some (.ref x0)) q := by
  unfold fm_19_103 at h
  refine fs_iload_n (k := 1) (p := 104) (by decide +kernel) rfl rfl ?_
  refine fs_bipush (n := 8) (p := 106) (by decide +kernel) rfl kb_8 ?_
  by_cases c2 : x1 = (8 : Int32)
  · rw [if_pos c2] at h
    refine fs_icmp_eq_t (off := 9) (t := 115) (by decide +kernel) (by decide +kernel) c2 ?_
    exact fe_19_115 hd _ _ _ _ g0 h
  · rw [if_neg c2] at h
    refine fs_icmp_eq_f (off := 9) (t := 115) (p := 109) (by decide +kernel) (by decide +kernel) rfl c2 ?_
    refine fs_iload_n (k := 1) (p := 110) (by decide +kernel) rfl rfl ?_
    refine fs_bipush (n := 16) (p := 112) (by decide +kernel) rfl kb_16 ?_
    by_cases c3 : ¬ x1 = (16 : Int32)
    · rw [if_pos c3] at h
      refine fs_icmp_ne_t (off := 43) (t := 155) (by decide +kernel) (by decide +kernel) c3 ?_
      exact fe_19_155 hd _ _ _ _ g0 h
    · rw [if_neg c3] at h
      refine fs_icmp_ne_f (off := 43) (t := 155) (p := 115) (by decide +kernel) (by decide +kernel) rfl c3 ?_
      exact fe_19_115 hd _ _ _ _ g0 h
def fm_19_100 (x0 : Nat) (x1 : Int32) (s1 : Nat) (s2 : Int32) (σ : fx_S) : Option (fx_S) :=
  (fm_41 s1 s2 σ).bind fun q2 =>
  fm_19_103 x0 x1 q2
theorem fe_19_100 {z : iv_Z} {d : Nat} (hd : 5 ≤ d) (x0 : Nat) (x1 : Int32) (s1 : Nat) (s2 : Int32) (σ : fx_S) (q : fx_S) (g0 : fx_oc x0 2 = true) (gs1 : fx_oc s1 7 = true) (h : fm_19_100  x0 x1 s1 s2 σ = some q) : fx_E z 19 d 100 [some (.ref x0), some (.int x1)] [.int s2, .ref s1, .ref 6] σ (some (.ref x0)) q := by
  unfold fm_19_100 at h
  obtain ⟨q2, w1, h⟩ := fx_bd h
  refine fs_callV (idx := 64) (mj := 41) (ci := 5) (na := 2) (mx := 4) (p := 103) (args := [.ref 6, .ref s1, .int s2]) (rest := []) (al2 := [some (.ref 6), some (.ref s1), some (.int s2), none]) (by decide +kernel) rfl (by decide +kernel) fo_6 rfl rfl rfl rfl rfl rfl rfl (by omega) (fun d' hd' => fe_41 (by omega) w1) rfl ?_
  exact fe_19_103 hd _ _ _ _ g0 h
def fm_19_59 (x0 : Nat) (x1 : Int32) (σ : fx_S) : Option (fx_S) :=
  if ¬ x1 = (4 : Int32) then (
    fm_19_103 x0 x1 σ) else (
    (fm_21 x0 (4 : Int32) σ).bind fun q4 =>
    if (fx_b q4.1) = 0 then (
      fm_19_103 x0 x1 q4.2) else (
      (fm_24 x0 q4.2).bind fun q7 =>
      if ¬ (q7.1 1 7) = (1 : Int32) then (
        fm_19_100 x0 x1 (x0 + 12) (0 : Int32) q7) else (
        fm_19_100 x0 x1 (x0 + 12) (1 : Int32) q7)))
theorem fe_19_59 {z : iv_Z} {d : Nat} (hd : 5 ≤ d) (x0 : Nat) (x1 : Int32) (σ : fx_S) (q : fx_S) (g0 : fx_oc x0 2 = true) (h : fm_19_59  x0 x1 σ = some q) : fx_E z 19 d 59 [some (.ref x0), some (.int x1)] [] σ (some (.ref x0)) q := by
  unfold fm_19_59 at h
  refine fs_iload_n (k := 1) (p := 60) (by decide +kernel) rfl rfl ?_
  refine fs_iconst (n := 4) (p := 61) (by decide +kernel) rfl kc_4 ?_
  by_cases c2 : ¬ x1 = (4 : Int32)
  · rw [if_pos c2] at h
    refine fs_icmp_ne_t (off := 42) (t := 103) (by decide +kernel) (by decide +kernel) c2 ?_
    exact fe_19_103 hd _ _ _ _ g0 h
  · rw [if_neg c2] at h
    refine fs_icmp_ne_f (off := 42) (t := 103) (p := 64) (by decide +kernel) (by decide +kernel) rfl c2 ?_
    refine fs_aload_n (k := 0) (p := 65) (by decide +kernel) rfl rfl ?_
    refine fs_iconst (n := 4) (p := 66) (by decide +kernel) rfl kc_4 ?_
    obtain ⟨q4, w3, h⟩ := fx_bd h
    refine fs_callV (idx := 52) (mj := 21) (ci := 2) (na := 1) (mx := 3) (p := 69) (args := [.ref x0, .int (4 : Int32)]) (rest := []) (al2 := [some (.ref x0), some (.int (4 : Int32)), none]) (by decide +kernel) rfl (by decide +kernel) g0 rfl rfl rfl rfl rfl rfl rfl (by omega) (fun d' hd' => fe_21 (by omega) w3) rfl ?_
    by_cases c5 : (fx_b q4.1) = 0
    · rw [if_pos c5] at h
      refine fs_if_eq_t (off := 34) (t := 103) (by decide +kernel) (by decide +kernel) c5 ?_
      exact fe_19_103 hd _ _ _ _ g0 h
    · rw [if_neg c5] at h
      refine fs_if_eq_f (off := 34) (t := 103) (p := 72) (by decide +kernel) (by decide +kernel) rfl c5 ?_
      refine fs_aload_n (k := 0) (p := 73) (by decide +kernel) rfl rfl ?_
      obtain ⟨q7, w6, h⟩ := fx_bd h
      refine fs_callV (idx := 70) (mj := 24) (ci := 2) (na := 0) (mx := 4) (p := 76) (args := [.ref x0]) (rest := []) (al2 := [some (.ref x0), none, none, none]) (by decide +kernel) rfl (by decide +kernel) g0 rfl rfl rfl rfl rfl rfl rfl (by omega) (fun d' hd' => fe_24 (by omega) w6) rfl ?_
      refine fs_aload_n (k := 0) (p := 77) (by decide +kernel) rfl rfl ?_
      refine fs_gfr (idx := 45) (ci := 2) (j := 11) (p := 80) (by decide +kernel) rfl (by decide +kernel) g0 (fr_2_11 g0) ?_
      refine fs_aload_n (k := 0) (p := 81) (by decide +kernel) rfl rfl ?_
      refine fs_gfr (idx := 25) (ci := 2) (j := 3) (p := 84) (by decide +kernel) rfl (by decide +kernel) g0 (fr_2_3 g0) ?_
      refine fs_aload_n (k := 0) (p := 85) (by decide +kernel) rfl rfl ?_
      refine fs_gfr (idx := 41) (ci := 2) (j := 10) (p := 88) (by decide +kernel) rfl (by decide +kernel) g0 (fr_2_10 g0) ?_
      refine fs_gfi (idx := 59) (ci := 6) (j := 7) (p := 91) (by decide +kernel) rfl (by decide +kernel) fo_1 ?_
      refine fs_iconst (n := 1) (p := 92) (by decide +kernel) rfl kc_1 ?_
      by_cases c9 : ¬ (q7.1 1 7) = (1 : Int32)
      · rw [if_pos c9] at h
        refine fs_icmp_ne_t (off := 7) (t := 99) (by decide +kernel) (by decide +kernel) c9 ?_
        refine fs_iconst (n := 0) (p := 100) (by decide +kernel) rfl kc_0 ?_
        exact fe_19_100 hd _ _ _ _ _ _ g0 (fg_2_3 g0) h
      · rw [if_neg c9] at h
        refine fs_icmp_ne_f (off := 7) (t := 99) (p := 95) (by decide +kernel) (by decide +kernel) rfl c9 ?_
        refine fs_iconst (n := 1) (p := 96) (by decide +kernel) rfl kc_1 ?_
        refine fs_goto (off := 4) (p := 100) (by decide +kernel) (by decide +kernel) ?_
        exact fe_19_100 hd _ _ _ _ _ _ g0 (fg_2_3 g0) h
def fm_19_56 (x0 : Nat) (x1 : Int32) (s1 : Nat) (s2 : Int32) (σ : fx_S) : Option (fx_S) :=
  (fm_41 s1 s2 σ).bind fun q2 =>
  fm_19_59 x0 x1 q2
theorem fe_19_56 {z : iv_Z} {d : Nat} (hd : 5 ≤ d) (x0 : Nat) (x1 : Int32) (s1 : Nat) (s2 : Int32) (σ : fx_S) (q : fx_S) (g0 : fx_oc x0 2 = true) (gs1 : fx_oc s1 7 = true) (h : fm_19_56  x0 x1 s1 s2 σ = some q) : fx_E z 19 d 56 [some (.ref x0), some (.int x1)] [.int s2, .ref s1, .ref 6] σ (some (.ref x0)) q := by
  unfold fm_19_56 at h
  obtain ⟨q2, w1, h⟩ := fx_bd h
  refine fs_callV (idx := 64) (mj := 41) (ci := 5) (na := 2) (mx := 4) (p := 59) (args := [.ref 6, .ref s1, .int s2]) (rest := []) (al2 := [some (.ref 6), some (.ref s1), some (.int s2), none]) (by decide +kernel) rfl (by decide +kernel) fo_6 rfl rfl rfl rfl rfl rfl rfl (by omega) (fun d' hd' => fe_41 (by omega) w1) rfl ?_
  exact fe_19_59 hd _ _ _ _ g0 h
def fm_19_20 (x0 : Nat) (x1 : Int32) (σ : fx_S) : Option (fx_S) :=
  (fm_21 x0 (2 : Int32) σ).bind fun q2 =>
  if (fx_b q2.1) = 0 then (
    fm_19_59 x0 x1 q2.2) else (
    (fm_23 x0 q2.2).bind fun q5 =>
    if ¬ (q5.1 1 7) = (1 : Int32) then (
      fm_19_56 x0 x1 (x0 + 3) (0 : Int32) q5) else (
      fm_19_56 x0 x1 (x0 + 3) (1 : Int32) q5))
theorem fe_19_20 {z : iv_Z} {d : Nat} (hd : 5 ≤ d) (x0 : Nat) (x1 : Int32) (σ : fx_S) (q : fx_S) (g0 : fx_oc x0 2 = true) (h : fm_19_20  x0 x1 σ = some q) : fx_E z 19 d 20 [some (.ref x0), some (.int x1)] [] σ (some (.ref x0)) q := by
  unfold fm_19_20 at h
  refine fs_aload_n (k := 0) (p := 21) (by decide +kernel) rfl rfl ?_
  refine fs_iconst (n := 2) (p := 22) (by decide +kernel) rfl kc_2 ?_
  obtain ⟨q2, w1, h⟩ := fx_bd h
  refine fs_callV (idx := 52) (mj := 21) (ci := 2) (na := 1) (mx := 3) (p := 25) (args := [.ref x0, .int (2 : Int32)]) (rest := []) (al2 := [some (.ref x0), some (.int (2 : Int32)), none]) (by decide +kernel) rfl (by decide +kernel) g0 rfl rfl rfl rfl rfl rfl rfl (by omega) (fun d' hd' => fe_21 (by omega) w1) rfl ?_
  by_cases c3 : (fx_b q2.1) = 0
  · rw [if_pos c3] at h
    refine fs_if_eq_t (off := 34) (t := 59) (by decide +kernel) (by decide +kernel) c3 ?_
    exact fe_19_59 hd _ _ _ _ g0 h
  · rw [if_neg c3] at h
    refine fs_if_eq_f (off := 34) (t := 59) (p := 28) (by decide +kernel) (by decide +kernel) rfl c3 ?_
    refine fs_aload_n (k := 0) (p := 29) (by decide +kernel) rfl rfl ?_
    obtain ⟨q5, w4, h⟩ := fx_bd h
    refine fs_callV (idx := 56) (mj := 23) (ci := 2) (na := 0) (mx := 4) (p := 32) (args := [.ref x0]) (rest := []) (al2 := [some (.ref x0), none, none, none]) (by decide +kernel) rfl (by decide +kernel) g0 rfl rfl rfl rfl rfl rfl rfl (by omega) (fun d' hd' => fe_23 (by omega) w4) rfl ?_
    refine fs_aload_n (k := 0) (p := 33) (by decide +kernel) rfl rfl ?_
    refine fs_gfr (idx := 45) (ci := 2) (j := 11) (p := 36) (by decide +kernel) rfl (by decide +kernel) g0 (fr_2_11 g0) ?_
    refine fs_aload_n (k := 0) (p := 37) (by decide +kernel) rfl rfl ?_
    refine fs_gfr (idx := 21) (ci := 2) (j := 2) (p := 40) (by decide +kernel) rfl (by decide +kernel) g0 (fr_2_2 g0) ?_
    refine fs_aload_n (k := 0) (p := 41) (by decide +kernel) rfl rfl ?_
    refine fs_gfr (idx := 41) (ci := 2) (j := 10) (p := 44) (by decide +kernel) rfl (by decide +kernel) g0 (fr_2_10 g0) ?_
    refine fs_gfi (idx := 59) (ci := 6) (j := 7) (p := 47) (by decide +kernel) rfl (by decide +kernel) fo_1 ?_
    refine fs_iconst (n := 1) (p := 48) (by decide +kernel) rfl kc_1 ?_
    by_cases c7 : ¬ (q5.1 1 7) = (1 : Int32)
    · rw [if_pos c7] at h
      refine fs_icmp_ne_t (off := 7) (t := 55) (by decide +kernel) (by decide +kernel) c7 ?_
      refine fs_iconst (n := 0) (p := 56) (by decide +kernel) rfl kc_0 ?_
      exact fe_19_56 hd _ _ _ _ _ _ g0 (fg_2_2 g0) h
    · rw [if_neg c7] at h
      refine fs_icmp_ne_f (off := 7) (t := 55) (p := 51) (by decide +kernel) (by decide +kernel) rfl c7 ?_
      refine fs_iconst (n := 1) (p := 52) (by decide +kernel) rfl kc_1 ?_
      refine fs_goto (off := 4) (p := 56) (by decide +kernel) (by decide +kernel) ?_
      exact fe_19_56 hd _ _ _ _ _ _ g0 (fg_2_2 g0) h
def fm_19 (x0 : Nat) (x1 : Int32) (σ : fx_S) : Option (fx_S) :=
  if fx_oc x0 2 = true then (
  (fm_20 x0 σ).bind fun q58 =>
  if x1 = (2 : Int32) then (
    fm_19_20 x0 x1 q58) else (
    if x1 = (4 : Int32) then (
      fm_19_20 x0 x1 q58) else (
      if ¬ x1 = (32 : Int32) then (
        fm_19_59 x0 x1 q58) else (
        fm_19_20 x0 x1 q58)))) else none
theorem fe_19 {z : iv_Z} {d : Nat} (hd : 5 ≤ d) {x0 : Nat} {x1 : Int32} {σ : fx_S} {q : fx_S} (h : fm_19 x0 x1 σ = some q) : fx_E z 19 d 0 [some (.ref x0), some (.int x1)] [] σ (some (.ref x0)) q := by
  unfold fm_19 at h
  obtain ⟨g0, h⟩ := fx_gd h
  refine fs_aload_n (k := 0) (p := 1) (by decide +kernel) rfl rfl ?_
  obtain ⟨q58, w57, h⟩ := fx_bd h
  refine fs_callV (idx := 49) (mj := 20) (ci := 2) (na := 0) (mx := 1) (p := 4) (args := [.ref x0]) (rest := []) (al2 := [some (.ref x0)]) (by decide +kernel) rfl (by decide +kernel) g0 rfl rfl rfl rfl rfl rfl rfl (by omega) (fun d' hd' => fe_20 (by omega) w57) rfl ?_
  refine fs_iload_n (k := 1) (p := 5) (by decide +kernel) rfl rfl ?_
  refine fs_iconst (n := 2) (p := 6) (by decide +kernel) rfl kc_2 ?_
  by_cases c60 : x1 = (2 : Int32)
  · rw [if_pos c60] at h
    refine fs_icmp_eq_t (off := 14) (t := 20) (by decide +kernel) (by decide +kernel) c60 ?_
    exact fe_19_20 hd _ _ _ _ g0 h
  · rw [if_neg c60] at h
    refine fs_icmp_eq_f (off := 14) (t := 20) (p := 9) (by decide +kernel) (by decide +kernel) rfl c60 ?_
    refine fs_iload_n (k := 1) (p := 10) (by decide +kernel) rfl rfl ?_
    refine fs_iconst (n := 4) (p := 11) (by decide +kernel) rfl kc_4 ?_
    by_cases c61 : x1 = (4 : Int32)
    · rw [if_pos c61] at h
      refine fs_icmp_eq_t (off := 9) (t := 20) (by decide +kernel) (by decide +kernel) c61 ?_
      exact fe_19_20 hd _ _ _ _ g0 h
    · rw [if_neg c61] at h
      refine fs_icmp_eq_f (off := 9) (t := 20) (p := 14) (by decide +kernel) (by decide +kernel) rfl c61 ?_
      refine fs_iload_n (k := 1) (p := 15) (by decide +kernel) rfl rfl ?_
      refine fs_bipush (n := 32) (p := 17) (by decide +kernel) rfl kb_32 ?_
      by_cases c62 : ¬ x1 = (32 : Int32)
      · rw [if_pos c62] at h
        refine fs_icmp_ne_t (off := 42) (t := 59) (by decide +kernel) (by decide +kernel) c62 ?_
        exact fe_19_59 hd _ _ _ _ g0 h
      · rw [if_neg c62] at h
        refine fs_icmp_ne_f (off := 42) (t := 59) (p := 20) (by decide +kernel) (by decide +kernel) rfl c62 ?_
        exact fe_19_20 hd _ _ _ _ g0 h

/-! ZoneShares.adopt()I -/
theorem mx_93 : iv_mx 93 = 3 := by decide +kernel
theorem rt_93 : iv_rt 93 = some .int := by decide +kernel
def fm_93_44 : Nat → Int32 → Int32 → fx_S → Option (Int32 × fx_S)
  | 0, _, _, _ => none
  | n + 1, x1, x2, σ =>
    if (3 : Int32) ≤ x2 then (
      (fx_cpy σ 2 (96 : Int32) 2 (0 : Int32) (96 : Int32)).bind fun t3 =>
      some (x1, t3)) else (
      (fm_122 x2 σ).bind fun q6 =>
      fm_93_44 n (x1 + q6.1) (x2 + (1 : Int32)) q6.2)
theorem fe_93_44 {z : iv_Z} {d : Nat} (hd : 6 ≤ d) : ∀ (n : Nat) (x1 : Int32) (x2 : Int32) (σ : fx_S) (q : Int32 × fx_S), fm_93_44 n x1 x2 σ = some q → fx_E z 93 d 44 [some (.ref 0), some (.int x1), some (.int x2)] [] σ (some (.int q.1)) q.2 := by
  intro n
  induction n with
  | zero =>
    intro x1 x2 σ q  h
    rw [fm_93_44] at h
    exact fx_no h
  | succ n ih =>
    intro x1 x2 σ q  h
    rw [fm_93_44] at h
    refine fs_iload_n (k := 2) (p := 45) (by decide +kernel) rfl rfl ?_
    refine fs_iconst (n := 3) (p := 46) (by decide +kernel) rfl kc_3 ?_
    by_cases c2 : (3 : Int32) ≤ x2
    · rw [if_pos c2] at h
      refine fs_icmp_ge_t (off := 17) (t := 63) (by decide +kernel) (by decide +kernel) c2 ?_
      refine fs_aload_n (k := 0) (p := 64) (by decide +kernel) rfl rfl ?_
      refine fs_gfr (idx := 13) (ci := 9) (j := 1) (p := 67) (by decide +kernel) rfl (by decide +kernel) fo_0 (fr_a0_1) ?_
      refine fs_gfr (idx := 157) (ci := 6) (j := 0) (p := 70) (by decide +kernel) rfl (by decide +kernel) fo_1 (fr_a1_0) ?_
      refine fs_bipush (n := 96) (p := 72) (by decide +kernel) rfl kb_96 ?_
      refine fs_aload_n (k := 0) (p := 73) (by decide +kernel) rfl rfl ?_
      refine fs_gfr (idx := 13) (ci := 9) (j := 1) (p := 76) (by decide +kernel) rfl (by decide +kernel) fo_0 (fr_a0_1) ?_
      refine fs_gfr (idx := 157) (ci := 6) (j := 0) (p := 79) (by decide +kernel) rfl (by decide +kernel) fo_1 (fr_a1_0) ?_
      refine fs_iconst (n := 0) (p := 80) (by decide +kernel) rfl kc_0 ?_
      refine fs_bipush (n := 96) (p := 82) (by decide +kernel) rfl kb_96 ?_
      obtain ⟨t3, w4, h⟩ := fx_bd h
      refine fs_cpy (idx := 106) (p := 85) (by decide +kernel) rfl (by decide +kernel) rfl w4 ?_
      refine fs_iload_n (k := 1) (p := 86) (by decide +kernel) rfl rfl ?_
      have h := Option.some.inj h
      subst h
      exact fs_iret (by decide +kernel) rt_93
    · rw [if_neg c2] at h
      refine fs_icmp_ge_f (off := 17) (t := 63) (p := 49) (by decide +kernel) (by decide +kernel) rfl c2 ?_
      refine fs_iload_n (k := 1) (p := 50) (by decide +kernel) rfl rfl ?_
      refine fs_aload_n (k := 0) (p := 51) (by decide +kernel) rfl rfl ?_
      refine fs_iload_n (k := 2) (p := 52) (by decide +kernel) rfl rfl ?_
      obtain ⟨q6, w5, h⟩ := fx_bd h
      refine fs_callV (idx := 154) (mj := 122) (ci := 9) (na := 1) (mx := 6) (p := 55) (args := [.ref 0, .int x2]) (rest := [.int x1]) (al2 := [some (.ref 0), some (.int x2), none, none, none, none]) (by decide +kernel) rfl (by decide +kernel) fo_0 rfl rfl rfl rfl rfl rfl rfl (by omega) (fun d' hd' => fe_122 (by omega) w5) rfl ?_
      refine fs_iadd (p := 56) (by decide +kernel) rfl ?_
      refine fs_istore_n (k := 1) (p := 57) (M := 3) (al' := [some (.ref 0), some (.int (x1 + q6.1)), some (.int x2)]) (by decide +kernel) rfl mx_93 rfl rfl ?_
      refine fs_iinc (k := 2) (n := 1) (p := 60) (M := 3) (al' := [some (.ref 0), some (.int (x1 + q6.1)), some (.int (x2 + (1 : Int32)))]) (by decide +kernel) rfl kc_1 mx_93 rfl rfl rfl ?_
      refine fs_goto (off := -16) (p := 44) (by decide +kernel) (by decide +kernel) ?_
      exact ih _ _ _ _ h
def fm_93_14 : Nat → Int32 → fx_S → Option (Int32 × fx_S)
  | 0, _, _ => none
  | n + 1, x1, σ =>
    if (3 : Int32) ≤ x1 then (
      (fm_119 σ).bind fun q4 =>
      fm_93_44 100000 (0 : Int32) (0 : Int32) q4) else (
      (fx_ldr 4 70 x1).bind fun v5 =>
      (fm_19 v5 (2 : Int32) σ).bind fun q10 =>
      fm_93_14 n (x1 + (1 : Int32)) q10)
theorem fe_93_14 {z : iv_Z} {d : Nat} (hd : 6 ≤ d) : ∀ (n : Nat) (x1 : Int32) (σ : fx_S) (q : Int32 × fx_S), fm_93_14 n x1 σ = some q → fx_E z 93 d 14 [some (.ref 0), some (.int x1), none] [] σ (some (.int q.1)) q.2 := by
  intro n
  induction n with
  | zero =>
    intro x1 σ q  h
    rw [fm_93_14] at h
    exact fx_no h
  | succ n ih =>
    intro x1 σ q  h
    rw [fm_93_14] at h
    refine fs_iload_n (k := 1) (p := 15) (by decide +kernel) rfl rfl ?_
    refine fs_iconst (n := 3) (p := 16) (by decide +kernel) rfl kc_3 ?_
    by_cases c2 : (3 : Int32) ≤ x1
    · rw [if_pos c2] at h
      refine fs_icmp_ge_t (off := 20) (t := 36) (by decide +kernel) (by decide +kernel) c2 ?_
      refine fs_aload_n (k := 0) (p := 37) (by decide +kernel) rfl rfl ?_
      obtain ⟨q4, w3, h⟩ := fx_bd h
      refine fs_callV (idx := 83) (mj := 119) (ci := 9) (na := 0) (mx := 1) (p := 40) (args := [.ref 0]) (rest := []) (al2 := [some (.ref 0)]) (by decide +kernel) rfl (by decide +kernel) fo_0 rfl rfl rfl rfl rfl rfl rfl (by omega) (fun d' hd' => fe_119 (by omega) w3) rfl ?_
      refine fs_iconst (n := 0) (p := 41) (by decide +kernel) rfl kc_0 ?_
      refine fs_istore_n (k := 1) (p := 42) (M := 3) (al' := [some (.ref 0), some (.int (0 : Int32)), none]) (by decide +kernel) rfl mx_93 rfl rfl ?_
      refine fs_iconst (n := 0) (p := 43) (by decide +kernel) rfl kc_0 ?_
      refine fs_istore_n (k := 2) (p := 44) (M := 3) (al' := [some (.ref 0), some (.int (0 : Int32)), some (.int (0 : Int32))]) (by decide +kernel) rfl mx_93 rfl rfl ?_
      exact fe_93_44 hd 100000 _ _ _ _ h
    · rw [if_neg c2] at h
      refine fs_icmp_ge_f (off := 20) (t := 36) (p := 19) (by decide +kernel) (by decide +kernel) rfl c2 ?_
      refine fs_aload_n (k := 0) (p := 20) (by decide +kernel) rfl rfl ?_
      refine fs_gfr (idx := 60) (ci := 9) (j := 6) (p := 23) (by decide +kernel) rfl (by decide +kernel) fo_0 (fr_a0_6) ?_
      refine fs_iload_n (k := 1) (p := 24) (by decide +kernel) rfl rfl ?_
      obtain ⟨v5, w6, h⟩ := fx_bd h
      have g7 := fa_70 w6
      refine fs_aaload (t := 4) (p := 25) (by decide +kernel) rfl (by decide +kernel) w6 ?_
      refine fs_iconst (n := 2) (p := 26) (by decide +kernel) rfl kc_2 ?_
      obtain ⟨q10, w9, h⟩ := fx_bd h
      refine fs_callV (idx := 150) (mj := 19) (ci := 2) (na := 1) (mx := 2) (p := 29) (args := [.ref v5, .int (2 : Int32)]) (rest := []) (al2 := [some (.ref v5), some (.int (2 : Int32))]) (by decide +kernel) rfl (by decide +kernel) g7 rfl rfl rfl rfl rfl rfl rfl (by omega) (fun d' hd' => fe_19 (by omega) w9) rfl ?_
      refine fs_pop (p := 30) (by decide +kernel) rfl rfl ?_
      refine fs_iinc (k := 1) (n := 1) (p := 33) (M := 3) (al' := [some (.ref 0), some (.int (x1 + (1 : Int32))), none]) (by decide +kernel) rfl kc_1 mx_93 rfl rfl rfl ?_
      refine fs_goto (off := -19) (p := 14) (by decide +kernel) (by decide +kernel) ?_
      exact ih _ _ _ h
def fm_93 (σ : fx_S) : Option (Int32 × fx_S) :=
  (fm_57 1 σ).bind fun q21 =>
  if ¬ (fx_b q21.1) = 0 then (
    fm_93_14 100000 (0 : Int32) q21.2) else (
    some ((-1 : Int32), q21.2))
theorem fe_93 {z : iv_Z} {d : Nat} (hd : 6 ≤ d) {σ : fx_S} {q : Int32 × fx_S} (h : fm_93 σ = some q) : fx_E z 93 d 0 [some (.ref 0), none, none] [] σ (some (.int q.1)) q.2 := by
  unfold fm_93 at h
  refine fs_aload_n (k := 0) (p := 1) (by decide +kernel) rfl rfl ?_
  refine fs_gfr (idx := 13) (ci := 9) (j := 1) (p := 4) (by decide +kernel) rfl (by decide +kernel) fo_0 (fr_a0_1) ?_
  obtain ⟨q21, w20, h⟩ := fx_bd h
  refine fs_callV (idx := 146) (mj := 57) (ci := 6) (na := 0) (mx := 1) (p := 7) (args := [.ref 1]) (rest := []) (al2 := [some (.ref 1)]) (by decide +kernel) rfl (by decide +kernel) fo_1 rfl rfl rfl rfl rfl rfl rfl (by omega) (fun d' hd' => fe_57 (by omega) w20) rfl ?_
  by_cases c22 : ¬ (fx_b q21.1) = 0
  · rw [if_pos c22] at h
    refine fs_if_ne_t (off := 5) (t := 12) (by decide +kernel) (by decide +kernel) c22 ?_
    refine fs_iconst (n := 0) (p := 13) (by decide +kernel) rfl kc_0 ?_
    refine fs_istore_n (k := 1) (p := 14) (M := 3) (al' := [some (.ref 0), some (.int (0 : Int32)), none]) (by decide +kernel) rfl mx_93 rfl rfl ?_
    exact fe_93_14 hd 100000 _ _ _ h
  · rw [if_neg c22] at h
    refine fs_if_ne_f (off := 5) (t := 12) (p := 10) (by decide +kernel) (by decide +kernel) rfl c22 ?_
    refine fs_iconst (n := -1) (p := 11) (by decide +kernel) rfl kc_m1 ?_
    have h := Option.some.inj h
    subst h
    exact fs_iret (by decide +kernel) rt_93
