/-! ZoneShares.lowest(JJI)J -/
theorem mx_127 : iv_mx 127 = 7 := by decide +kernel
theorem rt_127 : iv_rt 127 = some .long := by decide +kernel
def fm_127_28 (x5 : Int64) (s0 : Int64) (σ : fx_S) : Option (Int64 × fx_S) :=
  if ¬ x5 = 0 then (
  some ((s0 / x5), σ)) else none
theorem fe_127_28 {z : iv_Z} {d : Nat} (hd : 1 ≤ d) (x5 : Int64) (s0 : Int64) (o0 : Option Value) (o2 : Option Value) (o4 : Option Value) (σ : fx_S) (q : Int64 × fx_S) (h : fm_127_28  x5 s0 σ = some q) : fx_E z 127 d 28 [o0, none, o2, none, o4, some (.long x5), none] [.long s0] σ (some (.long q.1)) q.2 := by
  unfold fm_127_28 at h
  refine fs_lload (k := 5) (p := 30) (by decide +kernel) rfl rfl ?_
  obtain ⟨z2, h⟩ := fx_gd h
  refine fs_ldiv (p := 31) (by decide +kernel) rfl z2 ?_
  have h := Option.some.inj h
  subst h
  exact fs_lret (by decide +kernel) rt_127
def fm_127 (x0 : Int64) (x2 : Int64) (x4 : Int32) (σ : fx_S) : Option (Int64 × fx_S) :=
  (fm_128 x0 x2 σ).bind fun q10 =>
  if ¬ q10.1 = (0 : Int64) then (
    if ¬ x4 = 0 then (
      fm_127_28 q10.1 x2 q10.2) else (
      fm_127_28 q10.1 x0 q10.2)) else (
    some ((-1 : Int64), q10.2))
theorem fe_127 {z : iv_Z} {d : Nat} (hd : 1 ≤ d) {x0 : Int64} {x2 : Int64} {x4 : Int32} {σ : fx_S} {q : Int64 × fx_S} (h : fm_127 x0 x2 x4 σ = some q) : fx_E z 127 d 0 [some (.long x0), none, some (.long x2), none, some (.int x4), none, none] [] σ (some (.long q.1)) q.2 := by
  unfold fm_127 at h
  refine fs_lload_n (k := 0) (p := 1) (by decide +kernel) rfl rfl ?_
  refine fs_lload_n (k := 2) (p := 2) (by decide +kernel) rfl rfl ?_
  obtain ⟨q10, w9, h⟩ := fx_bd h
  refine fs_callS (idx := 337) (mj := 128) (na := 2) (mx := 11) (p := 5) (args := [.long x0, .long x2]) (rest := []) (al2 := [some (.long x0), none, some (.long x2), none, none, none, none, none, none, none, none]) (by decide +kernel) rfl (by decide +kernel) rfl rfl rfl rfl rfl rfl rfl (by omega) (fun d' hd' => fe_128 (by omega) w9) rfl ?_
  refine fs_lstore (k := 5) (p := 7) (M := 7) (al' := [some (.long x0), none, some (.long x2), none, some (.int x4), some (.long q10.1), none]) (by decide +kernel) rfl mx_127 rfl rfl ?_
  refine fs_lload (k := 5) (p := 9) (by decide +kernel) rfl rfl ?_
  refine fs_lconst (n := 0) (p := 10) (by decide +kernel) rfl kl_0 ?_
  by_cases c12 : ¬ q10.1 = (0 : Int64)
  · rw [if_pos c12] at h
    refine fs_lcmp_ne_t (off := 7) (t := 18) (by decide +kernel) (by decide +kernel) (by decide +kernel) c12 ?_
    refine fs_iload (k := 4) (p := 20) (by decide +kernel) rfl rfl ?_
    by_cases c14 : ¬ x4 = 0
    · rw [if_pos c14] at h
      refine fs_if_ne_t (off := 7) (t := 27) (by decide +kernel) (by decide +kernel) c14 ?_
      refine fs_lload_n (k := 2) (p := 28) (by decide +kernel) rfl rfl ?_
      exact fe_127_28 hd _ _ _ _ _ _ _ h
    · rw [if_neg c14] at h
      refine fs_if_ne_f (off := 7) (t := 27) (p := 23) (by decide +kernel) (by decide +kernel) rfl c14 ?_
      refine fs_lload_n (k := 0) (p := 24) (by decide +kernel) rfl rfl ?_
      refine fs_goto (off := 4) (p := 28) (by decide +kernel) (by decide +kernel) ?_
      exact fe_127_28 hd _ _ _ _ _ _ _ h
  · rw [if_neg c12] at h
    refine fs_lcmp_ne_f (off := 7) (t := 18) (p := 14) (by decide +kernel) (by decide +kernel) (by decide +kernel) rfl c12 ?_
    refine fs_ldc2 (idx := 221) (p := 17) (x := -1) (by decide +kernel) rfl (by decide +kernel) ?_
    have h := Option.some.inj h
    subst h
    exact fs_lret (by decide +kernel) rt_127

/-! ZoneShares$CountsText.wrongPart(LZoneShares$Tape;)I -/
theorem mx_5 : iv_mx 5 = 4 := by decide +kernel
theorem rt_5 : iv_rt 5 = some .int := by decide +kernel
def fm_5 (σ : fx_S) : Option (Int32 × fx_S) :=
  (fm_83 (σ.1 60 2) σ).bind fun q28 =>
  (fm_7 q28.1 q28.2).bind fun q30 =>
  if ¬ q30.1 = (-1 : Int32) then (
    if ¬ (((q30.2.1 60 1) >>> (q30.1 &&& 31)) &&& (1 : Int32)) = (1 : Int32) then (
      (fm_83 ((fx_w1 (fx_w1 q30.2 60 1 ((q30.2.1 60 1) ||| ((1 : Int32) <<< (q30.1 &&& 31)))) 60 2 (((fx_w1 q30.2 60 1 ((q30.2.1 60 1) ||| ((1 : Int32) <<< (q30.1 &&& 31)))).1 60 2) + (1 : Int32))).1 60 2) (fx_w1 (fx_w1 q30.2 60 1 ((q30.2.1 60 1) ||| ((1 : Int32) <<< (q30.1 &&& 31)))) 60 2 (((fx_w1 q30.2 60 1 ((q30.2.1 60 1) ||| ((1 : Int32) <<< (q30.1 &&& 31)))).1 60 2) + (1 : Int32)))).bind fun q36 =>
      if q36.1 = (61 : Int32) then (
        (fm_83 ((fx_w1 q36.2 60 2 ((q36.2.1 60 2) + (1 : Int32))).1 60 2) (fx_w1 q36.2 60 2 ((q36.2.1 60 2) + (1 : Int32)))).bind fun q40 =>
        (fm_8 q40.1 q40.2).bind fun q42 =>
        if ¬ (fx_b q42.1) = 0 then (
          (fm_6 q42.2).bind fun q45 =>
          (fx_st q45.2 61 q30.1 q45.1).bind fun t46 =>
          (fx_ld t46 61 q30.1).bind fun v49 =>
          if v49 ≤ (9999 : Int32) then (
            some ((0 : Int32), t46)) else (
            some ((2 : Int32), (fx_w1 t46 60 2 (q42.2.1 60 2))))) else (
          some ((1 : Int32), q42.2))) else (
        some ((1 : Int32), q36.2))) else (
      some ((3 : Int32), q30.2))) else (
    some ((1 : Int32), q30.2))
theorem fe_5 {z : iv_Z} {d : Nat} (hd : 2 ≤ d) {σ : fx_S} {q : Int32 × fx_S} (h : fm_5 σ = some q) : fx_E z 5 d 0 [some (.ref 60), some (.ref 14), none, none] [] σ (some (.int q.1)) q.2 := by
  unfold fm_5 at h
  refine fs_aload_n (k := 1) (p := 1) (by decide +kernel) rfl rfl ?_
  refine fs_aload_n (k := 0) (p := 2) (by decide +kernel) rfl rfl ?_
  refine fs_gfi (idx := 25) (ci := 0) (j := 2) (p := 5) (by decide +kernel) rfl (by decide +kernel) fo_60 ?_
  obtain ⟨q28, w27, h⟩ := fx_bd h
  refine fs_callV (idx := 37) (mj := 83) (ci := 8) (na := 1) (mx := 2) (p := 8) (args := [.ref 14, .int (σ.1 60 2)]) (rest := []) (al2 := [some (.ref 14), some (.int (σ.1 60 2))]) (by decide +kernel) rfl (by decide +kernel) fo_14 rfl rfl rfl rfl rfl rfl rfl (by omega) (fun d' hd' => fe_83 (by omega) w27) rfl ?_
  obtain ⟨q30, w29, h⟩ := fx_bd h
  refine fs_callS (idx := 41) (mj := 7) (na := 1) (mx := 1) (p := 11) (args := [.int q28.1]) (rest := []) (al2 := [some (.int q28.1)]) (by decide +kernel) rfl (by decide +kernel) rfl rfl rfl rfl rfl rfl rfl (by omega) (fun d' hd' => fe_7 (by omega) w29) rfl ?_
  refine fs_istore_n (k := 2) (p := 12) (M := 4) (al' := [some (.ref 60), some (.ref 14), some (.int q30.1), none]) (by decide +kernel) rfl mx_5 rfl rfl ?_
  refine fs_iload_n (k := 2) (p := 13) (by decide +kernel) rfl rfl ?_
  refine fs_iconst (n := -1) (p := 14) (by decide +kernel) rfl kc_m1 ?_
  by_cases c32 : ¬ q30.1 = (-1 : Int32)
  · rw [if_pos c32] at h
    refine fs_icmp_ne_t (off := 5) (t := 19) (by decide +kernel) (by decide +kernel) c32 ?_
    refine fs_aload_n (k := 0) (p := 20) (by decide +kernel) rfl rfl ?_
    refine fs_gfi (idx := 21) (ci := 0) (j := 1) (p := 23) (by decide +kernel) rfl (by decide +kernel) fo_60 ?_
    refine fs_iload_n (k := 2) (p := 24) (by decide +kernel) rfl rfl ?_
    refine fs_ishr (p := 25) (by decide +kernel) rfl ?_
    refine fs_iconst (n := 1) (p := 26) (by decide +kernel) rfl kc_1 ?_
    refine fs_iand (p := 27) (by decide +kernel) rfl ?_
    refine fs_iconst (n := 1) (p := 28) (by decide +kernel) rfl kc_1 ?_
    by_cases c34 : ¬ (((q30.2.1 60 1) >>> (q30.1 &&& 31)) &&& (1 : Int32)) = (1 : Int32)
    · rw [if_pos c34] at h
      refine fs_icmp_ne_t (off := 5) (t := 33) (by decide +kernel) (by decide +kernel) c34 ?_
      refine fs_aload_n (k := 0) (p := 34) (by decide +kernel) rfl rfl ?_
      refine fs_aload_n (k := 0) (p := 35) (by decide +kernel) rfl rfl ?_
      refine fs_gfi (idx := 21) (ci := 0) (j := 1) (p := 38) (by decide +kernel) rfl (by decide +kernel) fo_60 ?_
      refine fs_iconst (n := 1) (p := 39) (by decide +kernel) rfl kc_1 ?_
      refine fs_iload_n (k := 2) (p := 40) (by decide +kernel) rfl rfl ?_
      refine fs_ishl (p := 41) (by decide +kernel) rfl ?_
      refine fs_ior (p := 42) (by decide +kernel) rfl ?_
      refine fs_pfi (idx := 21) (ci := 0) (j := 1) (p := 45) (by decide +kernel) rfl (by decide +kernel) (by decide +kernel) fo_60 (fx_oki _ (by decide +kernel)) ?_
      refine fs_aload_n (k := 0) (p := 46) (by decide +kernel) rfl rfl ?_
      refine fs_dup (p := 47) (by decide +kernel) rfl rfl ?_
      refine fs_gfi (idx := 25) (ci := 0) (j := 2) (p := 50) (by decide +kernel) rfl (by decide +kernel) fo_60 ?_
      refine fs_iconst (n := 1) (p := 51) (by decide +kernel) rfl kc_1 ?_
      refine fs_iadd (p := 52) (by decide +kernel) rfl ?_
      refine fs_pfi (idx := 25) (ci := 0) (j := 2) (p := 55) (by decide +kernel) rfl (by decide +kernel) (by decide +kernel) fo_60 (fx_oki _ (by decide +kernel)) ?_
      refine fs_aload_n (k := 1) (p := 56) (by decide +kernel) rfl rfl ?_
      refine fs_aload_n (k := 0) (p := 57) (by decide +kernel) rfl rfl ?_
      refine fs_gfi (idx := 25) (ci := 0) (j := 2) (p := 60) (by decide +kernel) rfl (by decide +kernel) fo_60 ?_
      obtain ⟨q36, w35, h⟩ := fx_bd h
      refine fs_callV (idx := 37) (mj := 83) (ci := 8) (na := 1) (mx := 2) (p := 63) (args := [.ref 14, .int ((fx_w1 (fx_w1 q30.2 60 1 ((q30.2.1 60 1) ||| ((1 : Int32) <<< (q30.1 &&& 31)))) 60 2 (((fx_w1 q30.2 60 1 ((q30.2.1 60 1) ||| ((1 : Int32) <<< (q30.1 &&& 31)))).1 60 2) + (1 : Int32))).1 60 2)]) (rest := []) (al2 := [some (.ref 14), some (.int ((fx_w1 (fx_w1 q30.2 60 1 ((q30.2.1 60 1) ||| ((1 : Int32) <<< (q30.1 &&& 31)))) 60 2 (((fx_w1 q30.2 60 1 ((q30.2.1 60 1) ||| ((1 : Int32) <<< (q30.1 &&& 31)))).1 60 2) + (1 : Int32))).1 60 2))]) (by decide +kernel) rfl (by decide +kernel) fo_14 rfl rfl rfl rfl rfl rfl rfl (by omega) (fun d' hd' => fe_83 (by omega) w35) rfl ?_
      refine fs_bipush (n := 61) (p := 65) (by decide +kernel) rfl kb_61 ?_
      by_cases c38 : q36.1 = (61 : Int32)
      · rw [if_pos c38] at h
        refine fs_icmp_eq_t (off := 5) (t := 70) (by decide +kernel) (by decide +kernel) c38 ?_
        refine fs_aload_n (k := 0) (p := 71) (by decide +kernel) rfl rfl ?_
        refine fs_dup (p := 72) (by decide +kernel) rfl rfl ?_
        refine fs_gfi (idx := 25) (ci := 0) (j := 2) (p := 75) (by decide +kernel) rfl (by decide +kernel) fo_60 ?_
        refine fs_iconst (n := 1) (p := 76) (by decide +kernel) rfl kc_1 ?_
        refine fs_iadd (p := 77) (by decide +kernel) rfl ?_
        refine fs_pfi (idx := 25) (ci := 0) (j := 2) (p := 80) (by decide +kernel) rfl (by decide +kernel) (by decide +kernel) fo_60 (fx_oki _ (by decide +kernel)) ?_
        refine fs_aload_n (k := 1) (p := 81) (by decide +kernel) rfl rfl ?_
        refine fs_aload_n (k := 0) (p := 82) (by decide +kernel) rfl rfl ?_
        refine fs_gfi (idx := 25) (ci := 0) (j := 2) (p := 85) (by decide +kernel) rfl (by decide +kernel) fo_60 ?_
        obtain ⟨q40, w39, h⟩ := fx_bd h
        refine fs_callV (idx := 37) (mj := 83) (ci := 8) (na := 1) (mx := 2) (p := 88) (args := [.ref 14, .int ((fx_w1 q36.2 60 2 ((q36.2.1 60 2) + (1 : Int32))).1 60 2)]) (rest := []) (al2 := [some (.ref 14), some (.int ((fx_w1 q36.2 60 2 ((q36.2.1 60 2) + (1 : Int32))).1 60 2))]) (by decide +kernel) rfl (by decide +kernel) fo_14 rfl rfl rfl rfl rfl rfl rfl (by omega) (fun d' hd' => fe_83 (by omega) w39) rfl ?_
        obtain ⟨q42, w41, h⟩ := fx_bd h
        refine fs_callS (idx := 44) (mj := 8) (na := 1) (mx := 1) (p := 91) (args := [.int q40.1]) (rest := []) (al2 := [some (.int q40.1)]) (by decide +kernel) rfl (by decide +kernel) rfl rfl rfl rfl rfl rfl rfl (by omega) (fun d' hd' => fe_8 (by omega) w41) rfl ?_
        by_cases c43 : ¬ (fx_b q42.1) = 0
        · rw [if_pos c43] at h
          refine fs_if_ne_t (off := 5) (t := 96) (by decide +kernel) (by decide +kernel) c43 ?_
          refine fs_aload_n (k := 0) (p := 97) (by decide +kernel) rfl rfl ?_
          refine fs_gfi (idx := 25) (ci := 0) (j := 2) (p := 100) (by decide +kernel) rfl (by decide +kernel) fo_60 ?_
          refine fs_istore_n (k := 3) (p := 101) (M := 4) (al' := [some (.ref 60), some (.ref 14), some (.int q30.1), some (.int (q42.2.1 60 2))]) (by decide +kernel) rfl mx_5 rfl rfl ?_
          refine fs_aload_n (k := 0) (p := 102) (by decide +kernel) rfl rfl ?_
          refine fs_gfr (idx := 9) (ci := 0) (j := 0) (p := 105) (by decide +kernel) rfl (by decide +kernel) fo_60 (fr_a60_0) ?_
          refine fs_iload_n (k := 2) (p := 106) (by decide +kernel) rfl rfl ?_
          refine fs_aload_n (k := 0) (p := 107) (by decide +kernel) rfl rfl ?_
          refine fs_aload_n (k := 1) (p := 108) (by decide +kernel) rfl rfl ?_
          obtain ⟨q45, w44, h⟩ := fx_bd h
          refine fs_callV (idx := 48) (mj := 6) (ci := 0) (na := 1) (mx := 3) (p := 111) (args := [.ref 60, .ref 14]) (rest := [.int q30.1, .ref 61]) (al2 := [some (.ref 60), some (.ref 14), none]) (by decide +kernel) rfl (by decide +kernel) fo_60 rfl rfl rfl rfl rfl rfl rfl (by omega) (fun d' hd' => fe_6 (by omega) w44) rfl ?_
          obtain ⟨t46, w47, h⟩ := fx_bd h
          refine fs_iastore (p := 112) (by decide +kernel) rfl w47 ?_
          refine fs_aload_n (k := 0) (p := 113) (by decide +kernel) rfl rfl ?_
          refine fs_gfr (idx := 9) (ci := 0) (j := 0) (p := 116) (by decide +kernel) rfl (by decide +kernel) fo_60 (fr_a60_0) ?_
          refine fs_iload_n (k := 2) (p := 117) (by decide +kernel) rfl rfl ?_
          obtain ⟨v49, w50, h⟩ := fx_bd h
          refine fs_iaload (p := 118) (by decide +kernel) rfl w50 ?_
          refine fs_sipush (n := 9999) (p := 121) (by decide +kernel) rfl ks_9999 ?_
          by_cases c52 : v49 ≤ (9999 : Int32)
          · rw [if_pos c52] at h
            refine fs_icmp_le_t (off := 10) (t := 131) (by decide +kernel) (by decide +kernel) c52 ?_
            refine fs_iconst (n := 0) (p := 132) (by decide +kernel) rfl kc_0 ?_
            have h := Option.some.inj h
            subst h
            exact fs_iret (by decide +kernel) rt_5
          · rw [if_neg c52] at h
            refine fs_icmp_le_f (off := 10) (t := 131) (p := 124) (by decide +kernel) (by decide +kernel) rfl c52 ?_
            refine fs_aload_n (k := 0) (p := 125) (by decide +kernel) rfl rfl ?_
            refine fs_iload_n (k := 3) (p := 126) (by decide +kernel) rfl rfl ?_
            refine fs_pfi (idx := 25) (ci := 0) (j := 2) (p := 129) (by decide +kernel) rfl (by decide +kernel) (by decide +kernel) fo_60 (fx_oki _ (by decide +kernel)) ?_
            refine fs_iconst (n := 2) (p := 130) (by decide +kernel) rfl kc_2 ?_
            have h := Option.some.inj h
            subst h
            exact fs_iret (by decide +kernel) rt_5
        · rw [if_neg c43] at h
          refine fs_if_ne_f (off := 5) (t := 96) (p := 94) (by decide +kernel) (by decide +kernel) rfl c43 ?_
          refine fs_iconst (n := 1) (p := 95) (by decide +kernel) rfl kc_1 ?_
          have h := Option.some.inj h
          subst h
          exact fs_iret (by decide +kernel) rt_5
      · rw [if_neg c38] at h
        refine fs_icmp_eq_f (off := 5) (t := 70) (p := 68) (by decide +kernel) (by decide +kernel) rfl c38 ?_
        refine fs_iconst (n := 1) (p := 69) (by decide +kernel) rfl kc_1 ?_
        have h := Option.some.inj h
        subst h
        exact fs_iret (by decide +kernel) rt_5
    · rw [if_neg c34] at h
      refine fs_icmp_ne_f (off := 5) (t := 33) (p := 31) (by decide +kernel) (by decide +kernel) rfl c34 ?_
      refine fs_iconst (n := 3) (p := 32) (by decide +kernel) rfl kc_3 ?_
      have h := Option.some.inj h
      subst h
      exact fs_iret (by decide +kernel) rt_5
  · rw [if_neg c32] at h
    refine fs_icmp_ne_f (off := 5) (t := 19) (p := 17) (by decide +kernel) (by decide +kernel) rfl c32 ?_
    refine fs_iconst (n := 1) (p := 18) (by decide +kernel) rfl kc_1 ?_
    have h := Option.some.inj h
    subst h
    exact fs_iret (by decide +kernel) rt_5

/-! ZoneShares$Group.shareUnknown()V -/
theorem mx_22 : iv_mx 22 = 5 := by decide +kernel
theorem rt_22 : iv_rt 22 = none := by decide +kernel
def fm_22_176 : Nat → Nat → Int32 → fx_S → Option (fx_S)
  | 0, _, _, _ => none
  | n + 1, x0, x3, σ =>
    if (8 : Int32) ≤ x3 then (
      some σ) else (
      (fx_ld σ (x0 + 1) x3).bind fun v3 =>
      (fx_ld σ ((x0 + 39) + 8) x3).bind fun v6 =>
      (fx_st σ (x0 + 1) x3 (v3 + v6)).bind fun t9 =>
      fm_22_176 n x0 (x3 + (1 : Int32)) t9)
theorem fe_22_176 {z : iv_Z} {d : Nat} (hd : 3 ≤ d) : ∀ (n : Nat) (x0 : Nat) (x3 : Int32) (o1 : Option Value) (o2 : Option Value) (o4 : Option Value) (σ : fx_S) (q : fx_S) (g0 : fx_oc x0 2 = true), fm_22_176 n x0 x3 σ = some q → fx_E z 22 d 176 [some (.ref x0), o1, o2, some (.int x3), o4] [] σ none q := by
  intro n
  induction n with
  | zero =>
    intro x0 x3 o1 o2 o4 σ q g0 h
    rw [fm_22_176] at h
    exact fx_no h
  | succ n ih =>
    intro x0 x3 o1 o2 o4 σ q g0 h
    rw [fm_22_176] at h
    refine fs_iload_n (k := 3) (p := 177) (by decide +kernel) rfl rfl ?_
    refine fs_bipush (n := 8) (p := 179) (by decide +kernel) rfl kb_8 ?_
    by_cases c2 : (8 : Int32) ≤ x3
    · rw [if_pos c2] at h
      refine fs_icmp_ge_t (off := 27) (t := 206) (by decide +kernel) (by decide +kernel) c2 ?_
      have h := Option.some.inj h
      subst h
      exact fs_ret (by decide +kernel) rt_22
    · rw [if_neg c2] at h
      refine fs_icmp_ge_f (off := 27) (t := 206) (p := 182) (by decide +kernel) (by decide +kernel) rfl c2 ?_
      refine fs_aload_n (k := 0) (p := 183) (by decide +kernel) rfl rfl ?_
      refine fs_gfr (idx := 9) (ci := 2) (j := 0) (p := 186) (by decide +kernel) rfl (by decide +kernel) g0 (fr_2_0 g0) ?_
      refine fs_iload_n (k := 3) (p := 187) (by decide +kernel) rfl rfl ?_
      refine fs_dup2 (p := 188) (by decide +kernel) rfl rfl rfl ?_
      obtain ⟨v3, w4, h⟩ := fx_bd h
      refine fs_iaload (p := 189) (by decide +kernel) rfl w4 ?_
      refine fs_aload_n (k := 0) (p := 190) (by decide +kernel) rfl rfl ?_
      refine fs_gfr (idx := 34) (ci := 2) (j := 12) (p := 193) (by decide +kernel) rfl (by decide +kernel) g0 (fr_2_12 g0) ?_
      refine fs_gfr (idx := 123) (ci := 7) (j := 7) (p := 196) (by decide +kernel) rfl (by decide +kernel) (fg_2_12 g0) (fr_7_7 (fg_2_12 g0)) ?_
      refine fs_iload_n (k := 3) (p := 197) (by decide +kernel) rfl rfl ?_
      obtain ⟨v6, w7, h⟩ := fx_bd h
      refine fs_iaload (p := 198) (by decide +kernel) rfl w7 ?_
      refine fs_iadd (p := 199) (by decide +kernel) rfl ?_
      obtain ⟨t9, w10, h⟩ := fx_bd h
      refine fs_iastore (p := 200) (by decide +kernel) rfl w10 ?_
      refine fs_iinc (k := 3) (n := 1) (p := 203) (M := 5) (al' := [some (.ref x0), o1, (fx_kl o2), some (.int (x3 + (1 : Int32))), o4]) (by decide +kernel) rfl kc_1 mx_22 rfl rfl rfl ?_
      refine fs_goto (off := -27) (p := 176) (by decide +kernel) (by decide +kernel) ?_
      exact ih _ _ _ _ _ _ _ g0 h
def fm_22_139 (x0 : Nat) (s0 : Nat) (s1 : Int32) (σ : fx_S) : Option (fx_S) :=
  (fx_st (fx_w1 σ s0 7 s1) ((x0 + 39) + 1) (0 : Int32) (((fx_w1 σ s0 7 s1).1 x0 6) - ((fx_w1 σ s0 7 s1).1 x0 7))).bind fun t1 =>
  (fm_70 (x0 + 39) t1).bind fun q4 =>
  (fm_74 (x0 + 39) q4).bind fun q6 =>
  fm_22_176 100000 x0 (0 : Int32) q6
theorem fe_22_139 {z : iv_Z} {d : Nat} (hd : 3 ≤ d) (x0 : Nat) (s0 : Nat) (s1 : Int32) (o1 : Option Value) (o2 : Option Value) (o3 : Option Value) (o4 : Option Value) (σ : fx_S) (q : fx_S) (g0 : fx_oc x0 2 = true) (gs0 : fx_oc s0 2 = true) (h : fm_22_139  x0 s0 s1 σ = some q) : fx_E z 22 d 139 [some (.ref x0), o1, o2, o3, o4] [.int s1, .ref s0] σ none q := by
  unfold fm_22_139 at h
  refine fs_pfi (idx := 111) (ci := 2) (j := 7) (p := 142) (by decide +kernel) rfl (by decide +kernel) (by decide +kernel) gs0 (fx_oki _ (by decide +kernel)) ?_
  refine fs_aload_n (k := 0) (p := 143) (by decide +kernel) rfl rfl ?_
  refine fs_gfr (idx := 34) (ci := 2) (j := 12) (p := 146) (by decide +kernel) rfl (by decide +kernel) g0 (fr_2_12 g0) ?_
  refine fs_gfr (idx := 114) (ci := 7) (j := 0) (p := 149) (by decide +kernel) rfl (by decide +kernel) (fg_2_12 g0) (fr_7_0 (fg_2_12 g0)) ?_
  refine fs_iconst (n := 0) (p := 150) (by decide +kernel) rfl kc_0 ?_
  refine fs_aload_n (k := 0) (p := 151) (by decide +kernel) rfl rfl ?_
  refine fs_gfi (idx := 106) (ci := 2) (j := 6) (p := 154) (by decide +kernel) rfl (by decide +kernel) g0 ?_
  refine fs_aload_n (k := 0) (p := 155) (by decide +kernel) rfl rfl ?_
  refine fs_gfi (idx := 111) (ci := 2) (j := 7) (p := 158) (by decide +kernel) rfl (by decide +kernel) g0 ?_
  refine fs_isub (p := 159) (by decide +kernel) rfl ?_
  obtain ⟨t1, w2, h⟩ := fx_bd h
  refine fs_iastore (p := 160) (by decide +kernel) rfl w2 ?_
  refine fs_aload_n (k := 0) (p := 161) (by decide +kernel) rfl rfl ?_
  refine fs_gfr (idx := 34) (ci := 2) (j := 12) (p := 164) (by decide +kernel) rfl (by decide +kernel) g0 (fr_2_12 g0) ?_
  obtain ⟨q4, w3, h⟩ := fx_bd h
  refine fs_callV (idx := 117) (mj := 70) (ci := 7) (na := 0) (mx := 3) (p := 167) (args := [.ref (x0 + 39)]) (rest := []) (al2 := [some (.ref (x0 + 39)), none, none]) (by decide +kernel) rfl (by decide +kernel) (fg_2_12 g0) rfl rfl rfl rfl rfl rfl rfl (by omega) (fun d' hd' => fe_70 (by omega) w3) rfl ?_
  refine fs_aload_n (k := 0) (p := 168) (by decide +kernel) rfl rfl ?_
  refine fs_gfr (idx := 34) (ci := 2) (j := 12) (p := 171) (by decide +kernel) rfl (by decide +kernel) g0 (fr_2_12 g0) ?_
  obtain ⟨q6, w5, h⟩ := fx_bd h
  refine fs_callV (idx := 120) (mj := 74) (ci := 7) (na := 0) (mx := 4) (p := 174) (args := [.ref (x0 + 39)]) (rest := []) (al2 := [some (.ref (x0 + 39)), none, none, none]) (by decide +kernel) rfl (by decide +kernel) (fg_2_12 g0) rfl rfl rfl rfl rfl rfl rfl (by omega) (fun d' hd' => fe_74 (by omega) w5) rfl ?_
  refine fs_iconst (n := 0) (p := 175) (by decide +kernel) rfl kc_0 ?_
  refine fs_istore_n (k := 3) (p := 176) (M := 5) (al' := [some (.ref x0), o1, (fx_kl o2), some (.int (0 : Int32)), o4]) (by decide +kernel) rfl mx_22 rfl rfl ?_
  exact fe_22_176 hd 100000 _ _ _ _ _ _ _ g0 h
def fm_22_131 (x0 : Nat) (s0 : Nat) (σ : fx_S) : Option (fx_S) :=
  fm_22_139 x0 s0 (σ.1 x0 6) σ
theorem fe_22_131 {z : iv_Z} {d : Nat} (hd : 3 ≤ d) (x0 : Nat) (s0 : Nat) (o1 : Option Value) (o2 : Option Value) (o3 : Option Value) (o4 : Option Value) (σ : fx_S) (q : fx_S) (g0 : fx_oc x0 2 = true) (gs0 : fx_oc s0 2 = true) (h : fm_22_131  x0 s0 σ = some q) : fx_E z 22 d 131 [some (.ref x0), o1, o2, o3, o4] [.ref s0] σ none q := by
  unfold fm_22_131 at h
  refine fs_aload_n (k := 0) (p := 132) (by decide +kernel) rfl rfl ?_
  refine fs_gfi (idx := 106) (ci := 2) (j := 6) (p := 135) (by decide +kernel) rfl (by decide +kernel) g0 ?_
  refine fs_goto (off := 4) (p := 139) (by decide +kernel) (by decide +kernel) ?_
  exact fe_22_139 hd _ _ _ _ _ _ _ _ _ g0 gs0 h
def fm_22_61 (k_13 : Nat → Int32 → Int32 → Int32 → fx_S → Option (fx_S)) (x0 : Nat) (x1 : Int32) (x2 : Int32) (x3 : Int32) (x4 : Int32) (s0 : Nat) (s1 : Int32) (s2 : Int32) (σ : fx_S) : Option (fx_S) :=
  (fx_st σ s0 s1 s2).bind fun t1 =>
  (fx_ld t1 (x0 + 1) x3).bind fun v5 =>
  (fm_69 (x0 + 39) (0 : Int32) x3 v5 x4 t1).bind fun q9 =>
  (fx_ld q9 (x0 + 1) x3).bind fun v10 =>
  k_13 x0 (x1 + v10) (x2 + x4) (x3 + (1 : Int32)) q9
theorem fe_22_61 {z : iv_Z} {d : Nat} (hd : 3 ≤ d) {k_13 : Nat → Int32 → Int32 → Int32 → fx_S → Option (fx_S)} (hk_13 : ∀ (x0 : Nat) (x1 : Int32) (x2 : Int32) (x3 : Int32) (o4 : Option Value) (σ : fx_S) (q : fx_S) (g0 : fx_oc x0 2 = true), k_13 x0 x1 x2 x3 σ = some q → fx_E z 22 d 13 [some (.ref x0), some (.int x1), some (.int x2), some (.int x3), o4] [] σ none q) (x0 : Nat) (x1 : Int32) (x2 : Int32) (x3 : Int32) (x4 : Int32) (s0 : Nat) (s1 : Int32) (s2 : Int32) (σ : fx_S) (q : fx_S) (g0 : fx_oc x0 2 = true) (h : fm_22_61 k_13  x0 x1 x2 x3 x4 s0 s1 s2 σ = some q) : fx_E z 22 d 61 [some (.ref x0), some (.int x1), some (.int x2), some (.int x3), some (.int x4)] [.int s2, .int s1, .ref s0] σ none q := by
  unfold fm_22_61 at h
  obtain ⟨t1, w2, h⟩ := fx_bd h
  refine fs_iastore (p := 62) (by decide +kernel) rfl w2 ?_
  refine fs_aload_n (k := 0) (p := 63) (by decide +kernel) rfl rfl ?_
  refine fs_gfr (idx := 34) (ci := 2) (j := 12) (p := 66) (by decide +kernel) rfl (by decide +kernel) g0 (fr_2_12 g0) ?_
  refine fs_iconst (n := 0) (p := 67) (by decide +kernel) rfl kc_0 ?_
  refine fs_iload_n (k := 3) (p := 68) (by decide +kernel) rfl rfl ?_
  refine fs_aload_n (k := 0) (p := 69) (by decide +kernel) rfl rfl ?_
  refine fs_gfr (idx := 9) (ci := 2) (j := 0) (p := 72) (by decide +kernel) rfl (by decide +kernel) g0 (fr_2_0 g0) ?_
  refine fs_iload_n (k := 3) (p := 73) (by decide +kernel) rfl rfl ?_
  obtain ⟨v5, w6, h⟩ := fx_bd h
  refine fs_iaload (p := 74) (by decide +kernel) rfl w6 ?_
  refine fs_iload (k := 4) (p := 76) (by decide +kernel) rfl rfl ?_
  obtain ⟨q9, w8, h⟩ := fx_bd h
  refine fs_callV (idx := 98) (mj := 69) (ci := 7) (na := 4) (mx := 6) (p := 79) (args := [.ref (x0 + 39), .int (0 : Int32), .int x3, .int v5, .int x4]) (rest := []) (al2 := [some (.ref (x0 + 39)), some (.int (0 : Int32)), some (.int x3), some (.int v5), some (.int x4), none]) (by decide +kernel) rfl (by decide +kernel) (fg_2_12 g0) rfl rfl rfl rfl rfl rfl rfl (by omega) (fun d' hd' => fe_69 (by omega) w8) rfl ?_
  refine fs_iload_n (k := 1) (p := 80) (by decide +kernel) rfl rfl ?_
  refine fs_aload_n (k := 0) (p := 81) (by decide +kernel) rfl rfl ?_
  refine fs_gfr (idx := 9) (ci := 2) (j := 0) (p := 84) (by decide +kernel) rfl (by decide +kernel) g0 (fr_2_0 g0) ?_
  refine fs_iload_n (k := 3) (p := 85) (by decide +kernel) rfl rfl ?_
  obtain ⟨v10, w11, h⟩ := fx_bd h
  refine fs_iaload (p := 86) (by decide +kernel) rfl w11 ?_
  refine fs_iadd (p := 87) (by decide +kernel) rfl ?_
  refine fs_istore_n (k := 1) (p := 88) (M := 5) (al' := [some (.ref x0), some (.int (x1 + v10)), some (.int x2), some (.int x3), some (.int x4)]) (by decide +kernel) rfl mx_22 rfl rfl ?_
  refine fs_iload_n (k := 2) (p := 89) (by decide +kernel) rfl rfl ?_
  refine fs_iload (k := 4) (p := 91) (by decide +kernel) rfl rfl ?_
  refine fs_iadd (p := 92) (by decide +kernel) rfl ?_
  refine fs_istore_n (k := 2) (p := 93) (M := 5) (al' := [some (.ref x0), some (.int (x1 + v10)), some (.int (x2 + x4)), some (.int x3), some (.int x4)]) (by decide +kernel) rfl mx_22 rfl rfl ?_
  refine fs_iinc (k := 3) (n := 1) (p := 96) (M := 5) (al' := [some (.ref x0), some (.int (x1 + v10)), some (.int (x2 + x4)), some (.int (x3 + (1 : Int32))), some (.int x4)]) (by decide +kernel) rfl kc_1 mx_22 rfl rfl rfl ?_
  refine fs_goto (off := -83) (p := 13) (by decide +kernel) (by decide +kernel) ?_
  exact hk_13 _ _ _ _ _ _ _ g0 h
def fm_22_13 : Nat → Nat → Int32 → Int32 → Int32 → fx_S → Option (fx_S)
  | 0, _, _, _, _, _ => none
  | n + 1, x0, x1, x2, x3, σ =>
    if (8 : Int32) ≤ x3 then (
      (fm_66 1 (σ.1 x0 9) σ).bind fun q4 =>
      if ((fx_w1 q4.2 x0 6 (q4.1 - x1)).1 1 8) = 0 then (
        fm_22_131 x0 x0 (fx_w1 q4.2 x0 6 (q4.1 - x1))) else (
        if ¬ x2 = 0 then (
          fm_22_139 x0 x0 (0 : Int32) (fx_w1 q4.2 x0 6 (q4.1 - x1))) else (
          fm_22_131 x0 x0 (fx_w1 q4.2 x0 6 (q4.1 - x1))))) else (
      (fm_62 1 (0 : Int32) x3 σ).bind fun q10 =>
      if q10.1 ≤ 0 then (
        fm_22_61 (fm_22_13 n) x0 x1 x2 x3 q10.1 (x0 + 1) x3 (0 : Int32) q10.2) else (
        (fx_ld q10.2 3 (((q10.2.1 x0 9) * (9 : Int32)) + x3)).bind fun v13 =>
        fm_22_61 (fm_22_13 n) x0 x1 x2 x3 q10.1 (x0 + 1) x3 v13 q10.2))
theorem fe_22_13 {z : iv_Z} {d : Nat} (hd : 3 ≤ d) : ∀ (n : Nat) (x0 : Nat) (x1 : Int32) (x2 : Int32) (x3 : Int32) (o4 : Option Value) (σ : fx_S) (q : fx_S) (g0 : fx_oc x0 2 = true), fm_22_13 n x0 x1 x2 x3 σ = some q → fx_E z 22 d 13 [some (.ref x0), some (.int x1), some (.int x2), some (.int x3), o4] [] σ none q := by
  intro n
  induction n with
  | zero =>
    intro x0 x1 x2 x3 o4 σ q g0 h
    rw [fm_22_13] at h
    exact fx_no h
  | succ n ih =>
    intro x0 x1 x2 x3 o4 σ q g0 h
    rw [fm_22_13] at h
    refine fs_iload_n (k := 3) (p := 14) (by decide +kernel) rfl rfl ?_
    refine fs_bipush (n := 8) (p := 16) (by decide +kernel) rfl kb_8 ?_
    by_cases c2 : (8 : Int32) ≤ x3
    · rw [if_pos c2] at h
      refine fs_icmp_ge_t (off := 83) (t := 99) (by decide +kernel) (by decide +kernel) c2 ?_
      refine fs_aload_n (k := 0) (p := 100) (by decide +kernel) rfl rfl ?_
      refine fs_aload_n (k := 0) (p := 101) (by decide +kernel) rfl rfl ?_
      refine fs_gfr (idx := 41) (ci := 2) (j := 10) (p := 104) (by decide +kernel) rfl (by decide +kernel) g0 (fr_2_10 g0) ?_
      refine fs_aload_n (k := 0) (p := 105) (by decide +kernel) rfl rfl ?_
      refine fs_gfi (idx := 37) (ci := 2) (j := 9) (p := 108) (by decide +kernel) rfl (by decide +kernel) g0 ?_
      obtain ⟨q4, w3, h⟩ := fx_bd h
      refine fs_callV (idx := 102) (mj := 66) (ci := 6) (na := 1) (mx := 4) (p := 111) (args := [.ref 1, .int (σ.1 x0 9)]) (rest := [.ref x0]) (al2 := [some (.ref 1), some (.int (σ.1 x0 9)), none, none]) (by decide +kernel) rfl (by decide +kernel) fo_1 rfl rfl rfl rfl rfl rfl rfl (by omega) (fun d' hd' => fe_66 (by omega) w3) rfl ?_
      refine fs_iload_n (k := 1) (p := 112) (by decide +kernel) rfl rfl ?_
      refine fs_isub (p := 113) (by decide +kernel) rfl ?_
      refine fs_pfi (idx := 106) (ci := 2) (j := 6) (p := 116) (by decide +kernel) rfl (by decide +kernel) (by decide +kernel) g0 (fx_oki _ (by decide +kernel)) ?_
      refine fs_aload_n (k := 0) (p := 117) (by decide +kernel) rfl rfl ?_
      refine fs_aload_n (k := 0) (p := 118) (by decide +kernel) rfl rfl ?_
      refine fs_gfr (idx := 41) (ci := 2) (j := 10) (p := 121) (by decide +kernel) rfl (by decide +kernel) g0 (fr_2_10 g0) ?_
      refine fs_gfi (idx := 109) (ci := 6) (j := 8) (p := 124) (by decide +kernel) rfl (by decide +kernel) fo_1 ?_
      by_cases c6 : ((fx_w1 q4.2 x0 6 (q4.1 - x1)).1 1 8) = 0
      · rw [if_pos c6] at h
        refine fs_if_eq_t (off := 7) (t := 131) (by decide +kernel) (by decide +kernel) c6 ?_
        exact fe_22_131 hd _ _ _ _ _ _ _ _ g0 g0 h
      · rw [if_neg c6] at h
        refine fs_if_eq_f (off := 7) (t := 131) (p := 127) (by decide +kernel) (by decide +kernel) rfl c6 ?_
        refine fs_iload_n (k := 2) (p := 128) (by decide +kernel) rfl rfl ?_
        by_cases c8 : ¬ x2 = 0
        · rw [if_pos c8] at h
          refine fs_if_ne_t (off := 10) (t := 138) (by decide +kernel) (by decide +kernel) c8 ?_
          refine fs_iconst (n := 0) (p := 139) (by decide +kernel) rfl kc_0 ?_
          exact fe_22_139 hd _ _ _ _ _ _ _ _ _ g0 g0 h
        · rw [if_neg c8] at h
          refine fs_if_ne_f (off := 10) (t := 138) (p := 131) (by decide +kernel) (by decide +kernel) rfl c8 ?_
          exact fe_22_131 hd _ _ _ _ _ _ _ _ g0 g0 h
    · rw [if_neg c2] at h
      refine fs_icmp_ge_f (off := 83) (t := 99) (p := 19) (by decide +kernel) (by decide +kernel) rfl c2 ?_
      refine fs_aload_n (k := 0) (p := 20) (by decide +kernel) rfl rfl ?_
      refine fs_gfr (idx := 41) (ci := 2) (j := 10) (p := 23) (by decide +kernel) rfl (by decide +kernel) g0 (fr_2_10 g0) ?_
      refine fs_iconst (n := 0) (p := 24) (by decide +kernel) rfl kc_0 ?_
      refine fs_iload_n (k := 3) (p := 25) (by decide +kernel) rfl rfl ?_
      obtain ⟨q10, w9, h⟩ := fx_bd h
      refine fs_callV (idx := 91) (mj := 62) (ci := 6) (na := 2) (mx := 6) (p := 28) (args := [.ref 1, .int (0 : Int32), .int x3]) (rest := []) (al2 := [some (.ref 1), some (.int (0 : Int32)), some (.int x3), none, none, none]) (by decide +kernel) rfl (by decide +kernel) fo_1 rfl rfl rfl rfl rfl rfl rfl (by omega) (fun d' hd' => fe_62 (by omega) w9) rfl ?_
      refine fs_istore (k := 4) (p := 30) (M := 5) (al' := [some (.ref x0), some (.int x1), some (.int x2), some (.int x3), some (.int q10.1)]) (by decide +kernel) rfl mx_22 rfl rfl ?_
      refine fs_aload_n (k := 0) (p := 31) (by decide +kernel) rfl rfl ?_
      refine fs_gfr (idx := 9) (ci := 2) (j := 0) (p := 34) (by decide +kernel) rfl (by decide +kernel) g0 (fr_2_0 g0) ?_
      refine fs_iload_n (k := 3) (p := 35) (by decide +kernel) rfl rfl ?_
      refine fs_iload (k := 4) (p := 37) (by decide +kernel) rfl rfl ?_
      by_cases c12 : q10.1 ≤ 0
      · rw [if_pos c12] at h
        refine fs_if_le_t (off := 23) (t := 60) (by decide +kernel) (by decide +kernel) c12 ?_
        refine fs_iconst (n := 0) (p := 61) (by decide +kernel) rfl kc_0 ?_
        exact fe_22_61 hd ih _ _ _ _ _ _ _ _ _ _ g0 h
      · rw [if_neg c12] at h
        refine fs_if_le_f (off := 23) (t := 60) (p := 40) (by decide +kernel) (by decide +kernel) rfl c12 ?_
        refine fs_aload_n (k := 0) (p := 41) (by decide +kernel) rfl rfl ?_
        refine fs_gfr (idx := 41) (ci := 2) (j := 10) (p := 44) (by decide +kernel) rfl (by decide +kernel) g0 (fr_2_10 g0) ?_
        refine fs_gfr (idx := 95) (ci := 6) (j := 1) (p := 47) (by decide +kernel) rfl (by decide +kernel) fo_1 (fr_a1_1) ?_
        refine fs_aload_n (k := 0) (p := 48) (by decide +kernel) rfl rfl ?_
        refine fs_gfi (idx := 37) (ci := 2) (j := 9) (p := 51) (by decide +kernel) rfl (by decide +kernel) g0 ?_
        refine fs_bipush (n := 9) (p := 53) (by decide +kernel) rfl kb_9 ?_
        refine fs_imul (p := 54) (by decide +kernel) rfl ?_
        refine fs_iload_n (k := 3) (p := 55) (by decide +kernel) rfl rfl ?_
        refine fs_iadd (p := 56) (by decide +kernel) rfl ?_
        obtain ⟨v13, w14, h⟩ := fx_bd h
        refine fs_iaload (p := 57) (by decide +kernel) rfl w14 ?_
        refine fs_goto (off := 4) (p := 61) (by decide +kernel) (by decide +kernel) ?_
        exact fe_22_61 hd ih _ _ _ _ _ _ _ _ _ _ g0 h
def fm_22 (x0 : Nat) (σ : fx_S) : Option (fx_S) :=
  if fx_oc x0 2 = true then (
  (fm_68 (x0 + 39) σ).bind fun q67 =>
  fm_22_13 100000 x0 (0 : Int32) (0 : Int32) (0 : Int32) q67) else none
theorem fe_22 {z : iv_Z} {d : Nat} (hd : 3 ≤ d) {x0 : Nat} {σ : fx_S} {q : fx_S} (h : fm_22 x0 σ = some q) : fx_E z 22 d 0 [some (.ref x0), none, none, none, none] [] σ none q := by
  unfold fm_22 at h
  obtain ⟨g0, h⟩ := fx_gd h
  refine fs_aload_n (k := 0) (p := 1) (by decide +kernel) rfl rfl ?_
  refine fs_gfr (idx := 34) (ci := 2) (j := 12) (p := 4) (by decide +kernel) rfl (by decide +kernel) g0 (fr_2_12 g0) ?_
  obtain ⟨q67, w66, h⟩ := fx_bd h
  refine fs_callV (idx := 88) (mj := 68) (ci := 7) (na := 0) (mx := 1) (p := 7) (args := [.ref (x0 + 39)]) (rest := []) (al2 := [some (.ref (x0 + 39))]) (by decide +kernel) rfl (by decide +kernel) (fg_2_12 g0) rfl rfl rfl rfl rfl rfl rfl (by omega) (fun d' hd' => fe_68 (by omega) w66) rfl ?_
  refine fs_iconst (n := 0) (p := 8) (by decide +kernel) rfl kc_0 ?_
  refine fs_istore_n (k := 1) (p := 9) (M := 5) (al' := [some (.ref x0), some (.int (0 : Int32)), none, none, none]) (by decide +kernel) rfl mx_22 rfl rfl ?_
  refine fs_iconst (n := 0) (p := 10) (by decide +kernel) rfl kc_0 ?_
  refine fs_istore_n (k := 2) (p := 11) (M := 5) (al' := [some (.ref x0), some (.int (0 : Int32)), some (.int (0 : Int32)), none, none]) (by decide +kernel) rfl mx_22 rfl rfl ?_
  refine fs_iconst (n := 0) (p := 12) (by decide +kernel) rfl kc_0 ?_
  refine fs_istore_n (k := 3) (p := 13) (M := 5) (al' := [some (.ref x0), some (.int (0 : Int32)), some (.int (0 : Int32)), some (.int (0 : Int32)), none]) (by decide +kernel) rfl mx_22 rfl rfl ?_
  exact fe_22_13 hd 100000 _ _ _ _ _ _ _ g0 h

/-! ZoneShares$Group.fillMoves()V -/
theorem mx_23 : iv_mx 23 = 4 := by decide +kernel
theorem rt_23 : iv_rt 23 = none := by decide +kernel
def fm_23_86 (k_35 : Nat → Int32 → Int32 → fx_S → Option (fx_S)) (x0 : Nat) (x1 : Int32) (x2 : Int32) (σ : fx_S) : Option (fx_S) :=
  k_35 x0 x1 (x2 + (1 : Int32)) σ
theorem fe_23_86 {z : iv_Z} {d : Nat} (hd : 2 ≤ d) {k_35 : Nat → Int32 → Int32 → fx_S → Option (fx_S)} (hk_35 : ∀ (x0 : Nat) (x1 : Int32) (x2 : Int32) (o3 : Option Value) (σ : fx_S) (q : fx_S) (g0 : fx_oc x0 2 = true), k_35 x0 x1 x2 σ = some q → fx_E z 23 d 35 [some (.ref x0), some (.int x1), some (.int x2), o3] [] σ none q) (x0 : Nat) (x1 : Int32) (x2 : Int32) (o3 : Option Value) (σ : fx_S) (q : fx_S) (g0 : fx_oc x0 2 = true) (h : fm_23_86 k_35  x0 x1 x2 σ = some q) : fx_E z 23 d 86 [some (.ref x0), some (.int x1), some (.int x2), o3] [] σ none q := by
  unfold fm_23_86 at h
  refine fs_iinc (k := 2) (n := 1) (p := 89) (M := 4) (al' := [some (.ref x0), some (.int x1), some (.int (x2 + (1 : Int32))), o3]) (by decide +kernel) rfl kc_1 mx_23 rfl rfl rfl ?_
  refine fs_goto (off := -54) (p := 35) (by decide +kernel) (by decide +kernel) ?_
  exact hk_35 _ _ _ _ _ _ g0 h
def fm_23_35 : Nat → Nat → Int32 → Int32 → fx_S → Option (fx_S)
  | 0, _, _, _, _ => none
  | n + 1, x0, x1, x2, σ =>
    if x1 ≤ x2 then (
      some σ) else (
      (fm_60 1 (0 : Int32) x2 σ).bind fun q5 =>
      if (8 : Int32) ≤ q5.1 then (
        fm_23_86 (fm_23_35 n) x0 x1 x2 q5.2) else (
        (fm_60 1 (1 : Int32) x2 q5.2).bind fun q9 =>
        (fm_61 1 (q9.2.1 x0 9) x2 q9.2).bind fun q11 =>
        (fm_69 (x0 + 3) q5.1 q9.1 q11.1 (1 : Int32) q11.2).bind fun q13 =>
        fm_23_86 (fm_23_35 n) x0 x1 x2 q13))
theorem fe_23_35 {z : iv_Z} {d : Nat} (hd : 2 ≤ d) : ∀ (n : Nat) (x0 : Nat) (x1 : Int32) (x2 : Int32) (o3 : Option Value) (σ : fx_S) (q : fx_S) (g0 : fx_oc x0 2 = true), fm_23_35 n x0 x1 x2 σ = some q → fx_E z 23 d 35 [some (.ref x0), some (.int x1), some (.int x2), o3] [] σ none q := by
  intro n
  induction n with
  | zero =>
    intro x0 x1 x2 o3 σ q g0 h
    rw [fm_23_35] at h
    exact fx_no h
  | succ n ih =>
    intro x0 x1 x2 o3 σ q g0 h
    rw [fm_23_35] at h
    refine fs_iload_n (k := 2) (p := 36) (by decide +kernel) rfl rfl ?_
    refine fs_iload_n (k := 1) (p := 37) (by decide +kernel) rfl rfl ?_
    by_cases c3 : x1 ≤ x2
    · rw [if_pos c3] at h
      refine fs_icmp_ge_t (off := 55) (t := 92) (by decide +kernel) (by decide +kernel) c3 ?_
      have h := Option.some.inj h
      subst h
      exact fs_ret (by decide +kernel) rt_23
    · rw [if_neg c3] at h
      refine fs_icmp_ge_f (off := 55) (t := 92) (p := 40) (by decide +kernel) (by decide +kernel) rfl c3 ?_
      refine fs_aload_n (k := 0) (p := 41) (by decide +kernel) rfl rfl ?_
      refine fs_gfr (idx := 41) (ci := 2) (j := 10) (p := 44) (by decide +kernel) rfl (by decide +kernel) g0 (fr_2_10 g0) ?_
      refine fs_iconst (n := 0) (p := 45) (by decide +kernel) rfl kc_0 ?_
      refine fs_iload_n (k := 2) (p := 46) (by decide +kernel) rfl rfl ?_
      obtain ⟨q5, w4, h⟩ := fx_bd h
      refine fs_callV (idx := 136) (mj := 60) (ci := 6) (na := 2) (mx := 3) (p := 49) (args := [.ref 1, .int (0 : Int32), .int x2]) (rest := []) (al2 := [some (.ref 1), some (.int (0 : Int32)), some (.int x2)]) (by decide +kernel) rfl (by decide +kernel) fo_1 rfl rfl rfl rfl rfl rfl rfl (by omega) (fun d' hd' => fe_60 (by omega) w4) rfl ?_
      refine fs_istore_n (k := 3) (p := 50) (M := 4) (al' := [some (.ref x0), some (.int x1), some (.int x2), some (.int q5.1)]) (by decide +kernel) rfl mx_23 rfl rfl ?_
      refine fs_iload_n (k := 3) (p := 51) (by decide +kernel) rfl rfl ?_
      refine fs_bipush (n := 8) (p := 53) (by decide +kernel) rfl kb_8 ?_
      by_cases c7 : (8 : Int32) ≤ q5.1
      · rw [if_pos c7] at h
        refine fs_icmp_ge_t (off := 33) (t := 86) (by decide +kernel) (by decide +kernel) c7 ?_
        exact fe_23_86 hd ih _ _ _ _ _ _ g0 h
      · rw [if_neg c7] at h
        refine fs_icmp_ge_f (off := 33) (t := 86) (p := 56) (by decide +kernel) (by decide +kernel) rfl c7 ?_
        refine fs_aload_n (k := 0) (p := 57) (by decide +kernel) rfl rfl ?_
        refine fs_gfr (idx := 21) (ci := 2) (j := 2) (p := 60) (by decide +kernel) rfl (by decide +kernel) g0 (fr_2_2 g0) ?_
        refine fs_iload_n (k := 3) (p := 61) (by decide +kernel) rfl rfl ?_
        refine fs_aload_n (k := 0) (p := 62) (by decide +kernel) rfl rfl ?_
        refine fs_gfr (idx := 41) (ci := 2) (j := 10) (p := 65) (by decide +kernel) rfl (by decide +kernel) g0 (fr_2_10 g0) ?_
        refine fs_iconst (n := 1) (p := 66) (by decide +kernel) rfl kc_1 ?_
        refine fs_iload_n (k := 2) (p := 67) (by decide +kernel) rfl rfl ?_
        obtain ⟨q9, w8, h⟩ := fx_bd h
        refine fs_callV (idx := 136) (mj := 60) (ci := 6) (na := 2) (mx := 3) (p := 70) (args := [.ref 1, .int (1 : Int32), .int x2]) (rest := [.int q5.1, .ref (x0 + 3)]) (al2 := [some (.ref 1), some (.int (1 : Int32)), some (.int x2)]) (by decide +kernel) rfl (by decide +kernel) fo_1 rfl rfl rfl rfl rfl rfl rfl (by omega) (fun d' hd' => fe_60 (by omega) w8) rfl ?_
        refine fs_aload_n (k := 0) (p := 71) (by decide +kernel) rfl rfl ?_
        refine fs_gfr (idx := 41) (ci := 2) (j := 10) (p := 74) (by decide +kernel) rfl (by decide +kernel) g0 (fr_2_10 g0) ?_
        refine fs_aload_n (k := 0) (p := 75) (by decide +kernel) rfl rfl ?_
        refine fs_gfi (idx := 37) (ci := 2) (j := 9) (p := 78) (by decide +kernel) rfl (by decide +kernel) g0 ?_
        refine fs_iload_n (k := 2) (p := 79) (by decide +kernel) rfl rfl ?_
        obtain ⟨q11, w10, h⟩ := fx_bd h
        refine fs_callV (idx := 139) (mj := 61) (ci := 6) (na := 2) (mx := 3) (p := 82) (args := [.ref 1, .int (q9.2.1 x0 9), .int x2]) (rest := [.int q9.1, .int q5.1, .ref (x0 + 3)]) (al2 := [some (.ref 1), some (.int (q9.2.1 x0 9)), some (.int x2)]) (by decide +kernel) rfl (by decide +kernel) fo_1 rfl rfl rfl rfl rfl rfl rfl (by omega) (fun d' hd' => fe_61 (by omega) w10) rfl ?_
        refine fs_iconst (n := 1) (p := 83) (by decide +kernel) rfl kc_1 ?_
        obtain ⟨q13, w12, h⟩ := fx_bd h
        refine fs_callV (idx := 98) (mj := 69) (ci := 7) (na := 4) (mx := 6) (p := 86) (args := [.ref (x0 + 3), .int q5.1, .int q9.1, .int q11.1, .int (1 : Int32)]) (rest := []) (al2 := [some (.ref (x0 + 3)), some (.int q5.1), some (.int q9.1), some (.int q11.1), some (.int (1 : Int32)), none]) (by decide +kernel) rfl (by decide +kernel) (fg_2_2 g0) rfl rfl rfl rfl rfl rfl rfl (by omega) (fun d' hd' => fe_69 (by omega) w12) rfl ?_
        exact fe_23_86 hd ih _ _ _ _ _ _ g0 h
def fm_23 (x0 : Nat) (σ : fx_S) : Option (fx_S) :=
  if fx_oc x0 2 = true then (
  (fm_68 (x0 + 3) σ).bind fun q34 =>
  (fx_cpy q34 (x0 + 1) (0 : Int32) ((x0 + 3) + 1) (0 : Int32) (8 : Int32)).bind fun t35 =>
  (fm_58 1 t35).bind fun q38 =>
  fm_23_35 100000 x0 q38.1 (0 : Int32) q38.2) else none
theorem fe_23 {z : iv_Z} {d : Nat} (hd : 2 ≤ d) {x0 : Nat} {σ : fx_S} {q : fx_S} (h : fm_23 x0 σ = some q) : fx_E z 23 d 0 [some (.ref x0), none, none, none] [] σ none q := by
  unfold fm_23 at h
  obtain ⟨g0, h⟩ := fx_gd h
  refine fs_aload_n (k := 0) (p := 1) (by decide +kernel) rfl rfl ?_
  refine fs_gfr (idx := 21) (ci := 2) (j := 2) (p := 4) (by decide +kernel) rfl (by decide +kernel) g0 (fr_2_2 g0) ?_
  obtain ⟨q34, w33, h⟩ := fx_bd h
  refine fs_callV (idx := 88) (mj := 68) (ci := 7) (na := 0) (mx := 1) (p := 7) (args := [.ref (x0 + 3)]) (rest := []) (al2 := [some (.ref (x0 + 3))]) (by decide +kernel) rfl (by decide +kernel) (fg_2_2 g0) rfl rfl rfl rfl rfl rfl rfl (by omega) (fun d' hd' => fe_68 (by omega) w33) rfl ?_
  refine fs_aload_n (k := 0) (p := 8) (by decide +kernel) rfl rfl ?_
  refine fs_gfr (idx := 9) (ci := 2) (j := 0) (p := 11) (by decide +kernel) rfl (by decide +kernel) g0 (fr_2_0 g0) ?_
  refine fs_iconst (n := 0) (p := 12) (by decide +kernel) rfl kc_0 ?_
  refine fs_aload_n (k := 0) (p := 13) (by decide +kernel) rfl rfl ?_
  refine fs_gfr (idx := 21) (ci := 2) (j := 2) (p := 16) (by decide +kernel) rfl (by decide +kernel) g0 (fr_2_2 g0) ?_
  refine fs_gfr (idx := 114) (ci := 7) (j := 0) (p := 19) (by decide +kernel) rfl (by decide +kernel) (fg_2_2 g0) (fr_7_0 (fg_2_2 g0)) ?_
  refine fs_iconst (n := 0) (p := 20) (by decide +kernel) rfl kc_0 ?_
  refine fs_bipush (n := 8) (p := 22) (by decide +kernel) rfl kb_8 ?_
  obtain ⟨t35, w36, h⟩ := fx_bd h
  refine fs_cpy (idx := 126) (p := 25) (by decide +kernel) rfl (by decide +kernel) rfl w36 ?_
  refine fs_aload_n (k := 0) (p := 26) (by decide +kernel) rfl rfl ?_
  refine fs_gfr (idx := 41) (ci := 2) (j := 10) (p := 29) (by decide +kernel) rfl (by decide +kernel) g0 (fr_2_10 g0) ?_
  obtain ⟨q38, w37, h⟩ := fx_bd h
  refine fs_callV (idx := 132) (mj := 58) (ci := 6) (na := 0) (mx := 1) (p := 32) (args := [.ref 1]) (rest := []) (al2 := [some (.ref 1)]) (by decide +kernel) rfl (by decide +kernel) fo_1 rfl rfl rfl rfl rfl rfl rfl (by omega) (fun d' hd' => fe_58 (by omega) w37) rfl ?_
  refine fs_istore_n (k := 1) (p := 33) (M := 4) (al' := [some (.ref x0), some (.int q38.1), none, none]) (by decide +kernel) rfl mx_23 rfl rfl ?_
  refine fs_iconst (n := 0) (p := 34) (by decide +kernel) rfl kc_0 ?_
  refine fs_istore_n (k := 2) (p := 35) (M := 4) (al' := [some (.ref x0), some (.int q38.1), some (.int (0 : Int32)), none]) (by decide +kernel) rfl mx_23 rfl rfl ?_
  exact fe_23_35 hd 100000 _ _ _ _ _ _ g0 h

/-! ZoneShares$Group.fillBack()V -/
theorem mx_24 : iv_mx 24 = 4 := by decide +kernel
theorem rt_24 : iv_rt 24 = none := by decide +kernel
def fm_24_76 : Nat → Nat → Int32 → fx_S → Option (fx_S)
  | 0, _, _, _ => none
  | n + 1, x0, x2, σ =>
    if (8 : Int32) ≤ x2 then (
      some σ) else (
      (fm_76 (x0 + 3) x2 σ).bind fun q4 =>
      (fx_st q4.2 ((x0 + 12) + 1) x2 q4.1).bind fun t5 =>
      fm_24_76 n x0 (x2 + (1 : Int32)) t5)
theorem fe_24_76 {z : iv_Z} {d : Nat} (hd : 2 ≤ d) : ∀ (n : Nat) (x0 : Nat) (x2 : Int32) (o1 : Option Value) (o3 : Option Value) (σ : fx_S) (q : fx_S) (g0 : fx_oc x0 2 = true), fm_24_76 n x0 x2 σ = some q → fx_E z 24 d 76 [some (.ref x0), o1, some (.int x2), o3] [] σ none q := by
  intro n
  induction n with
  | zero =>
    intro x0 x2 o1 o3 σ q g0 h
    rw [fm_24_76] at h
    exact fx_no h
  | succ n ih =>
    intro x0 x2 o1 o3 σ q g0 h
    rw [fm_24_76] at h
    refine fs_iload_n (k := 2) (p := 77) (by decide +kernel) rfl rfl ?_
    refine fs_bipush (n := 8) (p := 79) (by decide +kernel) rfl kb_8 ?_
    by_cases c2 : (8 : Int32) ≤ x2
    · rw [if_pos c2] at h
      refine fs_icmp_ge_t (off := 26) (t := 105) (by decide +kernel) (by decide +kernel) c2 ?_
      have h := Option.some.inj h
      subst h
      exact fs_ret (by decide +kernel) rt_24
    · rw [if_neg c2] at h
      refine fs_icmp_ge_f (off := 26) (t := 105) (p := 82) (by decide +kernel) (by decide +kernel) rfl c2 ?_
      refine fs_aload_n (k := 0) (p := 83) (by decide +kernel) rfl rfl ?_
      refine fs_gfr (idx := 25) (ci := 2) (j := 3) (p := 86) (by decide +kernel) rfl (by decide +kernel) g0 (fr_2_3 g0) ?_
      refine fs_gfr (idx := 114) (ci := 7) (j := 0) (p := 89) (by decide +kernel) rfl (by decide +kernel) (fg_2_3 g0) (fr_7_0 (fg_2_3 g0)) ?_
      refine fs_iload_n (k := 2) (p := 90) (by decide +kernel) rfl rfl ?_
      refine fs_aload_n (k := 0) (p := 91) (by decide +kernel) rfl rfl ?_
      refine fs_gfr (idx := 21) (ci := 2) (j := 2) (p := 94) (by decide +kernel) rfl (by decide +kernel) g0 (fr_2_2 g0) ?_
      refine fs_iload_n (k := 2) (p := 95) (by decide +kernel) rfl rfl ?_
      obtain ⟨q4, w3, h⟩ := fx_bd h
      refine fs_callV (idx := 142) (mj := 76) (ci := 7) (na := 1) (mx := 4) (p := 98) (args := [.ref (x0 + 3), .int x2]) (rest := [.int x2, .ref ((x0 + 12) + 1)]) (al2 := [some (.ref (x0 + 3)), some (.int x2), none, none]) (by decide +kernel) rfl (by decide +kernel) (fg_2_2 g0) rfl rfl rfl rfl rfl rfl rfl (by omega) (fun d' hd' => fe_76 (by omega) w3) rfl ?_
      obtain ⟨t5, w6, h⟩ := fx_bd h
      refine fs_iastore (p := 99) (by decide +kernel) rfl w6 ?_
      refine fs_iinc (k := 2) (n := 1) (p := 102) (M := 4) (al' := [some (.ref x0), (fx_kl o1), some (.int (x2 + (1 : Int32))), o3]) (by decide +kernel) rfl kc_1 mx_24 rfl rfl rfl ?_
      refine fs_goto (off := -26) (p := 76) (by decide +kernel) (by decide +kernel) ?_
      exact ih _ _ _ _ _ _ g0 h
def fm_24_68 (k_17 : Nat → Int32 → Int32 → fx_S → Option (fx_S)) (x0 : Nat) (x1 : Int32) (x2 : Int32) (σ : fx_S) : Option (fx_S) :=
  k_17 x0 x1 (x2 + (1 : Int32)) σ
theorem fe_24_68 {z : iv_Z} {d : Nat} (hd : 2 ≤ d) {k_17 : Nat → Int32 → Int32 → fx_S → Option (fx_S)} (hk_17 : ∀ (x0 : Nat) (x1 : Int32) (x2 : Int32) (o3 : Option Value) (σ : fx_S) (q : fx_S) (g0 : fx_oc x0 2 = true), k_17 x0 x1 x2 σ = some q → fx_E z 24 d 17 [some (.ref x0), some (.int x1), some (.int x2), o3] [] σ none q) (x0 : Nat) (x1 : Int32) (x2 : Int32) (o3 : Option Value) (σ : fx_S) (q : fx_S) (g0 : fx_oc x0 2 = true) (h : fm_24_68 k_17  x0 x1 x2 σ = some q) : fx_E z 24 d 68 [some (.ref x0), some (.int x1), some (.int x2), o3] [] σ none q := by
  unfold fm_24_68 at h
  refine fs_iinc (k := 2) (n := 1) (p := 71) (M := 4) (al' := [some (.ref x0), some (.int x1), some (.int (x2 + (1 : Int32))), o3]) (by decide +kernel) rfl kc_1 mx_24 rfl rfl rfl ?_
  refine fs_goto (off := -54) (p := 17) (by decide +kernel) (by decide +kernel) ?_
  exact hk_17 _ _ _ _ _ _ g0 h
def fm_24_17 : Nat → Nat → Int32 → Int32 → fx_S → Option (fx_S)
  | 0, _, _, _, _ => none
  | n + 1, x0, x1, x2, σ =>
    if x1 ≤ x2 then (
      fm_24_76 100000 x0 (0 : Int32) σ) else (
      (fm_60 1 (1 : Int32) x2 σ).bind fun q5 =>
      if (8 : Int32) ≤ q5.1 then (
        fm_24_68 (fm_24_17 n) x0 x1 x2 q5.2) else (
        (fm_60 1 (0 : Int32) x2 q5.2).bind fun q9 =>
        (fm_61 1 (q9.2.1 x0 9) x2 q9.2).bind fun q11 =>
        (fm_69 (x0 + 12) q5.1 q9.1 q11.1 (1 : Int32) q11.2).bind fun q13 =>
        fm_24_68 (fm_24_17 n) x0 x1 x2 q13))
theorem fe_24_17 {z : iv_Z} {d : Nat} (hd : 2 ≤ d) : ∀ (n : Nat) (x0 : Nat) (x1 : Int32) (x2 : Int32) (o3 : Option Value) (σ : fx_S) (q : fx_S) (g0 : fx_oc x0 2 = true), fm_24_17 n x0 x1 x2 σ = some q → fx_E z 24 d 17 [some (.ref x0), some (.int x1), some (.int x2), o3] [] σ none q := by
  intro n
  induction n with
  | zero =>
    intro x0 x1 x2 o3 σ q g0 h
    rw [fm_24_17] at h
    exact fx_no h
  | succ n ih =>
    intro x0 x1 x2 o3 σ q g0 h
    rw [fm_24_17] at h
    refine fs_iload_n (k := 2) (p := 18) (by decide +kernel) rfl rfl ?_
    refine fs_iload_n (k := 1) (p := 19) (by decide +kernel) rfl rfl ?_
    by_cases c3 : x1 ≤ x2
    · rw [if_pos c3] at h
      refine fs_icmp_ge_t (off := 55) (t := 74) (by decide +kernel) (by decide +kernel) c3 ?_
      refine fs_iconst (n := 0) (p := 75) (by decide +kernel) rfl kc_0 ?_
      refine fs_istore_n (k := 2) (p := 76) (M := 4) (al' := [some (.ref x0), some (.int x1), some (.int (0 : Int32)), o3]) (by decide +kernel) rfl mx_24 rfl rfl ?_
      exact fe_24_76 hd 100000 _ _ _ _ _ _ g0 h
    · rw [if_neg c3] at h
      refine fs_icmp_ge_f (off := 55) (t := 74) (p := 22) (by decide +kernel) (by decide +kernel) rfl c3 ?_
      refine fs_aload_n (k := 0) (p := 23) (by decide +kernel) rfl rfl ?_
      refine fs_gfr (idx := 41) (ci := 2) (j := 10) (p := 26) (by decide +kernel) rfl (by decide +kernel) g0 (fr_2_10 g0) ?_
      refine fs_iconst (n := 1) (p := 27) (by decide +kernel) rfl kc_1 ?_
      refine fs_iload_n (k := 2) (p := 28) (by decide +kernel) rfl rfl ?_
      obtain ⟨q5, w4, h⟩ := fx_bd h
      refine fs_callV (idx := 136) (mj := 60) (ci := 6) (na := 2) (mx := 3) (p := 31) (args := [.ref 1, .int (1 : Int32), .int x2]) (rest := []) (al2 := [some (.ref 1), some (.int (1 : Int32)), some (.int x2)]) (by decide +kernel) rfl (by decide +kernel) fo_1 rfl rfl rfl rfl rfl rfl rfl (by omega) (fun d' hd' => fe_60 (by omega) w4) rfl ?_
      refine fs_istore_n (k := 3) (p := 32) (M := 4) (al' := [some (.ref x0), some (.int x1), some (.int x2), some (.int q5.1)]) (by decide +kernel) rfl mx_24 rfl rfl ?_
      refine fs_iload_n (k := 3) (p := 33) (by decide +kernel) rfl rfl ?_
      refine fs_bipush (n := 8) (p := 35) (by decide +kernel) rfl kb_8 ?_
      by_cases c7 : (8 : Int32) ≤ q5.1
      · rw [if_pos c7] at h
        refine fs_icmp_ge_t (off := 33) (t := 68) (by decide +kernel) (by decide +kernel) c7 ?_
        exact fe_24_68 hd ih _ _ _ _ _ _ g0 h
      · rw [if_neg c7] at h
        refine fs_icmp_ge_f (off := 33) (t := 68) (p := 38) (by decide +kernel) (by decide +kernel) rfl c7 ?_
        refine fs_aload_n (k := 0) (p := 39) (by decide +kernel) rfl rfl ?_
        refine fs_gfr (idx := 25) (ci := 2) (j := 3) (p := 42) (by decide +kernel) rfl (by decide +kernel) g0 (fr_2_3 g0) ?_
        refine fs_iload_n (k := 3) (p := 43) (by decide +kernel) rfl rfl ?_
        refine fs_aload_n (k := 0) (p := 44) (by decide +kernel) rfl rfl ?_
        refine fs_gfr (idx := 41) (ci := 2) (j := 10) (p := 47) (by decide +kernel) rfl (by decide +kernel) g0 (fr_2_10 g0) ?_
        refine fs_iconst (n := 0) (p := 48) (by decide +kernel) rfl kc_0 ?_
        refine fs_iload_n (k := 2) (p := 49) (by decide +kernel) rfl rfl ?_
        obtain ⟨q9, w8, h⟩ := fx_bd h
        refine fs_callV (idx := 136) (mj := 60) (ci := 6) (na := 2) (mx := 3) (p := 52) (args := [.ref 1, .int (0 : Int32), .int x2]) (rest := [.int q5.1, .ref (x0 + 12)]) (al2 := [some (.ref 1), some (.int (0 : Int32)), some (.int x2)]) (by decide +kernel) rfl (by decide +kernel) fo_1 rfl rfl rfl rfl rfl rfl rfl (by omega) (fun d' hd' => fe_60 (by omega) w8) rfl ?_
        refine fs_aload_n (k := 0) (p := 53) (by decide +kernel) rfl rfl ?_
        refine fs_gfr (idx := 41) (ci := 2) (j := 10) (p := 56) (by decide +kernel) rfl (by decide +kernel) g0 (fr_2_10 g0) ?_
        refine fs_aload_n (k := 0) (p := 57) (by decide +kernel) rfl rfl ?_
        refine fs_gfi (idx := 37) (ci := 2) (j := 9) (p := 60) (by decide +kernel) rfl (by decide +kernel) g0 ?_
        refine fs_iload_n (k := 2) (p := 61) (by decide +kernel) rfl rfl ?_
        obtain ⟨q11, w10, h⟩ := fx_bd h
        refine fs_callV (idx := 139) (mj := 61) (ci := 6) (na := 2) (mx := 3) (p := 64) (args := [.ref 1, .int (q9.2.1 x0 9), .int x2]) (rest := [.int q9.1, .int q5.1, .ref (x0 + 12)]) (al2 := [some (.ref 1), some (.int (q9.2.1 x0 9)), some (.int x2)]) (by decide +kernel) rfl (by decide +kernel) fo_1 rfl rfl rfl rfl rfl rfl rfl (by omega) (fun d' hd' => fe_61 (by omega) w10) rfl ?_
        refine fs_iconst (n := 1) (p := 65) (by decide +kernel) rfl kc_1 ?_
        obtain ⟨q13, w12, h⟩ := fx_bd h
        refine fs_callV (idx := 98) (mj := 69) (ci := 7) (na := 4) (mx := 6) (p := 68) (args := [.ref (x0 + 12), .int q5.1, .int q9.1, .int q11.1, .int (1 : Int32)]) (rest := []) (al2 := [some (.ref (x0 + 12)), some (.int q5.1), some (.int q9.1), some (.int q11.1), some (.int (1 : Int32)), none]) (by decide +kernel) rfl (by decide +kernel) (fg_2_3 g0) rfl rfl rfl rfl rfl rfl rfl (by omega) (fun d' hd' => fe_69 (by omega) w12) rfl ?_
        exact fe_24_68 hd ih _ _ _ _ _ _ g0 h
def fm_24 (x0 : Nat) (σ : fx_S) : Option (fx_S) :=
  if fx_oc x0 2 = true then (
  (fm_68 (x0 + 12) σ).bind fun q46 =>
  (fm_58 1 q46).bind fun q48 =>
  fm_24_17 100000 x0 q48.1 (0 : Int32) q48.2) else none
theorem fe_24 {z : iv_Z} {d : Nat} (hd : 2 ≤ d) {x0 : Nat} {σ : fx_S} {q : fx_S} (h : fm_24 x0 σ = some q) : fx_E z 24 d 0 [some (.ref x0), none, none, none] [] σ none q := by
  unfold fm_24 at h
  obtain ⟨g0, h⟩ := fx_gd h
  refine fs_aload_n (k := 0) (p := 1) (by decide +kernel) rfl rfl ?_
  refine fs_gfr (idx := 25) (ci := 2) (j := 3) (p := 4) (by decide +kernel) rfl (by decide +kernel) g0 (fr_2_3 g0) ?_
  obtain ⟨q46, w45, h⟩ := fx_bd h
  refine fs_callV (idx := 88) (mj := 68) (ci := 7) (na := 0) (mx := 1) (p := 7) (args := [.ref (x0 + 12)]) (rest := []) (al2 := [some (.ref (x0 + 12))]) (by decide +kernel) rfl (by decide +kernel) (fg_2_3 g0) rfl rfl rfl rfl rfl rfl rfl (by omega) (fun d' hd' => fe_68 (by omega) w45) rfl ?_
  refine fs_aload_n (k := 0) (p := 8) (by decide +kernel) rfl rfl ?_
  refine fs_gfr (idx := 41) (ci := 2) (j := 10) (p := 11) (by decide +kernel) rfl (by decide +kernel) g0 (fr_2_10 g0) ?_
  obtain ⟨q48, w47, h⟩ := fx_bd h
  refine fs_callV (idx := 132) (mj := 58) (ci := 6) (na := 0) (mx := 1) (p := 14) (args := [.ref 1]) (rest := []) (al2 := [some (.ref 1)]) (by decide +kernel) rfl (by decide +kernel) fo_1 rfl rfl rfl rfl rfl rfl rfl (by omega) (fun d' hd' => fe_58 (by omega) w47) rfl ?_
  refine fs_istore_n (k := 1) (p := 15) (M := 4) (al' := [some (.ref x0), some (.int q48.1), none, none]) (by decide +kernel) rfl mx_24 rfl rfl ?_
  refine fs_iconst (n := 0) (p := 16) (by decide +kernel) rfl kc_0 ?_
  refine fs_istore_n (k := 2) (p := 17) (M := 4) (al' := [some (.ref x0), some (.int q48.1), some (.int (0 : Int32)), none]) (by decide +kernel) rfl mx_24 rfl rfl ?_
  exact fe_24_17 hd 100000 _ _ _ _ _ _ g0 h

/-! ZoneShares$Group.fillCoarse()V -/
theorem mx_25 : iv_mx 25 = 6 := by decide +kernel
theorem rt_25 : iv_rt 25 = none := by decide +kernel
def fm_25_113 (k_35 : Nat → Int32 → Int32 → fx_S → Option (fx_S)) (x0 : Nat) (x1 : Int32) (x2 : Int32) (σ : fx_S) : Option (fx_S) :=
  k_35 x0 x1 (x2 + (1 : Int32)) σ
theorem fe_25_113 {z : iv_Z} {d : Nat} (hd : 2 ≤ d) {k_35 : Nat → Int32 → Int32 → fx_S → Option (fx_S)} (hk_35 : ∀ (x0 : Nat) (x1 : Int32) (x2 : Int32) (o3 : Option Value) (o4 : Option Value) (o5 : Option Value) (σ : fx_S) (q : fx_S) (g0 : fx_oc x0 2 = true), k_35 x0 x1 x2 σ = some q → fx_E z 25 d 35 [some (.ref x0), some (.int x1), some (.int x2), o3, o4, o5] [] σ none q) (x0 : Nat) (x1 : Int32) (x2 : Int32) (o3 : Option Value) (o4 : Option Value) (o5 : Option Value) (σ : fx_S) (q : fx_S) (g0 : fx_oc x0 2 = true) (h : fm_25_113 k_35  x0 x1 x2 σ = some q) : fx_E z 25 d 113 [some (.ref x0), some (.int x1), some (.int x2), o3, o4, o5] [] σ none q := by
  unfold fm_25_113 at h
  refine fs_iinc (k := 2) (n := 1) (p := 116) (M := 6) (al' := [some (.ref x0), some (.int x1), some (.int (x2 + (1 : Int32))), o3, o4, o5]) (by decide +kernel) rfl kc_1 mx_25 rfl rfl rfl ?_
  refine fs_goto (off := -81) (p := 35) (by decide +kernel) (by decide +kernel) ?_
  exact hk_35 _ _ _ _ _ _ _ _ g0 h
def fm_25_88 (k_35 : Nat → Int32 → Int32 → fx_S → Option (fx_S)) (x0 : Nat) (x1 : Int32) (x2 : Int32) (x3 : Int32) (s0 : Int32) (σ : fx_S) : Option (fx_S) :=
  (fm_61 1 (σ.1 x0 9) x2 σ).bind fun q2 =>
  (fm_69 (x0 + 21) x3 s0 q2.1 (1 : Int32) q2.2).bind fun q4 =>
  fm_25_113 k_35 x0 x1 x2 q4
theorem fe_25_88 {z : iv_Z} {d : Nat} (hd : 2 ≤ d) {k_35 : Nat → Int32 → Int32 → fx_S → Option (fx_S)} (hk_35 : ∀ (x0 : Nat) (x1 : Int32) (x2 : Int32) (o3 : Option Value) (o4 : Option Value) (o5 : Option Value) (σ : fx_S) (q : fx_S) (g0 : fx_oc x0 2 = true), k_35 x0 x1 x2 σ = some q → fx_E z 25 d 35 [some (.ref x0), some (.int x1), some (.int x2), o3, o4, o5] [] σ none q) (x0 : Nat) (x1 : Int32) (x2 : Int32) (x3 : Int32) (s0 : Int32) (o4 : Option Value) (o5 : Option Value) (σ : fx_S) (q : fx_S) (g0 : fx_oc x0 2 = true) (h : fm_25_88 k_35  x0 x1 x2 x3 s0 σ = some q) : fx_E z 25 d 88 [some (.ref x0), some (.int x1), some (.int x2), some (.int x3), o4, o5] [.int s0] σ none q := by
  unfold fm_25_88 at h
  refine fs_istore (k := 5) (p := 90) (M := 6) (al' := [some (.ref x0), some (.int x1), some (.int x2), some (.int x3), (fx_kl o4), some (.int s0)]) (by decide +kernel) rfl mx_25 rfl rfl ?_
  refine fs_aload_n (k := 0) (p := 91) (by decide +kernel) rfl rfl ?_
  refine fs_gfr (idx := 28) (ci := 2) (j := 4) (p := 94) (by decide +kernel) rfl (by decide +kernel) g0 (fr_2_4 g0) ?_
  refine fs_iload_n (k := 3) (p := 95) (by decide +kernel) rfl rfl ?_
  refine fs_iload (k := 5) (p := 97) (by decide +kernel) rfl rfl ?_
  refine fs_aload_n (k := 0) (p := 98) (by decide +kernel) rfl rfl ?_
  refine fs_gfr (idx := 41) (ci := 2) (j := 10) (p := 101) (by decide +kernel) rfl (by decide +kernel) g0 (fr_2_10 g0) ?_
  refine fs_aload_n (k := 0) (p := 102) (by decide +kernel) rfl rfl ?_
  refine fs_gfi (idx := 37) (ci := 2) (j := 9) (p := 105) (by decide +kernel) rfl (by decide +kernel) g0 ?_
  refine fs_iload_n (k := 2) (p := 106) (by decide +kernel) rfl rfl ?_
  obtain ⟨q2, w1, h⟩ := fx_bd h
  refine fs_callV (idx := 139) (mj := 61) (ci := 6) (na := 2) (mx := 3) (p := 109) (args := [.ref 1, .int (σ.1 x0 9), .int x2]) (rest := [.int s0, .int x3, .ref (x0 + 21)]) (al2 := [some (.ref 1), some (.int (σ.1 x0 9)), some (.int x2)]) (by decide +kernel) rfl (by decide +kernel) fo_1 rfl rfl rfl rfl rfl rfl rfl (by omega) (fun d' hd' => fe_61 (by omega) w1) rfl ?_
  refine fs_iconst (n := 1) (p := 110) (by decide +kernel) rfl kc_1 ?_
  obtain ⟨q4, w3, h⟩ := fx_bd h
  refine fs_callV (idx := 98) (mj := 69) (ci := 7) (na := 4) (mx := 6) (p := 113) (args := [.ref (x0 + 21), .int x3, .int s0, .int q2.1, .int (1 : Int32)]) (rest := []) (al2 := [some (.ref (x0 + 21)), some (.int x3), some (.int s0), some (.int q2.1), some (.int (1 : Int32)), none]) (by decide +kernel) rfl (by decide +kernel) (fg_2_4 g0) rfl rfl rfl rfl rfl rfl rfl (by omega) (fun d' hd' => fe_69 (by omega) w3) rfl ?_
  exact fe_25_113 hd hk_35 _ _ _ _ _ _ _ _ g0 h
def fm_25_35 : Nat → Nat → Int32 → Int32 → fx_S → Option (fx_S)
  | 0, _, _, _, _ => none
  | n + 1, x0, x1, x2, σ =>
    if x1 ≤ x2 then (
      some σ) else (
      (fm_60 1 (0 : Int32) x2 σ).bind fun q5 =>
      (fm_60 1 (1 : Int32) x2 q5.2).bind fun q7 =>
      if (8 : Int32) ≤ q5.1 then (
        fm_25_113 (fm_25_35 n) x0 x1 x2 q7.2) else (
        if (8 : Int32) ≤ q7.1 then (
          fm_25_88 (fm_25_35 n) x0 x1 x2 q5.1 (4 : Int32) q7.2) else (
          (fx_ld q7.2 5 q7.1).bind fun v12 =>
          fm_25_88 (fm_25_35 n) x0 x1 x2 q5.1 v12 q7.2)))
theorem fe_25_35 {z : iv_Z} {d : Nat} (hd : 2 ≤ d) : ∀ (n : Nat) (x0 : Nat) (x1 : Int32) (x2 : Int32) (o3 : Option Value) (o4 : Option Value) (o5 : Option Value) (σ : fx_S) (q : fx_S) (g0 : fx_oc x0 2 = true), fm_25_35 n x0 x1 x2 σ = some q → fx_E z 25 d 35 [some (.ref x0), some (.int x1), some (.int x2), o3, o4, o5] [] σ none q := by
  intro n
  induction n with
  | zero =>
    intro x0 x1 x2 o3 o4 o5 σ q g0 h
    rw [fm_25_35] at h
    exact fx_no h
  | succ n ih =>
    intro x0 x1 x2 o3 o4 o5 σ q g0 h
    rw [fm_25_35] at h
    refine fs_iload_n (k := 2) (p := 36) (by decide +kernel) rfl rfl ?_
    refine fs_iload_n (k := 1) (p := 37) (by decide +kernel) rfl rfl ?_
    by_cases c3 : x1 ≤ x2
    · rw [if_pos c3] at h
      refine fs_icmp_ge_t (off := 82) (t := 119) (by decide +kernel) (by decide +kernel) c3 ?_
      have h := Option.some.inj h
      subst h
      exact fs_ret (by decide +kernel) rt_25
    · rw [if_neg c3] at h
      refine fs_icmp_ge_f (off := 82) (t := 119) (p := 40) (by decide +kernel) (by decide +kernel) rfl c3 ?_
      refine fs_aload_n (k := 0) (p := 41) (by decide +kernel) rfl rfl ?_
      refine fs_gfr (idx := 41) (ci := 2) (j := 10) (p := 44) (by decide +kernel) rfl (by decide +kernel) g0 (fr_2_10 g0) ?_
      refine fs_iconst (n := 0) (p := 45) (by decide +kernel) rfl kc_0 ?_
      refine fs_iload_n (k := 2) (p := 46) (by decide +kernel) rfl rfl ?_
      obtain ⟨q5, w4, h⟩ := fx_bd h
      refine fs_callV (idx := 136) (mj := 60) (ci := 6) (na := 2) (mx := 3) (p := 49) (args := [.ref 1, .int (0 : Int32), .int x2]) (rest := []) (al2 := [some (.ref 1), some (.int (0 : Int32)), some (.int x2)]) (by decide +kernel) rfl (by decide +kernel) fo_1 rfl rfl rfl rfl rfl rfl rfl (by omega) (fun d' hd' => fe_60 (by omega) w4) rfl ?_
      refine fs_istore_n (k := 3) (p := 50) (M := 6) (al' := [some (.ref x0), some (.int x1), some (.int x2), some (.int q5.1), o4, o5]) (by decide +kernel) rfl mx_25 rfl rfl ?_
      refine fs_aload_n (k := 0) (p := 51) (by decide +kernel) rfl rfl ?_
      refine fs_gfr (idx := 41) (ci := 2) (j := 10) (p := 54) (by decide +kernel) rfl (by decide +kernel) g0 (fr_2_10 g0) ?_
      refine fs_iconst (n := 1) (p := 55) (by decide +kernel) rfl kc_1 ?_
      refine fs_iload_n (k := 2) (p := 56) (by decide +kernel) rfl rfl ?_
      obtain ⟨q7, w6, h⟩ := fx_bd h
      refine fs_callV (idx := 136) (mj := 60) (ci := 6) (na := 2) (mx := 3) (p := 59) (args := [.ref 1, .int (1 : Int32), .int x2]) (rest := []) (al2 := [some (.ref 1), some (.int (1 : Int32)), some (.int x2)]) (by decide +kernel) rfl (by decide +kernel) fo_1 rfl rfl rfl rfl rfl rfl rfl (by omega) (fun d' hd' => fe_60 (by omega) w6) rfl ?_
      refine fs_istore (k := 4) (p := 61) (M := 6) (al' := [some (.ref x0), some (.int x1), some (.int x2), some (.int q5.1), some (.int q7.1), o5]) (by decide +kernel) rfl mx_25 rfl rfl ?_
      refine fs_iload_n (k := 3) (p := 62) (by decide +kernel) rfl rfl ?_
      refine fs_bipush (n := 8) (p := 64) (by decide +kernel) rfl kb_8 ?_
      by_cases c9 : (8 : Int32) ≤ q5.1
      · rw [if_pos c9] at h
        refine fs_icmp_ge_t (off := 49) (t := 113) (by decide +kernel) (by decide +kernel) c9 ?_
        exact fe_25_113 hd ih _ _ _ _ _ _ _ _ g0 h
      · rw [if_neg c9] at h
        refine fs_icmp_ge_f (off := 49) (t := 113) (p := 67) (by decide +kernel) (by decide +kernel) rfl c9 ?_
        refine fs_iload (k := 4) (p := 69) (by decide +kernel) rfl rfl ?_
        refine fs_bipush (n := 8) (p := 71) (by decide +kernel) rfl kb_8 ?_
        by_cases c11 : (8 : Int32) ≤ q7.1
        · rw [if_pos c11] at h
          refine fs_icmp_ge_t (off := 16) (t := 87) (by decide +kernel) (by decide +kernel) c11 ?_
          refine fs_iconst (n := 4) (p := 88) (by decide +kernel) rfl kc_4 ?_
          exact fe_25_88 hd ih _ _ _ _ _ _ _ _ _ g0 h
        · rw [if_neg c11] at h
          refine fs_icmp_ge_f (off := 16) (t := 87) (p := 74) (by decide +kernel) (by decide +kernel) rfl c11 ?_
          refine fs_aload_n (k := 0) (p := 75) (by decide +kernel) rfl rfl ?_
          refine fs_gfr (idx := 41) (ci := 2) (j := 10) (p := 78) (by decide +kernel) rfl (by decide +kernel) g0 (fr_2_10 g0) ?_
          refine fs_gfr (idx := 145) (ci := 6) (j := 3) (p := 81) (by decide +kernel) rfl (by decide +kernel) fo_1 (fr_a1_3) ?_
          refine fs_iload (k := 4) (p := 83) (by decide +kernel) rfl rfl ?_
          obtain ⟨v12, w13, h⟩ := fx_bd h
          refine fs_iaload (p := 84) (by decide +kernel) rfl w13 ?_
          refine fs_goto (off := 4) (p := 88) (by decide +kernel) (by decide +kernel) ?_
          exact fe_25_88 hd ih _ _ _ _ _ _ _ _ _ g0 h
def fm_25 (x0 : Nat) (σ : fx_S) : Option (fx_S) :=
  if fx_oc x0 2 = true then (
  (fm_68 (x0 + 21) σ).bind fun q44 =>
  (fx_cpy q44 (x0 + 1) (0 : Int32) ((x0 + 21) + 1) (0 : Int32) (8 : Int32)).bind fun t45 =>
  (fm_58 1 t45).bind fun q48 =>
  fm_25_35 100000 x0 q48.1 (0 : Int32) q48.2) else none
theorem fe_25 {z : iv_Z} {d : Nat} (hd : 2 ≤ d) {x0 : Nat} {σ : fx_S} {q : fx_S} (h : fm_25 x0 σ = some q) : fx_E z 25 d 0 [some (.ref x0), none, none, none, none, none] [] σ none q := by
  unfold fm_25 at h
  obtain ⟨g0, h⟩ := fx_gd h
  refine fs_aload_n (k := 0) (p := 1) (by decide +kernel) rfl rfl ?_
  refine fs_gfr (idx := 28) (ci := 2) (j := 4) (p := 4) (by decide +kernel) rfl (by decide +kernel) g0 (fr_2_4 g0) ?_
  obtain ⟨q44, w43, h⟩ := fx_bd h
  refine fs_callV (idx := 88) (mj := 68) (ci := 7) (na := 0) (mx := 1) (p := 7) (args := [.ref (x0 + 21)]) (rest := []) (al2 := [some (.ref (x0 + 21))]) (by decide +kernel) rfl (by decide +kernel) (fg_2_4 g0) rfl rfl rfl rfl rfl rfl rfl (by omega) (fun d' hd' => fe_68 (by omega) w43) rfl ?_
  refine fs_aload_n (k := 0) (p := 8) (by decide +kernel) rfl rfl ?_
  refine fs_gfr (idx := 9) (ci := 2) (j := 0) (p := 11) (by decide +kernel) rfl (by decide +kernel) g0 (fr_2_0 g0) ?_
  refine fs_iconst (n := 0) (p := 12) (by decide +kernel) rfl kc_0 ?_
  refine fs_aload_n (k := 0) (p := 13) (by decide +kernel) rfl rfl ?_
  refine fs_gfr (idx := 28) (ci := 2) (j := 4) (p := 16) (by decide +kernel) rfl (by decide +kernel) g0 (fr_2_4 g0) ?_
  refine fs_gfr (idx := 114) (ci := 7) (j := 0) (p := 19) (by decide +kernel) rfl (by decide +kernel) (fg_2_4 g0) (fr_7_0 (fg_2_4 g0)) ?_
  refine fs_iconst (n := 0) (p := 20) (by decide +kernel) rfl kc_0 ?_
  refine fs_bipush (n := 8) (p := 22) (by decide +kernel) rfl kb_8 ?_
  obtain ⟨t45, w46, h⟩ := fx_bd h
  refine fs_cpy (idx := 126) (p := 25) (by decide +kernel) rfl (by decide +kernel) rfl w46 ?_
  refine fs_aload_n (k := 0) (p := 26) (by decide +kernel) rfl rfl ?_
  refine fs_gfr (idx := 41) (ci := 2) (j := 10) (p := 29) (by decide +kernel) rfl (by decide +kernel) g0 (fr_2_10 g0) ?_
  obtain ⟨q48, w47, h⟩ := fx_bd h
  refine fs_callV (idx := 132) (mj := 58) (ci := 6) (na := 0) (mx := 1) (p := 32) (args := [.ref 1]) (rest := []) (al2 := [some (.ref 1)]) (by decide +kernel) rfl (by decide +kernel) fo_1 rfl rfl rfl rfl rfl rfl rfl (by omega) (fun d' hd' => fe_58 (by omega) w47) rfl ?_
  refine fs_istore_n (k := 1) (p := 33) (M := 6) (al' := [some (.ref x0), some (.int q48.1), none, none, none, none]) (by decide +kernel) rfl mx_25 rfl rfl ?_
  refine fs_iconst (n := 0) (p := 34) (by decide +kernel) rfl kc_0 ?_
  refine fs_istore_n (k := 2) (p := 35) (M := 6) (al' := [some (.ref x0), some (.int q48.1), some (.int (0 : Int32)), none, none, none]) (by decide +kernel) rfl mx_25 rfl rfl ?_
  exact fe_25_35 hd 100000 _ _ _ _ _ _ _ _ g0 h

/-! ZoneShares$Group.fillWay()V -/
theorem mx_26 : iv_mx 26 = 4 := by decide +kernel
theorem rt_26 : iv_rt 26 = none := by decide +kernel
def fm_26_76 : Nat → Nat → Int32 → fx_S → Option (fx_S)
  | 0, _, _, _ => none
  | n + 1, x0, x2, σ =>
    if (4 : Int32) ≤ x2 then (
      some σ) else (
      (fm_76 (x0 + 21) x2 σ).bind fun q4 =>
      (fx_st q4.2 ((x0 + 30) + 1) x2 q4.1).bind fun t5 =>
      fm_26_76 n x0 (x2 + (1 : Int32)) t5)
theorem fe_26_76 {z : iv_Z} {d : Nat} (hd : 2 ≤ d) : ∀ (n : Nat) (x0 : Nat) (x2 : Int32) (o1 : Option Value) (o3 : Option Value) (σ : fx_S) (q : fx_S) (g0 : fx_oc x0 2 = true), fm_26_76 n x0 x2 σ = some q → fx_E z 26 d 76 [some (.ref x0), o1, some (.int x2), o3] [] σ none q := by
  intro n
  induction n with
  | zero =>
    intro x0 x2 o1 o3 σ q g0 h
    rw [fm_26_76] at h
    exact fx_no h
  | succ n ih =>
    intro x0 x2 o1 o3 σ q g0 h
    rw [fm_26_76] at h
    refine fs_iload_n (k := 2) (p := 77) (by decide +kernel) rfl rfl ?_
    refine fs_iconst (n := 4) (p := 78) (by decide +kernel) rfl kc_4 ?_
    by_cases c2 : (4 : Int32) ≤ x2
    · rw [if_pos c2] at h
      refine fs_icmp_ge_t (off := 26) (t := 104) (by decide +kernel) (by decide +kernel) c2 ?_
      have h := Option.some.inj h
      subst h
      exact fs_ret (by decide +kernel) rt_26
    · rw [if_neg c2] at h
      refine fs_icmp_ge_f (off := 26) (t := 104) (p := 81) (by decide +kernel) (by decide +kernel) rfl c2 ?_
      refine fs_aload_n (k := 0) (p := 82) (by decide +kernel) rfl rfl ?_
      refine fs_gfr (idx := 31) (ci := 2) (j := 5) (p := 85) (by decide +kernel) rfl (by decide +kernel) g0 (fr_2_5 g0) ?_
      refine fs_gfr (idx := 114) (ci := 7) (j := 0) (p := 88) (by decide +kernel) rfl (by decide +kernel) (fg_2_5 g0) (fr_7_0 (fg_2_5 g0)) ?_
      refine fs_iload_n (k := 2) (p := 89) (by decide +kernel) rfl rfl ?_
      refine fs_aload_n (k := 0) (p := 90) (by decide +kernel) rfl rfl ?_
      refine fs_gfr (idx := 28) (ci := 2) (j := 4) (p := 93) (by decide +kernel) rfl (by decide +kernel) g0 (fr_2_4 g0) ?_
      refine fs_iload_n (k := 2) (p := 94) (by decide +kernel) rfl rfl ?_
      obtain ⟨q4, w3, h⟩ := fx_bd h
      refine fs_callV (idx := 142) (mj := 76) (ci := 7) (na := 1) (mx := 4) (p := 97) (args := [.ref (x0 + 21), .int x2]) (rest := [.int x2, .ref ((x0 + 30) + 1)]) (al2 := [some (.ref (x0 + 21)), some (.int x2), none, none]) (by decide +kernel) rfl (by decide +kernel) (fg_2_4 g0) rfl rfl rfl rfl rfl rfl rfl (by omega) (fun d' hd' => fe_76 (by omega) w3) rfl ?_
      obtain ⟨t5, w6, h⟩ := fx_bd h
      refine fs_iastore (p := 98) (by decide +kernel) rfl w6 ?_
      refine fs_iinc (k := 2) (n := 1) (p := 101) (M := 4) (al' := [some (.ref x0), (fx_kl o1), some (.int (x2 + (1 : Int32))), o3]) (by decide +kernel) rfl kc_1 mx_26 rfl rfl rfl ?_
      refine fs_goto (off := -25) (p := 76) (by decide +kernel) (by decide +kernel) ?_
      exact ih _ _ _ _ _ _ g0 h
def fm_26_68 (k_17 : Nat → Int32 → Int32 → fx_S → Option (fx_S)) (x0 : Nat) (x1 : Int32) (x2 : Int32) (σ : fx_S) : Option (fx_S) :=
  k_17 x0 x1 (x2 + (1 : Int32)) σ
theorem fe_26_68 {z : iv_Z} {d : Nat} (hd : 2 ≤ d) {k_17 : Nat → Int32 → Int32 → fx_S → Option (fx_S)} (hk_17 : ∀ (x0 : Nat) (x1 : Int32) (x2 : Int32) (o3 : Option Value) (σ : fx_S) (q : fx_S) (g0 : fx_oc x0 2 = true), k_17 x0 x1 x2 σ = some q → fx_E z 26 d 17 [some (.ref x0), some (.int x1), some (.int x2), o3] [] σ none q) (x0 : Nat) (x1 : Int32) (x2 : Int32) (o3 : Option Value) (σ : fx_S) (q : fx_S) (g0 : fx_oc x0 2 = true) (h : fm_26_68 k_17  x0 x1 x2 σ = some q) : fx_E z 26 d 68 [some (.ref x0), some (.int x1), some (.int x2), o3] [] σ none q := by
  unfold fm_26_68 at h
  refine fs_iinc (k := 2) (n := 1) (p := 71) (M := 4) (al' := [some (.ref x0), some (.int x1), some (.int (x2 + (1 : Int32))), o3]) (by decide +kernel) rfl kc_1 mx_26 rfl rfl rfl ?_
  refine fs_goto (off := -54) (p := 17) (by decide +kernel) (by decide +kernel) ?_
  exact hk_17 _ _ _ _ _ _ g0 h
def fm_26_17 : Nat → Nat → Int32 → Int32 → fx_S → Option (fx_S)
  | 0, _, _, _, _ => none
  | n + 1, x0, x1, x2, σ =>
    if x1 ≤ x2 then (
      fm_26_76 100000 x0 (0 : Int32) σ) else (
      (fm_60 1 (1 : Int32) x2 σ).bind fun q5 =>
      if (8 : Int32) ≤ q5.1 then (
        fm_26_68 (fm_26_17 n) x0 x1 x2 q5.2) else (
        (fx_ld q5.2 5 q5.1).bind fun v8 =>
        (fm_61 1 (q5.2.1 x0 9) x2 q5.2).bind fun q12 =>
        (fm_69 (x0 + 30) v8 q5.1 q12.1 (1 : Int32) q12.2).bind fun q14 =>
        fm_26_68 (fm_26_17 n) x0 x1 x2 q14))
theorem fe_26_17 {z : iv_Z} {d : Nat} (hd : 2 ≤ d) : ∀ (n : Nat) (x0 : Nat) (x1 : Int32) (x2 : Int32) (o3 : Option Value) (σ : fx_S) (q : fx_S) (g0 : fx_oc x0 2 = true), fm_26_17 n x0 x1 x2 σ = some q → fx_E z 26 d 17 [some (.ref x0), some (.int x1), some (.int x2), o3] [] σ none q := by
  intro n
  induction n with
  | zero =>
    intro x0 x1 x2 o3 σ q g0 h
    rw [fm_26_17] at h
    exact fx_no h
  | succ n ih =>
    intro x0 x1 x2 o3 σ q g0 h
    rw [fm_26_17] at h
    refine fs_iload_n (k := 2) (p := 18) (by decide +kernel) rfl rfl ?_
    refine fs_iload_n (k := 1) (p := 19) (by decide +kernel) rfl rfl ?_
    by_cases c3 : x1 ≤ x2
    · rw [if_pos c3] at h
      refine fs_icmp_ge_t (off := 55) (t := 74) (by decide +kernel) (by decide +kernel) c3 ?_
      refine fs_iconst (n := 0) (p := 75) (by decide +kernel) rfl kc_0 ?_
      refine fs_istore_n (k := 2) (p := 76) (M := 4) (al' := [some (.ref x0), some (.int x1), some (.int (0 : Int32)), o3]) (by decide +kernel) rfl mx_26 rfl rfl ?_
      exact fe_26_76 hd 100000 _ _ _ _ _ _ g0 h
    · rw [if_neg c3] at h
      refine fs_icmp_ge_f (off := 55) (t := 74) (p := 22) (by decide +kernel) (by decide +kernel) rfl c3 ?_
      refine fs_aload_n (k := 0) (p := 23) (by decide +kernel) rfl rfl ?_
      refine fs_gfr (idx := 41) (ci := 2) (j := 10) (p := 26) (by decide +kernel) rfl (by decide +kernel) g0 (fr_2_10 g0) ?_
      refine fs_iconst (n := 1) (p := 27) (by decide +kernel) rfl kc_1 ?_
      refine fs_iload_n (k := 2) (p := 28) (by decide +kernel) rfl rfl ?_
      obtain ⟨q5, w4, h⟩ := fx_bd h
      refine fs_callV (idx := 136) (mj := 60) (ci := 6) (na := 2) (mx := 3) (p := 31) (args := [.ref 1, .int (1 : Int32), .int x2]) (rest := []) (al2 := [some (.ref 1), some (.int (1 : Int32)), some (.int x2)]) (by decide +kernel) rfl (by decide +kernel) fo_1 rfl rfl rfl rfl rfl rfl rfl (by omega) (fun d' hd' => fe_60 (by omega) w4) rfl ?_
      refine fs_istore_n (k := 3) (p := 32) (M := 4) (al' := [some (.ref x0), some (.int x1), some (.int x2), some (.int q5.1)]) (by decide +kernel) rfl mx_26 rfl rfl ?_
      refine fs_iload_n (k := 3) (p := 33) (by decide +kernel) rfl rfl ?_
      refine fs_bipush (n := 8) (p := 35) (by decide +kernel) rfl kb_8 ?_
      by_cases c7 : (8 : Int32) ≤ q5.1
      · rw [if_pos c7] at h
        refine fs_icmp_ge_t (off := 33) (t := 68) (by decide +kernel) (by decide +kernel) c7 ?_
        exact fe_26_68 hd ih _ _ _ _ _ _ g0 h
      · rw [if_neg c7] at h
        refine fs_icmp_ge_f (off := 33) (t := 68) (p := 38) (by decide +kernel) (by decide +kernel) rfl c7 ?_
        refine fs_aload_n (k := 0) (p := 39) (by decide +kernel) rfl rfl ?_
        refine fs_gfr (idx := 31) (ci := 2) (j := 5) (p := 42) (by decide +kernel) rfl (by decide +kernel) g0 (fr_2_5 g0) ?_
        refine fs_aload_n (k := 0) (p := 43) (by decide +kernel) rfl rfl ?_
        refine fs_gfr (idx := 41) (ci := 2) (j := 10) (p := 46) (by decide +kernel) rfl (by decide +kernel) g0 (fr_2_10 g0) ?_
        refine fs_gfr (idx := 145) (ci := 6) (j := 3) (p := 49) (by decide +kernel) rfl (by decide +kernel) fo_1 (fr_a1_3) ?_
        refine fs_iload_n (k := 3) (p := 50) (by decide +kernel) rfl rfl ?_
        obtain ⟨v8, w9, h⟩ := fx_bd h
        refine fs_iaload (p := 51) (by decide +kernel) rfl w9 ?_
        refine fs_iload_n (k := 3) (p := 52) (by decide +kernel) rfl rfl ?_
        refine fs_aload_n (k := 0) (p := 53) (by decide +kernel) rfl rfl ?_
        refine fs_gfr (idx := 41) (ci := 2) (j := 10) (p := 56) (by decide +kernel) rfl (by decide +kernel) g0 (fr_2_10 g0) ?_
        refine fs_aload_n (k := 0) (p := 57) (by decide +kernel) rfl rfl ?_
        refine fs_gfi (idx := 37) (ci := 2) (j := 9) (p := 60) (by decide +kernel) rfl (by decide +kernel) g0 ?_
        refine fs_iload_n (k := 2) (p := 61) (by decide +kernel) rfl rfl ?_
        obtain ⟨q12, w11, h⟩ := fx_bd h
        refine fs_callV (idx := 139) (mj := 61) (ci := 6) (na := 2) (mx := 3) (p := 64) (args := [.ref 1, .int (q5.2.1 x0 9), .int x2]) (rest := [.int q5.1, .int v8, .ref (x0 + 30)]) (al2 := [some (.ref 1), some (.int (q5.2.1 x0 9)), some (.int x2)]) (by decide +kernel) rfl (by decide +kernel) fo_1 rfl rfl rfl rfl rfl rfl rfl (by omega) (fun d' hd' => fe_61 (by omega) w11) rfl ?_
        refine fs_iconst (n := 1) (p := 65) (by decide +kernel) rfl kc_1 ?_
        obtain ⟨q14, w13, h⟩ := fx_bd h
        refine fs_callV (idx := 98) (mj := 69) (ci := 7) (na := 4) (mx := 6) (p := 68) (args := [.ref (x0 + 30), .int v8, .int q5.1, .int q12.1, .int (1 : Int32)]) (rest := []) (al2 := [some (.ref (x0 + 30)), some (.int v8), some (.int q5.1), some (.int q12.1), some (.int (1 : Int32)), none]) (by decide +kernel) rfl (by decide +kernel) (fg_2_5 g0) rfl rfl rfl rfl rfl rfl rfl (by omega) (fun d' hd' => fe_69 (by omega) w13) rfl ?_
        exact fe_26_68 hd ih _ _ _ _ _ _ g0 h
def fm_26 (x0 : Nat) (σ : fx_S) : Option (fx_S) :=
  if fx_oc x0 2 = true then (
  (fm_68 (x0 + 30) σ).bind fun q48 =>
  (fm_58 1 q48).bind fun q50 =>
  fm_26_17 100000 x0 q50.1 (0 : Int32) q50.2) else none
theorem fe_26 {z : iv_Z} {d : Nat} (hd : 2 ≤ d) {x0 : Nat} {σ : fx_S} {q : fx_S} (h : fm_26 x0 σ = some q) : fx_E z 26 d 0 [some (.ref x0), none, none, none] [] σ none q := by
  unfold fm_26 at h
  obtain ⟨g0, h⟩ := fx_gd h
  refine fs_aload_n (k := 0) (p := 1) (by decide +kernel) rfl rfl ?_
  refine fs_gfr (idx := 31) (ci := 2) (j := 5) (p := 4) (by decide +kernel) rfl (by decide +kernel) g0 (fr_2_5 g0) ?_
  obtain ⟨q48, w47, h⟩ := fx_bd h
  refine fs_callV (idx := 88) (mj := 68) (ci := 7) (na := 0) (mx := 1) (p := 7) (args := [.ref (x0 + 30)]) (rest := []) (al2 := [some (.ref (x0 + 30))]) (by decide +kernel) rfl (by decide +kernel) (fg_2_5 g0) rfl rfl rfl rfl rfl rfl rfl (by omega) (fun d' hd' => fe_68 (by omega) w47) rfl ?_
  refine fs_aload_n (k := 0) (p := 8) (by decide +kernel) rfl rfl ?_
  refine fs_gfr (idx := 41) (ci := 2) (j := 10) (p := 11) (by decide +kernel) rfl (by decide +kernel) g0 (fr_2_10 g0) ?_
  obtain ⟨q50, w49, h⟩ := fx_bd h
  refine fs_callV (idx := 132) (mj := 58) (ci := 6) (na := 0) (mx := 1) (p := 14) (args := [.ref 1]) (rest := []) (al2 := [some (.ref 1)]) (by decide +kernel) rfl (by decide +kernel) fo_1 rfl rfl rfl rfl rfl rfl rfl (by omega) (fun d' hd' => fe_58 (by omega) w49) rfl ?_
  refine fs_istore_n (k := 1) (p := 15) (M := 4) (al' := [some (.ref x0), some (.int q50.1), none, none]) (by decide +kernel) rfl mx_26 rfl rfl ?_
  refine fs_iconst (n := 0) (p := 16) (by decide +kernel) rfl kc_0 ?_
  refine fs_istore_n (k := 2) (p := 17) (M := 4) (al' := [some (.ref x0), some (.int q50.1), some (.int (0 : Int32)), none]) (by decide +kernel) rfl mx_26 rfl rfl ?_
  exact fe_26_17 hd 100000 _ _ _ _ _ _ g0 h

/-! ZoneShares$Rounder.open(LZoneShares$Table;)V -/
theorem mx_42 : iv_mx 42 = 7 := by decide +kernel
theorem rt_42 : iv_rt 42 = none := by decide +kernel
def fm_42_115 (k_54 : Nat → Int64 → Int32 → fx_S → Option (fx_S)) (x1 : Nat) (x2 : Int64) (x4 : Int32) (s1 : Int32) (s2 : Int32) (s3 : Int32) (σ : fx_S) : Option (fx_S) :=
  (fx_st σ 10 s1 (s2 + s3)).bind fun t1 =>
  (fx_st t1 11 x4 (0 : Int32)).bind fun t4 =>
  k_54 x1 x2 (x4 + (1 : Int32)) t4
theorem fe_42_115 {z : iv_Z} {d : Nat} (hd : 2 ≤ d) {k_54 : Nat → Int64 → Int32 → fx_S → Option (fx_S)} (hk_54 : ∀ (x1 : Nat) (x2 : Int64) (x4 : Int32) (o5 : Option Value) (σ : fx_S) (q : fx_S) (g1 : fx_oc x1 7 = true), k_54 x1 x2 x4 σ = some q → fx_E z 42 d 54 [some (.ref 6), some (.ref x1), some (.long x2), none, some (.int x4), o5, none] [] σ none q) (x1 : Nat) (x2 : Int64) (x4 : Int32) (s1 : Int32) (s2 : Int32) (s3 : Int32) (o5 : Option Value) (σ : fx_S) (q : fx_S) (g1 : fx_oc x1 7 = true) (h : fm_42_115 k_54  x1 x2 x4 s1 s2 s3 σ = some q) : fx_E z 42 d 115 [some (.ref 6), some (.ref x1), some (.long x2), none, some (.int x4), o5, none] [.int s3, .int s2, .int s1, .ref 10] σ none q := by
  unfold fm_42_115 at h
  refine fs_iadd (p := 116) (by decide +kernel) rfl ?_
  obtain ⟨t1, w2, h⟩ := fx_bd h
  refine fs_iastore (p := 117) (by decide +kernel) rfl w2 ?_
  refine fs_aload_n (k := 0) (p := 118) (by decide +kernel) rfl rfl ?_
  refine fs_gfr (idx := 24) (ci := 5) (j := 4) (p := 121) (by decide +kernel) rfl (by decide +kernel) fo_6 (fr_a6_4) ?_
  refine fs_iload (k := 4) (p := 123) (by decide +kernel) rfl rfl ?_
  refine fs_iconst (n := 0) (p := 124) (by decide +kernel) rfl kc_0 ?_
  obtain ⟨t4, w5, h⟩ := fx_bd h
  refine fs_iastore (p := 125) (by decide +kernel) rfl w5 ?_
  refine fs_iinc (k := 4) (n := 1) (p := 128) (M := 7) (al' := [some (.ref 6), some (.ref x1), some (.long x2), none, some (.int (x4 + (1 : Int32))), o5, none]) (by decide +kernel) rfl kc_1 mx_42 rfl rfl rfl ?_
  refine fs_goto (off := -74) (p := 54) (by decide +kernel) (by decide +kernel) ?_
  exact hk_54 _ _ _ _ _ _ g1 h
def fm_42_54 : Nat → Nat → Int64 → Int32 → fx_S → Option (fx_S)
  | 0, _, _, _, _ => none
  | n + 1, x1, x2, x4, σ =>
    if (9 : Int32) ≤ x4 then (
      some σ) else (
      if x2 ≤ (0 : Int64) then (
        some σ) else (
        (fm_79 x1 x4 x2 σ).bind fun q6 =>
        if ¬ x2 = 0 then (
        (fx_st q6.2 9 x4 ((q6.1 / x2)).toInt32).bind fun t9 =>
        (fx_ld t9 9 x4).bind fun v12 =>
        if ¬ x2 = 0 then (
        if ¬ (q6.1 - q6.1 / x2 * x2) = (0 : Int64) then (
          fm_42_115 (fm_42_54 n) x1 x2 x4 x4 v12 (1 : Int32) t9) else (
          fm_42_115 (fm_42_54 n) x1 x2 x4 x4 v12 (0 : Int32) t9)) else none) else none))
theorem fe_42_54 {z : iv_Z} {d : Nat} (hd : 2 ≤ d) : ∀ (n : Nat) (x1 : Nat) (x2 : Int64) (x4 : Int32) (o5 : Option Value) (σ : fx_S) (q : fx_S) (g1 : fx_oc x1 7 = true), fm_42_54 n x1 x2 x4 σ = some q → fx_E z 42 d 54 [some (.ref 6), some (.ref x1), some (.long x2), none, some (.int x4), o5, none] [] σ none q := by
  intro n
  induction n with
  | zero =>
    intro x1 x2 x4 o5 σ q g1 h
    rw [fm_42_54] at h
    exact fx_no h
  | succ n ih =>
    intro x1 x2 x4 o5 σ q g1 h
    rw [fm_42_54] at h
    refine fs_iload (k := 4) (p := 56) (by decide +kernel) rfl rfl ?_
    refine fs_bipush (n := 9) (p := 58) (by decide +kernel) rfl kb_9 ?_
    by_cases c2 : (9 : Int32) ≤ x4
    · rw [if_pos c2] at h
      refine fs_icmp_ge_t (off := 73) (t := 131) (by decide +kernel) (by decide +kernel) c2 ?_
      have h := Option.some.inj h
      subst h
      exact fs_ret (by decide +kernel) rt_42
    · rw [if_neg c2] at h
      refine fs_icmp_ge_f (off := 73) (t := 131) (p := 61) (by decide +kernel) (by decide +kernel) rfl c2 ?_
      refine fs_lload_n (k := 2) (p := 62) (by decide +kernel) rfl rfl ?_
      refine fs_lconst (n := 0) (p := 63) (by decide +kernel) rfl kl_0 ?_
      by_cases c4 : x2 ≤ (0 : Int64)
      · rw [if_pos c4] at h
        refine fs_lcmp_le_t (off := 67) (t := 131) (by decide +kernel) (by decide +kernel) (by decide +kernel) c4 ?_
        have h := Option.some.inj h
        subst h
        exact fs_ret (by decide +kernel) rt_42
      · rw [if_neg c4] at h
        refine fs_lcmp_le_f (off := 67) (t := 131) (p := 67) (by decide +kernel) (by decide +kernel) (by decide +kernel) rfl c4 ?_
        refine fs_aload_n (k := 1) (p := 68) (by decide +kernel) rfl rfl ?_
        refine fs_iload (k := 4) (p := 70) (by decide +kernel) rfl rfl ?_
        refine fs_lload_n (k := 2) (p := 71) (by decide +kernel) rfl rfl ?_
        obtain ⟨q6, w5, h⟩ := fx_bd h
        refine fs_callV (idx := 73) (mj := 79) (ci := 7) (na := 2) (mx := 7) (p := 74) (args := [.ref x1, .int x4, .long x2]) (rest := []) (al2 := [some (.ref x1), some (.int x4), some (.long x2), none, none, none, none]) (by decide +kernel) rfl (by decide +kernel) g1 rfl rfl rfl rfl rfl rfl rfl (by omega) (fun d' hd' => fe_79 (by omega) w5) rfl ?_
        refine fs_lstore (k := 5) (p := 76) (M := 7) (al' := [some (.ref 6), some (.ref x1), some (.long x2), none, some (.int x4), some (.long q6.1), none]) (by decide +kernel) rfl mx_42 rfl rfl ?_
        refine fs_aload_n (k := 0) (p := 77) (by decide +kernel) rfl rfl ?_
        refine fs_gfr (idx := 18) (ci := 5) (j := 2) (p := 80) (by decide +kernel) rfl (by decide +kernel) fo_6 (fr_a6_2) ?_
        refine fs_iload (k := 4) (p := 82) (by decide +kernel) rfl rfl ?_
        refine fs_lload (k := 5) (p := 84) (by decide +kernel) rfl rfl ?_
        refine fs_lload_n (k := 2) (p := 85) (by decide +kernel) rfl rfl ?_
        obtain ⟨z8, h⟩ := fx_gd h
        refine fs_ldiv (p := 86) (by decide +kernel) rfl z8 ?_
        refine fs_l2i (p := 87) (by decide +kernel) rfl ?_
        obtain ⟨t9, w10, h⟩ := fx_bd h
        refine fs_iastore (p := 88) (by decide +kernel) rfl w10 ?_
        refine fs_aload_n (k := 0) (p := 89) (by decide +kernel) rfl rfl ?_
        refine fs_gfr (idx := 21) (ci := 5) (j := 3) (p := 92) (by decide +kernel) rfl (by decide +kernel) fo_6 (fr_a6_3) ?_
        refine fs_iload (k := 4) (p := 94) (by decide +kernel) rfl rfl ?_
        refine fs_aload_n (k := 0) (p := 95) (by decide +kernel) rfl rfl ?_
        refine fs_gfr (idx := 18) (ci := 5) (j := 2) (p := 98) (by decide +kernel) rfl (by decide +kernel) fo_6 (fr_a6_2) ?_
        refine fs_iload (k := 4) (p := 100) (by decide +kernel) rfl rfl ?_
        obtain ⟨v12, w13, h⟩ := fx_bd h
        refine fs_iaload (p := 101) (by decide +kernel) rfl w13 ?_
        refine fs_lload (k := 5) (p := 103) (by decide +kernel) rfl rfl ?_
        refine fs_lload_n (k := 2) (p := 104) (by decide +kernel) rfl rfl ?_
        obtain ⟨z14, h⟩ := fx_gd h
        refine fs_lrem (p := 105) (by decide +kernel) rfl z14 ?_
        refine fs_lconst (n := 0) (p := 106) (by decide +kernel) rfl kl_0 ?_
        by_cases c16 : ¬ (q6.1 - q6.1 / x2 * x2) = (0 : Int64)
        · rw [if_pos c16] at h
          refine fs_lcmp_ne_t (off := 7) (t := 114) (by decide +kernel) (by decide +kernel) (by decide +kernel) c16 ?_
          refine fs_iconst (n := 1) (p := 115) (by decide +kernel) rfl kc_1 ?_
          exact fe_42_115 hd ih _ _ _ _ _ _ _ _ _ g1 h
        · rw [if_neg c16] at h
          refine fs_lcmp_ne_f (off := 7) (t := 114) (p := 110) (by decide +kernel) (by decide +kernel) (by decide +kernel) rfl c16 ?_
          refine fs_iconst (n := 0) (p := 111) (by decide +kernel) rfl kc_0 ?_
          refine fs_goto (off := 4) (p := 115) (by decide +kernel) (by decide +kernel) ?_
          exact fe_42_115 hd ih _ _ _ _ _ _ _ _ _ g1 h
def fm_42_36 (k_8 : Nat → Int64 → Int32 → fx_S → Option (fx_S)) (x1 : Nat) (x2 : Int64) (x4 : Int32) (s1 : Int32) (s2 : Int32) (σ : fx_S) : Option (fx_S) :=
  (fx_st σ 7 s1 s2).bind fun t1 =>
  (fx_st t1 8 x4 (0 : Int32)).bind fun t4 =>
  k_8 x1 x2 (x4 + (1 : Int32)) t4
theorem fe_42_36 {z : iv_Z} {d : Nat} (hd : 2 ≤ d) {k_8 : Nat → Int64 → Int32 → fx_S → Option (fx_S)} (hk_8 : ∀ (x1 : Nat) (x2 : Int64) (x4 : Int32) (σ : fx_S) (q : fx_S) (g1 : fx_oc x1 7 = true), k_8 x1 x2 x4 σ = some q → fx_E z 42 d 8 [some (.ref 6), some (.ref x1), some (.long x2), none, some (.int x4), none, none] [] σ none q) (x1 : Nat) (x2 : Int64) (x4 : Int32) (s1 : Int32) (s2 : Int32) (σ : fx_S) (q : fx_S) (g1 : fx_oc x1 7 = true) (h : fm_42_36 k_8  x1 x2 x4 s1 s2 σ = some q) : fx_E z 42 d 36 [some (.ref 6), some (.ref x1), some (.long x2), none, some (.int x4), none, none] [.int s2, .int s1, .ref 7] σ none q := by
  unfold fm_42_36 at h
  obtain ⟨t1, w2, h⟩ := fx_bd h
  refine fs_iastore (p := 37) (by decide +kernel) rfl w2 ?_
  refine fs_aload_n (k := 0) (p := 38) (by decide +kernel) rfl rfl ?_
  refine fs_gfr (idx := 15) (ci := 5) (j := 1) (p := 41) (by decide +kernel) rfl (by decide +kernel) fo_6 (fr_a6_1) ?_
  refine fs_iload (k := 4) (p := 43) (by decide +kernel) rfl rfl ?_
  refine fs_iconst (n := 0) (p := 44) (by decide +kernel) rfl kc_0 ?_
  obtain ⟨t4, w5, h⟩ := fx_bd h
  refine fs_iastore (p := 45) (by decide +kernel) rfl w5 ?_
  refine fs_iinc (k := 4) (n := 1) (p := 48) (M := 7) (al' := [some (.ref 6), some (.ref x1), some (.long x2), none, some (.int (x4 + (1 : Int32))), none, none]) (by decide +kernel) rfl kc_1 mx_42 rfl rfl rfl ?_
  refine fs_goto (off := -40) (p := 8) (by decide +kernel) (by decide +kernel) ?_
  exact hk_8 _ _ _ _ _ g1 h
def fm_42_8 : Nat → Nat → Int64 → Int32 → fx_S → Option (fx_S)
  | 0, _, _, _, _ => none
  | n + 1, x1, x2, x4, σ =>
    if (72 : Int32) ≤ x4 then (
      fm_42_54 100000 x1 x2 (0 : Int32) σ) else (
      (fx_ld σ (x1 + 7) x4).bind fun v3 =>
      if v3 ≤ 0 then (
        fm_42_36 (fm_42_8 n) x1 x2 x4 x4 (0 : Int32) σ) else (
        fm_42_36 (fm_42_8 n) x1 x2 x4 x4 (1 : Int32) σ))
theorem fe_42_8 {z : iv_Z} {d : Nat} (hd : 2 ≤ d) : ∀ (n : Nat) (x1 : Nat) (x2 : Int64) (x4 : Int32) (σ : fx_S) (q : fx_S) (g1 : fx_oc x1 7 = true), fm_42_8 n x1 x2 x4 σ = some q → fx_E z 42 d 8 [some (.ref 6), some (.ref x1), some (.long x2), none, some (.int x4), none, none] [] σ none q := by
  intro n
  induction n with
  | zero =>
    intro x1 x2 x4 σ q g1 h
    rw [fm_42_8] at h
    exact fx_no h
  | succ n ih =>
    intro x1 x2 x4 σ q g1 h
    rw [fm_42_8] at h
    refine fs_iload (k := 4) (p := 10) (by decide +kernel) rfl rfl ?_
    refine fs_bipush (n := 72) (p := 12) (by decide +kernel) rfl kb_72 ?_
    by_cases c2 : (72 : Int32) ≤ x4
    · rw [if_pos c2] at h
      refine fs_icmp_ge_t (off := 39) (t := 51) (by decide +kernel) (by decide +kernel) c2 ?_
      refine fs_iconst (n := 0) (p := 52) (by decide +kernel) rfl kc_0 ?_
      refine fs_istore (k := 4) (p := 54) (M := 7) (al' := [some (.ref 6), some (.ref x1), some (.long x2), none, some (.int (0 : Int32)), none, none]) (by decide +kernel) rfl mx_42 rfl rfl ?_
      exact fe_42_54 hd 100000 _ _ _ _ _ _ g1 h
    · rw [if_neg c2] at h
      refine fs_icmp_ge_f (off := 39) (t := 51) (p := 15) (by decide +kernel) (by decide +kernel) rfl c2 ?_
      refine fs_aload_n (k := 0) (p := 16) (by decide +kernel) rfl rfl ?_
      refine fs_gfr (idx := 11) (ci := 5) (j := 0) (p := 19) (by decide +kernel) rfl (by decide +kernel) fo_6 (fr_a6_0) ?_
      refine fs_iload (k := 4) (p := 21) (by decide +kernel) rfl rfl ?_
      refine fs_aload_n (k := 1) (p := 22) (by decide +kernel) rfl rfl ?_
      refine fs_gfr (idx := 70) (ci := 7) (j := 6) (p := 25) (by decide +kernel) rfl (by decide +kernel) g1 (fr_7_6 g1) ?_
      refine fs_iload (k := 4) (p := 27) (by decide +kernel) rfl rfl ?_
      obtain ⟨v3, w4, h⟩ := fx_bd h
      refine fs_iaload (p := 28) (by decide +kernel) rfl w4 ?_
      by_cases c7 : v3 ≤ 0
      · rw [if_pos c7] at h
        refine fs_if_le_t (off := 7) (t := 35) (by decide +kernel) (by decide +kernel) c7 ?_
        refine fs_iconst (n := 0) (p := 36) (by decide +kernel) rfl kc_0 ?_
        exact fe_42_36 hd ih _ _ _ _ _ _ _ g1 h
      · rw [if_neg c7] at h
        refine fs_if_le_f (off := 7) (t := 35) (p := 31) (by decide +kernel) (by decide +kernel) rfl c7 ?_
        refine fs_iconst (n := 1) (p := 32) (by decide +kernel) rfl kc_1 ?_
        refine fs_goto (off := 4) (p := 36) (by decide +kernel) (by decide +kernel) ?_
        exact fe_42_36 hd ih _ _ _ _ _ _ _ g1 h
def fm_42 (x1 : Nat) (σ : fx_S) : Option (fx_S) :=
  if fx_oc x1 7 = true then (
  (fm_78 x1 σ).bind fun q55 =>
  fm_42_8 100000 x1 q55.1 (0 : Int32) q55.2) else none
theorem fe_42 {z : iv_Z} {d : Nat} (hd : 2 ≤ d) {x1 : Nat} {σ : fx_S} {q : fx_S} (h : fm_42 x1 σ = some q) : fx_E z 42 d 0 [some (.ref 6), some (.ref x1), none, none, none, none, none] [] σ none q := by
  unfold fm_42 at h
  obtain ⟨g1, h⟩ := fx_gd h
  refine fs_aload_n (k := 1) (p := 1) (by decide +kernel) rfl rfl ?_
  obtain ⟨q55, w54, h⟩ := fx_bd h
  refine fs_callV (idx := 66) (mj := 78) (ci := 7) (na := 0) (mx := 6) (p := 4) (args := [.ref x1]) (rest := []) (al2 := [some (.ref x1), none, none, none, none, none]) (by decide +kernel) rfl (by decide +kernel) g1 rfl rfl rfl rfl rfl rfl rfl (by omega) (fun d' hd' => fe_78 (by omega) w54) rfl ?_
  refine fs_lstore_n (k := 2) (p := 5) (M := 7) (al' := [some (.ref 6), some (.ref x1), some (.long q55.1), none, none, none, none]) (by decide +kernel) rfl mx_42 rfl rfl ?_
  refine fs_iconst (n := 0) (p := 6) (by decide +kernel) rfl kc_0 ?_
  refine fs_istore (k := 4) (p := 8) (M := 7) (al' := [some (.ref 6), some (.ref x1), some (.long q55.1), none, some (.int (0 : Int32)), none, none]) (by decide +kernel) rfl mx_42 rfl rfl ?_
  exact fe_42_8 hd 100000 _ _ _ _ _ g1 h

/-! ZoneShares$Rounder.fillRow(II)V -/
theorem mx_43 : iv_mx 43 = 4 := by decide +kernel
theorem rt_43 : iv_rt 43 = none := by decide +kernel
def fm_43_30 (k_2 : Int32 → Int32 → Int32 → fx_S → Option (fx_S)) (x1 : Int32) (x2 : Int32) (x3 : Int32) (σ : fx_S) : Option (fx_S) :=
  k_2 x1 x2 (x3 + (1 : Int32)) σ
theorem fe_43_30 {z : iv_Z} {d : Nat} (hd : 3 ≤ d) {k_2 : Int32 → Int32 → Int32 → fx_S → Option (fx_S)} (hk_2 : ∀ (x1 : Int32) (x2 : Int32) (x3 : Int32) (σ : fx_S) (q : fx_S), k_2 x1 x2 x3 σ = some q → fx_E z 43 d 2 [some (.ref 6), some (.int x1), some (.int x2), some (.int x3)] [] σ none q) (x1 : Int32) (x2 : Int32) (x3 : Int32) (σ : fx_S) (q : fx_S) (h : fm_43_30 k_2  x1 x2 x3 σ = some q) : fx_E z 43 d 30 [some (.ref 6), some (.int x1), some (.int x2), some (.int x3)] [] σ none q := by
  unfold fm_43_30 at h
  refine fs_iinc (k := 3) (n := 1) (p := 33) (M := 4) (al' := [some (.ref 6), some (.int x1), some (.int x2), some (.int (x3 + (1 : Int32)))]) (by decide +kernel) rfl kc_1 mx_43 rfl rfl rfl ?_
  refine fs_goto (off := -31) (p := 2) (by decide +kernel) (by decide +kernel) ?_
  exact hk_2 _ _ _ _ _ h
def fm_43_2 : Nat → Int32 → Int32 → Int32 → fx_S → Option (fx_S)
  | 0, _, _, _, _ => none
  | n + 1, x1, x2, x3, σ =>
    if x2 ≤ x3 then (
      some σ) else (
      if (9 : Int32) ≤ x3 then (
        some σ) else (
        (fm_46 x1 (17 : Int32) σ).bind fun q6 =>
        if (fx_b q6.1) = 0 then (
          fm_43_30 (fm_43_2 n) x1 x2 x3 q6.2) else (
          (fm_51 x1 (17 : Int32) q6.2).bind fun q9 =>
          fm_43_30 (fm_43_2 n) x1 x2 x3 q9)))
theorem fe_43_2 {z : iv_Z} {d : Nat} (hd : 3 ≤ d) : ∀ (n : Nat) (x1 : Int32) (x2 : Int32) (x3 : Int32) (σ : fx_S) (q : fx_S), fm_43_2 n x1 x2 x3 σ = some q → fx_E z 43 d 2 [some (.ref 6), some (.int x1), some (.int x2), some (.int x3)] [] σ none q := by
  intro n
  induction n with
  | zero =>
    intro x1 x2 x3 σ q  h
    rw [fm_43_2] at h
    exact fx_no h
  | succ n ih =>
    intro x1 x2 x3 σ q  h
    rw [fm_43_2] at h
    refine fs_iload_n (k := 3) (p := 3) (by decide +kernel) rfl rfl ?_
    refine fs_iload_n (k := 2) (p := 4) (by decide +kernel) rfl rfl ?_
    by_cases c3 : x2 ≤ x3
    · rw [if_pos c3] at h
      refine fs_icmp_ge_t (off := 32) (t := 36) (by decide +kernel) (by decide +kernel) c3 ?_
      have h := Option.some.inj h
      subst h
      exact fs_ret (by decide +kernel) rt_43
    · rw [if_neg c3] at h
      refine fs_icmp_ge_f (off := 32) (t := 36) (p := 7) (by decide +kernel) (by decide +kernel) rfl c3 ?_
      refine fs_iload_n (k := 3) (p := 8) (by decide +kernel) rfl rfl ?_
      refine fs_bipush (n := 9) (p := 10) (by decide +kernel) rfl kb_9 ?_
      by_cases c4 : (9 : Int32) ≤ x3
      · rw [if_pos c4] at h
        refine fs_icmp_ge_t (off := 26) (t := 36) (by decide +kernel) (by decide +kernel) c4 ?_
        have h := Option.some.inj h
        subst h
        exact fs_ret (by decide +kernel) rt_43
      · rw [if_neg c4] at h
        refine fs_icmp_ge_f (off := 26) (t := 36) (p := 13) (by decide +kernel) (by decide +kernel) rfl c4 ?_
        refine fs_aload_n (k := 0) (p := 14) (by decide +kernel) rfl rfl ?_
        refine fs_iload_n (k := 1) (p := 15) (by decide +kernel) rfl rfl ?_
        refine fs_bipush (n := 17) (p := 17) (by decide +kernel) rfl kb_17 ?_
        obtain ⟨q6, w5, h⟩ := fx_bd h
        refine fs_callV (idx := 77) (mj := 46) (ci := 5) (na := 2) (mx := 5) (p := 20) (args := [.ref 6, .int x1, .int (17 : Int32)]) (rest := []) (al2 := [some (.ref 6), some (.int x1), some (.int (17 : Int32)), none, none]) (by decide +kernel) rfl (by decide +kernel) fo_6 rfl rfl rfl rfl rfl rfl rfl (by omega) (fun d' hd' => fe_46 (by omega) w5) rfl ?_
        by_cases c7 : (fx_b q6.1) = 0
        · rw [if_pos c7] at h
          refine fs_if_eq_t (off := 10) (t := 30) (by decide +kernel) (by decide +kernel) c7 ?_
          exact fe_43_30 hd ih _ _ _ _ _ h
        · rw [if_neg c7] at h
          refine fs_if_eq_f (off := 10) (t := 30) (p := 23) (by decide +kernel) (by decide +kernel) rfl c7 ?_
          refine fs_aload_n (k := 0) (p := 24) (by decide +kernel) rfl rfl ?_
          refine fs_iload_n (k := 1) (p := 25) (by decide +kernel) rfl rfl ?_
          refine fs_bipush (n := 17) (p := 27) (by decide +kernel) rfl kb_17 ?_
          obtain ⟨q9, w8, h⟩ := fx_bd h
          refine fs_callV (idx := 81) (mj := 51) (ci := 5) (na := 2) (mx := 5) (p := 30) (args := [.ref 6, .int x1, .int (17 : Int32)]) (rest := []) (al2 := [some (.ref 6), some (.int x1), some (.int (17 : Int32)), none, none]) (by decide +kernel) rfl (by decide +kernel) fo_6 rfl rfl rfl rfl rfl rfl rfl (by omega) (fun d' hd' => fe_51 (by omega) w8) rfl ?_
          exact fe_43_30 hd ih _ _ _ _ _ h
def fm_43 (x1 : Int32) (x2 : Int32) (σ : fx_S) : Option (fx_S) :=
  fm_43_2 100000 x1 x2 (0 : Int32) σ
theorem fe_43 {z : iv_Z} {d : Nat} (hd : 3 ≤ d) {x1 : Int32} {x2 : Int32} {σ : fx_S} {q : fx_S} (h : fm_43 x1 x2 σ = some q) : fx_E z 43 d 0 [some (.ref 6), some (.int x1), some (.int x2), none] [] σ none q := by
  unfold fm_43 at h
  refine fs_iconst (n := 0) (p := 1) (by decide +kernel) rfl kc_0 ?_
  refine fs_istore_n (k := 3) (p := 2) (M := 4) (al' := [some (.ref 6), some (.int x1), some (.int x2), some (.int (0 : Int32))]) (by decide +kernel) rfl mx_43 rfl rfl ?_
  exact fe_43_2 hd 100000 _ _ _ _ _ h

/-! ZoneShares$Rounder.fillColumn(I)V -/
theorem mx_44 : iv_mx 44 = 3 := by decide +kernel
theorem rt_44 : iv_rt 44 = none := by decide +kernel
def fm_44_56 (k_2 : Int32 → Int32 → fx_S → Option (fx_S)) (x1 : Int32) (x2 : Int32) (σ : fx_S) : Option (fx_S) :=
  k_2 x1 (x2 + (1 : Int32)) σ
theorem fe_44_56 {z : iv_Z} {d : Nat} (hd : 3 ≤ d) {k_2 : Int32 → Int32 → fx_S → Option (fx_S)} (hk_2 : ∀ (x1 : Int32) (x2 : Int32) (σ : fx_S) (q : fx_S), k_2 x1 x2 σ = some q → fx_E z 44 d 2 [some (.ref 6), some (.int x1), some (.int x2)] [] σ none q) (x1 : Int32) (x2 : Int32) (σ : fx_S) (q : fx_S) (h : fm_44_56 k_2  x1 x2 σ = some q) : fx_E z 44 d 56 [some (.ref 6), some (.int x1), some (.int x2)] [] σ none q := by
  unfold fm_44_56 at h
  refine fs_iinc (k := 2) (n := 1) (p := 59) (M := 3) (al' := [some (.ref 6), some (.int x1), some (.int (x2 + (1 : Int32)))]) (by decide +kernel) rfl kc_1 mx_44 rfl rfl rfl ?_
  refine fs_goto (off := -57) (p := 2) (by decide +kernel) (by decide +kernel) ?_
  exact hk_2 _ _ _ _ h
def fm_44_2 : Nat → Int32 → Int32 → fx_S → Option (fx_S)
  | 0, _, _, _ => none
  | n + 1, x1, x2, σ =>
    if (8 : Int32) ≤ x2 then (
      some σ) else (
      (fx_ld σ 11 x1).bind fun v3 =>
      (fx_ld σ 9 x1).bind fun v6 =>
      if v6 ≤ v3 then (
        some σ) else (
        (fm_46 (17 : Int32) ((8 : Int32) + x1) σ).bind fun q12 =>
        if (fx_b q12.1) = 0 then (
          fm_44_56 (fm_44_2 n) x1 x2 q12.2) else (
          (fm_51 (17 : Int32) ((8 : Int32) + x1) q12.2).bind fun q15 =>
          (fx_ld q15 11 x1).bind fun v16 =>
          (fx_st q15 11 x1 (v16 + (1 : Int32))).bind fun t18 =>
          fm_44_56 (fm_44_2 n) x1 x2 t18)))
theorem fe_44_2 {z : iv_Z} {d : Nat} (hd : 3 ≤ d) : ∀ (n : Nat) (x1 : Int32) (x2 : Int32) (σ : fx_S) (q : fx_S), fm_44_2 n x1 x2 σ = some q → fx_E z 44 d 2 [some (.ref 6), some (.int x1), some (.int x2)] [] σ none q := by
  intro n
  induction n with
  | zero =>
    intro x1 x2 σ q  h
    rw [fm_44_2] at h
    exact fx_no h
  | succ n ih =>
    intro x1 x2 σ q  h
    rw [fm_44_2] at h
    refine fs_iload_n (k := 2) (p := 3) (by decide +kernel) rfl rfl ?_
    refine fs_bipush (n := 8) (p := 5) (by decide +kernel) rfl kb_8 ?_
    by_cases c2 : (8 : Int32) ≤ x2
    · rw [if_pos c2] at h
      refine fs_icmp_ge_t (off := 57) (t := 62) (by decide +kernel) (by decide +kernel) c2 ?_
      have h := Option.some.inj h
      subst h
      exact fs_ret (by decide +kernel) rt_44
    · rw [if_neg c2] at h
      refine fs_icmp_ge_f (off := 57) (t := 62) (p := 8) (by decide +kernel) (by decide +kernel) rfl c2 ?_
      refine fs_aload_n (k := 0) (p := 9) (by decide +kernel) rfl rfl ?_
      refine fs_gfr (idx := 24) (ci := 5) (j := 4) (p := 12) (by decide +kernel) rfl (by decide +kernel) fo_6 (fr_a6_4) ?_
      refine fs_iload_n (k := 1) (p := 13) (by decide +kernel) rfl rfl ?_
      obtain ⟨v3, w4, h⟩ := fx_bd h
      refine fs_iaload (p := 14) (by decide +kernel) rfl w4 ?_
      refine fs_aload_n (k := 0) (p := 15) (by decide +kernel) rfl rfl ?_
      refine fs_gfr (idx := 18) (ci := 5) (j := 2) (p := 18) (by decide +kernel) rfl (by decide +kernel) fo_6 (fr_a6_2) ?_
      refine fs_iload_n (k := 1) (p := 19) (by decide +kernel) rfl rfl ?_
      obtain ⟨v6, w7, h⟩ := fx_bd h
      refine fs_iaload (p := 20) (by decide +kernel) rfl w7 ?_
      by_cases c10 : v6 ≤ v3
      · rw [if_pos c10] at h
        refine fs_icmp_ge_t (off := 42) (t := 62) (by decide +kernel) (by decide +kernel) c10 ?_
        have h := Option.some.inj h
        subst h
        exact fs_ret (by decide +kernel) rt_44
      · rw [if_neg c10] at h
        refine fs_icmp_ge_f (off := 42) (t := 62) (p := 23) (by decide +kernel) (by decide +kernel) rfl c10 ?_
        refine fs_aload_n (k := 0) (p := 24) (by decide +kernel) rfl rfl ?_
        refine fs_bipush (n := 17) (p := 26) (by decide +kernel) rfl kb_17 ?_
        refine fs_bipush (n := 8) (p := 28) (by decide +kernel) rfl kb_8 ?_
        refine fs_iload_n (k := 1) (p := 29) (by decide +kernel) rfl rfl ?_
        refine fs_iadd (p := 30) (by decide +kernel) rfl ?_
        obtain ⟨q12, w11, h⟩ := fx_bd h
        refine fs_callV (idx := 77) (mj := 46) (ci := 5) (na := 2) (mx := 5) (p := 33) (args := [.ref 6, .int (17 : Int32), .int ((8 : Int32) + x1)]) (rest := []) (al2 := [some (.ref 6), some (.int (17 : Int32)), some (.int ((8 : Int32) + x1)), none, none]) (by decide +kernel) rfl (by decide +kernel) fo_6 rfl rfl rfl rfl rfl rfl rfl (by omega) (fun d' hd' => fe_46 (by omega) w11) rfl ?_
        by_cases c13 : (fx_b q12.1) = 0
        · rw [if_pos c13] at h
          refine fs_if_eq_t (off := 23) (t := 56) (by decide +kernel) (by decide +kernel) c13 ?_
          exact fe_44_56 hd ih _ _ _ _ h
        · rw [if_neg c13] at h
          refine fs_if_eq_f (off := 23) (t := 56) (p := 36) (by decide +kernel) (by decide +kernel) rfl c13 ?_
          refine fs_aload_n (k := 0) (p := 37) (by decide +kernel) rfl rfl ?_
          refine fs_bipush (n := 17) (p := 39) (by decide +kernel) rfl kb_17 ?_
          refine fs_bipush (n := 8) (p := 41) (by decide +kernel) rfl kb_8 ?_
          refine fs_iload_n (k := 1) (p := 42) (by decide +kernel) rfl rfl ?_
          refine fs_iadd (p := 43) (by decide +kernel) rfl ?_
          obtain ⟨q15, w14, h⟩ := fx_bd h
          refine fs_callV (idx := 81) (mj := 51) (ci := 5) (na := 2) (mx := 5) (p := 46) (args := [.ref 6, .int (17 : Int32), .int ((8 : Int32) + x1)]) (rest := []) (al2 := [some (.ref 6), some (.int (17 : Int32)), some (.int ((8 : Int32) + x1)), none, none]) (by decide +kernel) rfl (by decide +kernel) fo_6 rfl rfl rfl rfl rfl rfl rfl (by omega) (fun d' hd' => fe_51 (by omega) w14) rfl ?_
          refine fs_aload_n (k := 0) (p := 47) (by decide +kernel) rfl rfl ?_
          refine fs_gfr (idx := 24) (ci := 5) (j := 4) (p := 50) (by decide +kernel) rfl (by decide +kernel) fo_6 (fr_a6_4) ?_
          refine fs_iload_n (k := 1) (p := 51) (by decide +kernel) rfl rfl ?_
          refine fs_dup2 (p := 52) (by decide +kernel) rfl rfl rfl ?_
          obtain ⟨v16, w17, h⟩ := fx_bd h
          refine fs_iaload (p := 53) (by decide +kernel) rfl w17 ?_
          refine fs_iconst (n := 1) (p := 54) (by decide +kernel) rfl kc_1 ?_
          refine fs_iadd (p := 55) (by decide +kernel) rfl ?_
          obtain ⟨t18, w19, h⟩ := fx_bd h
          refine fs_iastore (p := 56) (by decide +kernel) rfl w19 ?_
          exact fe_44_56 hd ih _ _ _ _ h
def fm_44 (x1 : Int32) (σ : fx_S) : Option (fx_S) :=
  fm_44_2 100000 x1 (0 : Int32) σ
theorem fe_44 {z : iv_Z} {d : Nat} (hd : 3 ≤ d) {x1 : Int32} {σ : fx_S} {q : fx_S} (h : fm_44 x1 σ = some q) : fx_E z 44 d 0 [some (.ref 6), some (.int x1), none] [] σ none q := by
  unfold fm_44 at h
  refine fs_iconst (n := 0) (p := 1) (by decide +kernel) rfl kc_0 ?_
  refine fs_istore_n (k := 2) (p := 2) (M := 3) (al' := [some (.ref 6), some (.int x1), some (.int (0 : Int32))]) (by decide +kernel) rfl mx_44 rfl rfl ?_
  exact fe_44_2 hd 100000 _ _ _ _ h

/-! ZoneShares$Rounder.fix(I)V -/
theorem mx_45 : iv_mx 45 = 4 := by decide +kernel
theorem rt_45 : iv_rt 45 = none := by decide +kernel
def fm_45 (x1 : Int32) (σ : fx_S) : Option (fx_S) :=
  (fx_st σ 7 x1 (0 : Int32)).bind fun t16 =>
  (fx_ld t16 8 x1).bind fun v20 =>
  if ¬ v20 = 0 then (
    some t16) else (
    (fm_46 ((8 : Int32) + (x1 - x1 / (9 : Int32) * (9 : Int32))) (x1 / (9 : Int32)) t16).bind fun q25 =>
    if (fx_b q25.1) = 0 then (
      some q25.2) else (
      (fm_51 ((8 : Int32) + (x1 - x1 / (9 : Int32) * (9 : Int32))) (x1 / (9 : Int32)) q25.2).bind fun q28 =>
      (fx_st q28 8 x1 (1 : Int32)).bind fun t29 =>
      some t29))
theorem fe_45 {z : iv_Z} {d : Nat} (hd : 3 ≤ d) {x1 : Int32} {σ : fx_S} {q : fx_S} (h : fm_45 x1 σ = some q) : fx_E z 45 d 0 [some (.ref 6), some (.int x1), none, none] [] σ none q := by
  unfold fm_45 at h
  refine fs_aload_n (k := 0) (p := 1) (by decide +kernel) rfl rfl ?_
  refine fs_gfr (idx := 11) (ci := 5) (j := 0) (p := 4) (by decide +kernel) rfl (by decide +kernel) fo_6 (fr_a6_0) ?_
  refine fs_iload_n (k := 1) (p := 5) (by decide +kernel) rfl rfl ?_
  refine fs_iconst (n := 0) (p := 6) (by decide +kernel) rfl kc_0 ?_
  obtain ⟨t16, w17, h⟩ := fx_bd h
  refine fs_iastore (p := 7) (by decide +kernel) rfl w17 ?_
  refine fs_iload_n (k := 1) (p := 8) (by decide +kernel) rfl rfl ?_
  refine fs_bipush (n := 9) (p := 10) (by decide +kernel) rfl kb_9 ?_
  refine fs_idiv (p := 11) (by decide +kernel) rfl (by decide) ?_
  refine fs_istore_n (k := 2) (p := 12) (M := 4) (al' := [some (.ref 6), some (.int x1), some (.int (x1 / (9 : Int32))), none]) (by decide +kernel) rfl mx_45 rfl rfl ?_
  refine fs_bipush (n := 8) (p := 14) (by decide +kernel) rfl kb_8 ?_
  refine fs_iload_n (k := 1) (p := 15) (by decide +kernel) rfl rfl ?_
  refine fs_bipush (n := 9) (p := 17) (by decide +kernel) rfl kb_9 ?_
  refine fs_irem (p := 18) (by decide +kernel) rfl (by decide) ?_
  refine fs_iadd (p := 19) (by decide +kernel) rfl ?_
  refine fs_istore_n (k := 3) (p := 20) (M := 4) (al' := [some (.ref 6), some (.int x1), some (.int (x1 / (9 : Int32))), some (.int ((8 : Int32) + (x1 - x1 / (9 : Int32) * (9 : Int32))))]) (by decide +kernel) rfl mx_45 rfl rfl ?_
  refine fs_aload_n (k := 0) (p := 21) (by decide +kernel) rfl rfl ?_
  refine fs_gfr (idx := 15) (ci := 5) (j := 1) (p := 24) (by decide +kernel) rfl (by decide +kernel) fo_6 (fr_a6_1) ?_
  refine fs_iload_n (k := 1) (p := 25) (by decide +kernel) rfl rfl ?_
  obtain ⟨v20, w21, h⟩ := fx_bd h
  refine fs_iaload (p := 26) (by decide +kernel) rfl w21 ?_
  by_cases c23 : ¬ v20 = 0
  · rw [if_pos c23] at h
    refine fs_if_ne_t (off := 25) (t := 51) (by decide +kernel) (by decide +kernel) c23 ?_
    have h := Option.some.inj h
    subst h
    exact fs_ret (by decide +kernel) rt_45
  · rw [if_neg c23] at h
    refine fs_if_ne_f (off := 25) (t := 51) (p := 29) (by decide +kernel) (by decide +kernel) rfl c23 ?_
    refine fs_aload_n (k := 0) (p := 30) (by decide +kernel) rfl rfl ?_
    refine fs_iload_n (k := 3) (p := 31) (by decide +kernel) rfl rfl ?_
    refine fs_iload_n (k := 2) (p := 32) (by decide +kernel) rfl rfl ?_
    obtain ⟨q25, w24, h⟩ := fx_bd h
    refine fs_callV (idx := 77) (mj := 46) (ci := 5) (na := 2) (mx := 5) (p := 35) (args := [.ref 6, .int ((8 : Int32) + (x1 - x1 / (9 : Int32) * (9 : Int32))), .int (x1 / (9 : Int32))]) (rest := []) (al2 := [some (.ref 6), some (.int ((8 : Int32) + (x1 - x1 / (9 : Int32) * (9 : Int32)))), some (.int (x1 / (9 : Int32))), none, none]) (by decide +kernel) rfl (by decide +kernel) fo_6 rfl rfl rfl rfl rfl rfl rfl (by omega) (fun d' hd' => fe_46 (by omega) w24) rfl ?_
    by_cases c26 : (fx_b q25.1) = 0
    · rw [if_pos c26] at h
      refine fs_if_eq_t (off := 16) (t := 51) (by decide +kernel) (by decide +kernel) c26 ?_
      have h := Option.some.inj h
      subst h
      exact fs_ret (by decide +kernel) rt_45
    · rw [if_neg c26] at h
      refine fs_if_eq_f (off := 16) (t := 51) (p := 38) (by decide +kernel) (by decide +kernel) rfl c26 ?_
      refine fs_aload_n (k := 0) (p := 39) (by decide +kernel) rfl rfl ?_
      refine fs_iload_n (k := 3) (p := 40) (by decide +kernel) rfl rfl ?_
      refine fs_iload_n (k := 2) (p := 41) (by decide +kernel) rfl rfl ?_
      obtain ⟨q28, w27, h⟩ := fx_bd h
      refine fs_callV (idx := 81) (mj := 51) (ci := 5) (na := 2) (mx := 5) (p := 44) (args := [.ref 6, .int ((8 : Int32) + (x1 - x1 / (9 : Int32) * (9 : Int32))), .int (x1 / (9 : Int32))]) (rest := []) (al2 := [some (.ref 6), some (.int ((8 : Int32) + (x1 - x1 / (9 : Int32) * (9 : Int32)))), some (.int (x1 / (9 : Int32))), none, none]) (by decide +kernel) rfl (by decide +kernel) fo_6 rfl rfl rfl rfl rfl rfl rfl (by omega) (fun d' hd' => fe_51 (by omega) w27) rfl ?_
      refine fs_aload_n (k := 0) (p := 45) (by decide +kernel) rfl rfl ?_
      refine fs_gfr (idx := 15) (ci := 5) (j := 1) (p := 48) (by decide +kernel) rfl (by decide +kernel) fo_6 (fr_a6_1) ?_
      refine fs_iload_n (k := 1) (p := 49) (by decide +kernel) rfl rfl ?_
      refine fs_iconst (n := 1) (p := 50) (by decide +kernel) rfl kc_1 ?_
      obtain ⟨t29, w30, h⟩ := fx_bd h
      refine fs_iastore (p := 51) (by decide +kernel) rfl w30 ?_
      have h := Option.some.inj h
      subst h
      exact fs_ret (by decide +kernel) rt_45

/-! ZoneShares.layer(I)I -/
theorem mx_87 : iv_mx 87 = 3 := by decide +kernel
theorem rt_87 : iv_rt 87 = some .int := by decide +kernel
def fm_87_26 (x1 : Int32) (σ : fx_S) : Option (Int32 × fx_S) :=
  (fm_34 x1 1 σ).bind fun q2 =>
  if q2.1 = (-1 : Int32) then (
    (fm_119 (fx_w1 q2.2 14 1 (0 : Int32))).bind fun q6 =>
    (fm_55 1 x1 q6).bind fun q8 =>
    (fm_58 1 q8).bind fun q10 =>
    some (q10.1, q10.2)) else (
    some (((-2 : Int32) - q2.1), (fx_w1 q2.2 14 1 (0 : Int32))))
theorem fe_87_26 {z : iv_Z} {d : Nat} (hd : 3 ≤ d) (x1 : Int32) (σ : fx_S) (q : Int32 × fx_S) (h : fm_87_26  x1 σ = some q) : fx_E z 87 d 26 [some (.ref 0), some (.int x1), none] [] σ (some (.int q.1)) q.2 := by
  unfold fm_87_26 at h
  refine fs_aload_n (k := 0) (p := 27) (by decide +kernel) rfl rfl ?_
  refine fs_gfr (idx := 36) (ci := 9) (j := 3) (p := 30) (by decide +kernel) rfl (by decide +kernel) fo_0 (fr_a0_3) ?_
  refine fs_aload_n (k := 0) (p := 31) (by decide +kernel) rfl rfl ?_
  refine fs_gfr (idx := 22) (ci := 9) (j := 0) (p := 34) (by decide +kernel) rfl (by decide +kernel) fo_0 (fr_a0_0) ?_
  refine fs_iload_n (k := 1) (p := 35) (by decide +kernel) rfl rfl ?_
  refine fs_aload_n (k := 0) (p := 36) (by decide +kernel) rfl rfl ?_
  refine fs_gfr (idx := 13) (ci := 9) (j := 1) (p := 39) (by decide +kernel) rfl (by decide +kernel) fo_0 (fr_a0_1) ?_
  obtain ⟨q2, w1, h⟩ := fx_bd h
  refine fs_callV (idx := 79) (mj := 34) (ci := 4) (na := 3) (mx := 8) (p := 42) (args := [.ref 58, .ref 14, .int x1, .ref 1]) (rest := []) (al2 := [some (.ref 58), some (.ref 14), some (.int x1), some (.ref 1), none, none, none, none]) (by decide +kernel) rfl (by decide +kernel) fo_58 rfl rfl rfl rfl rfl rfl rfl (by omega) (fun d' hd' => fe_34 (by omega) w1) rfl ?_
  refine fs_istore_n (k := 2) (p := 43) (M := 3) (al' := [some (.ref 0), some (.int x1), some (.int q2.1)]) (by decide +kernel) rfl mx_87 rfl rfl ?_
  refine fs_aload_n (k := 0) (p := 44) (by decide +kernel) rfl rfl ?_
  refine fs_gfr (idx := 22) (ci := 9) (j := 0) (p := 47) (by decide +kernel) rfl (by decide +kernel) fo_0 (fr_a0_0) ?_
  refine fs_iconst (n := 0) (p := 48) (by decide +kernel) rfl kc_0 ?_
  refine fs_pfi (idx := 67) (ci := 8) (j := 1) (p := 51) (by decide +kernel) rfl (by decide +kernel) (by decide +kernel) fo_14 (fx_oki _ (by decide +kernel)) ?_
  refine fs_iload_n (k := 2) (p := 52) (by decide +kernel) rfl rfl ?_
  refine fs_iconst (n := -1) (p := 53) (by decide +kernel) rfl kc_m1 ?_
  by_cases c4 : q2.1 = (-1 : Int32)
  · rw [if_pos c4] at h
    refine fs_icmp_eq_t (off := 8) (t := 61) (by decide +kernel) (by decide +kernel) c4 ?_
    refine fs_aload_n (k := 0) (p := 62) (by decide +kernel) rfl rfl ?_
    obtain ⟨q6, w5, h⟩ := fx_bd h
    refine fs_callV (idx := 83) (mj := 119) (ci := 9) (na := 0) (mx := 1) (p := 65) (args := [.ref 0]) (rest := []) (al2 := [some (.ref 0)]) (by decide +kernel) rfl (by decide +kernel) fo_0 rfl rfl rfl rfl rfl rfl rfl (by omega) (fun d' hd' => fe_119 (by omega) w5) rfl ?_
    refine fs_aload_n (k := 0) (p := 66) (by decide +kernel) rfl rfl ?_
    refine fs_gfr (idx := 13) (ci := 9) (j := 1) (p := 69) (by decide +kernel) rfl (by decide +kernel) fo_0 (fr_a0_1) ?_
    refine fs_iload_n (k := 1) (p := 70) (by decide +kernel) rfl rfl ?_
    refine fs_aload_n (k := 0) (p := 71) (by decide +kernel) rfl rfl ?_
    refine fs_gfr (idx := 36) (ci := 9) (j := 3) (p := 74) (by decide +kernel) rfl (by decide +kernel) fo_0 (fr_a0_3) ?_
    obtain ⟨q8, w7, h⟩ := fx_bd h
    refine fs_callV (idx := 86) (mj := 55) (ci := 6) (na := 2) (mx := 3) (p := 77) (args := [.ref 1, .int x1, .ref 58]) (rest := []) (al2 := [some (.ref 1), some (.int x1), some (.ref 58)]) (by decide +kernel) rfl (by decide +kernel) fo_1 rfl rfl rfl rfl rfl rfl rfl (by omega) (fun d' hd' => fe_55 (by omega) w7) rfl ?_
    refine fs_aload_n (k := 0) (p := 78) (by decide +kernel) rfl rfl ?_
    refine fs_gfr (idx := 13) (ci := 9) (j := 1) (p := 81) (by decide +kernel) rfl (by decide +kernel) fo_0 (fr_a0_1) ?_
    obtain ⟨q10, w9, h⟩ := fx_bd h
    refine fs_callV (idx := 90) (mj := 58) (ci := 6) (na := 0) (mx := 1) (p := 84) (args := [.ref 1]) (rest := []) (al2 := [some (.ref 1)]) (by decide +kernel) rfl (by decide +kernel) fo_1 rfl rfl rfl rfl rfl rfl rfl (by omega) (fun d' hd' => fe_58 (by omega) w9) rfl ?_
    have h := Option.some.inj h
    subst h
    exact fs_iret (by decide +kernel) rt_87
  · rw [if_neg c4] at h
    refine fs_icmp_eq_f (off := 8) (t := 61) (p := 56) (by decide +kernel) (by decide +kernel) rfl c4 ?_
    refine fs_bipush (n := -2) (p := 58) (by decide +kernel) rfl kb_m2 ?_
    refine fs_iload_n (k := 2) (p := 59) (by decide +kernel) rfl rfl ?_
    refine fs_isub (p := 60) (by decide +kernel) rfl ?_
    have h := Option.some.inj h
    subst h
    exact fs_iret (by decide +kernel) rt_87
def fm_87 (x1 : Int32) (σ : fx_S) : Option (Int32 × fx_S) :=
  if x1 < 0 then (
    some ((-1 : Int32), σ)) else (
    if (2 : Int32) < x1 then (
      some ((-1 : Int32), σ)) else (
      if x1 = 0 then (
        fm_87_26 x1 σ) else (
        (fm_56 1 (0 : Int32) σ).bind fun q23 =>
        if ¬ (fx_b q23.1) = 0 then (
          fm_87_26 x1 q23.2) else (
          some ((-1 : Int32), q23.2)))))
theorem fe_87 {z : iv_Z} {d : Nat} (hd : 3 ≤ d) {x1 : Int32} {σ : fx_S} {q : Int32 × fx_S} (h : fm_87 x1 σ = some q) : fx_E z 87 d 0 [some (.ref 0), some (.int x1), none] [] σ (some (.int q.1)) q.2 := by
  unfold fm_87 at h
  refine fs_iload_n (k := 1) (p := 1) (by decide +kernel) rfl rfl ?_
  by_cases c19 : x1 < 0
  · rw [if_pos c19] at h
    refine fs_if_lt_t (off := 23) (t := 24) (by decide +kernel) (by decide +kernel) c19 ?_
    refine fs_iconst (n := -1) (p := 25) (by decide +kernel) rfl kc_m1 ?_
    have h := Option.some.inj h
    subst h
    exact fs_iret (by decide +kernel) rt_87
  · rw [if_neg c19] at h
    refine fs_if_lt_f (off := 23) (t := 24) (p := 4) (by decide +kernel) (by decide +kernel) rfl c19 ?_
    refine fs_iload_n (k := 1) (p := 5) (by decide +kernel) rfl rfl ?_
    refine fs_iconst (n := 2) (p := 6) (by decide +kernel) rfl kc_2 ?_
    by_cases c20 : (2 : Int32) < x1
    · rw [if_pos c20] at h
      refine fs_icmp_gt_t (off := 18) (t := 24) (by decide +kernel) (by decide +kernel) c20 ?_
      refine fs_iconst (n := -1) (p := 25) (by decide +kernel) rfl kc_m1 ?_
      have h := Option.some.inj h
      subst h
      exact fs_iret (by decide +kernel) rt_87
    · rw [if_neg c20] at h
      refine fs_icmp_gt_f (off := 18) (t := 24) (p := 9) (by decide +kernel) (by decide +kernel) rfl c20 ?_
      refine fs_iload_n (k := 1) (p := 10) (by decide +kernel) rfl rfl ?_
      by_cases c21 : x1 = 0
      · rw [if_pos c21] at h
        refine fs_if_eq_t (off := 16) (t := 26) (by decide +kernel) (by decide +kernel) c21 ?_
        exact fe_87_26 hd _ _ _ h
      · rw [if_neg c21] at h
        refine fs_if_eq_f (off := 16) (t := 26) (p := 13) (by decide +kernel) (by decide +kernel) rfl c21 ?_
        refine fs_aload_n (k := 0) (p := 14) (by decide +kernel) rfl rfl ?_
        refine fs_gfr (idx := 13) (ci := 9) (j := 1) (p := 17) (by decide +kernel) rfl (by decide +kernel) fo_0 (fr_a0_1) ?_
        refine fs_iconst (n := 0) (p := 18) (by decide +kernel) rfl kc_0 ?_
        obtain ⟨q23, w22, h⟩ := fx_bd h
        refine fs_callV (idx := 75) (mj := 56) (ci := 6) (na := 1) (mx := 2) (p := 21) (args := [.ref 1, .int (0 : Int32)]) (rest := []) (al2 := [some (.ref 1), some (.int (0 : Int32))]) (by decide +kernel) rfl (by decide +kernel) fo_1 rfl rfl rfl rfl rfl rfl rfl (by omega) (fun d' hd' => fe_56 (by omega) w22) rfl ?_
        by_cases c24 : ¬ (fx_b q23.1) = 0
        · rw [if_pos c24] at h
          refine fs_if_ne_t (off := 5) (t := 26) (by decide +kernel) (by decide +kernel) c24 ?_
          exact fe_87_26 hd _ _ _ h
        · rw [if_neg c24] at h
          refine fs_if_ne_f (off := 5) (t := 26) (p := 24) (by decide +kernel) (by decide +kernel) rfl c24 ?_
          refine fs_iconst (n := -1) (p := 25) (by decide +kernel) rfl kc_m1 ?_
          have h := Option.some.inj h
          subst h
          exact fs_iret (by decide +kernel) rt_87
