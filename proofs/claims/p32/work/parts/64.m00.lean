/-! ZoneShares$CountsText.slotOf(I)I -/
theorem mx_7 : iv_mx 7 = 1 := by decide +kernel
theorem rt_7 : iv_rt 7 = some .int := by decide +kernel
def fm_7 (x0 : Int32) (σ : fx_S) : Option (Int32 × fx_S) :=
  if ¬ x0 = (63 : Int32) then (
    if x0 < (97 : Int32) then (
      some ((-1 : Int32), σ)) else (
      if (104 : Int32) < x0 then (
        some ((-1 : Int32), σ)) else (
        some ((x0 - (97 : Int32)), σ)))) else (
    some ((8 : Int32), σ))
theorem fe_7 {z : iv_Z} {d : Nat} (hd : 0 ≤ d) {x0 : Int32} {σ : fx_S} {q : Int32 × fx_S} (h : fm_7 x0 σ = some q) : fx_E z 7 d 0 [some (.int x0)] [] σ (some (.int q.1)) q.2 := by
  unfold fm_7 at h
  refine fs_iload_n (k := 0) (p := 1) (by decide +kernel) rfl rfl ?_
  refine fs_bipush (n := 63) (p := 3) (by decide +kernel) rfl kb_63 ?_
  by_cases c6 : ¬ x0 = (63 : Int32)
  · rw [if_pos c6] at h
    refine fs_icmp_ne_t (off := 6) (t := 9) (by decide +kernel) (by decide +kernel) c6 ?_
    refine fs_iload_n (k := 0) (p := 10) (by decide +kernel) rfl rfl ?_
    refine fs_bipush (n := 97) (p := 12) (by decide +kernel) rfl kb_97 ?_
    by_cases c7 : x0 < (97 : Int32)
    · rw [if_pos c7] at h
      refine fs_icmp_lt_t (off := 16) (t := 28) (by decide +kernel) (by decide +kernel) c7 ?_
      refine fs_iconst (n := -1) (p := 29) (by decide +kernel) rfl kc_m1 ?_
      have h := Option.some.inj h
      subst h
      exact fs_iret (by decide +kernel) rt_7
    · rw [if_neg c7] at h
      refine fs_icmp_lt_f (off := 16) (t := 28) (p := 15) (by decide +kernel) (by decide +kernel) rfl c7 ?_
      refine fs_iload_n (k := 0) (p := 16) (by decide +kernel) rfl rfl ?_
      refine fs_bipush (n := 104) (p := 18) (by decide +kernel) rfl kb_104 ?_
      by_cases c8 : (104 : Int32) < x0
      · rw [if_pos c8] at h
        refine fs_icmp_gt_t (off := 10) (t := 28) (by decide +kernel) (by decide +kernel) c8 ?_
        refine fs_iconst (n := -1) (p := 29) (by decide +kernel) rfl kc_m1 ?_
        have h := Option.some.inj h
        subst h
        exact fs_iret (by decide +kernel) rt_7
      · rw [if_neg c8] at h
        refine fs_icmp_gt_f (off := 10) (t := 28) (p := 21) (by decide +kernel) (by decide +kernel) rfl c8 ?_
        refine fs_iload_n (k := 0) (p := 22) (by decide +kernel) rfl rfl ?_
        refine fs_bipush (n := 97) (p := 24) (by decide +kernel) rfl kb_97 ?_
        refine fs_isub (p := 25) (by decide +kernel) rfl ?_
        refine fs_goto (off := 4) (p := 29) (by decide +kernel) (by decide +kernel) ?_
        have h := Option.some.inj h
        subst h
        exact fs_iret (by decide +kernel) rt_7
  · rw [if_neg c6] at h
    refine fs_icmp_ne_f (off := 6) (t := 9) (p := 6) (by decide +kernel) (by decide +kernel) rfl c6 ?_
    refine fs_bipush (n := 8) (p := 8) (by decide +kernel) rfl kb_8 ?_
    have h := Option.some.inj h
    subst h
    exact fs_iret (by decide +kernel) rt_7

/-! ZoneShares$CountsText.isDigit(I)Z -/
theorem mx_8 : iv_mx 8 = 1 := by decide +kernel
theorem rt_8 : iv_rt 8 = some .boolean := by decide +kernel
def fm_8 (x0 : Int32) (σ : fx_S) : Option (Bool × fx_S) :=
  if x0 < (48 : Int32) then (
    some (false, σ)) else (
    if (57 : Int32) < x0 then (
      some (false, σ)) else (
      some (true, σ)))
theorem fe_8 {z : iv_Z} {d : Nat} (hd : 0 ≤ d) {x0 : Int32} {σ : fx_S} {q : Bool × fx_S} (h : fm_8 x0 σ = some q) : fx_E z 8 d 0 [some (.int x0)] [] σ (some (.int (fx_b q.1))) q.2 := by
  unfold fm_8 at h
  refine fs_iload_n (k := 0) (p := 1) (by decide +kernel) rfl rfl ?_
  refine fs_bipush (n := 48) (p := 3) (by decide +kernel) rfl kb_48 ?_
  by_cases c5 : x0 < (48 : Int32)
  · rw [if_pos c5] at h
    refine fs_icmp_lt_t (off := 13) (t := 16) (by decide +kernel) (by decide +kernel) c5 ?_
    refine fs_iconst (n := 0) (p := 17) (by decide +kernel) rfl kc_0 ?_
    have h := Option.some.inj h
    subst h
    exact fs_zret (b := false) (by decide +kernel) rt_8
  · rw [if_neg c5] at h
    refine fs_icmp_lt_f (off := 13) (t := 16) (p := 6) (by decide +kernel) (by decide +kernel) rfl c5 ?_
    refine fs_iload_n (k := 0) (p := 7) (by decide +kernel) rfl rfl ?_
    refine fs_bipush (n := 57) (p := 9) (by decide +kernel) rfl kb_57 ?_
    by_cases c6 : (57 : Int32) < x0
    · rw [if_pos c6] at h
      refine fs_icmp_gt_t (off := 7) (t := 16) (by decide +kernel) (by decide +kernel) c6 ?_
      refine fs_iconst (n := 0) (p := 17) (by decide +kernel) rfl kc_0 ?_
      have h := Option.some.inj h
      subst h
      exact fs_zret (b := false) (by decide +kernel) rt_8
    · rw [if_neg c6] at h
      refine fs_icmp_gt_f (off := 7) (t := 16) (p := 12) (by decide +kernel) (by decide +kernel) rfl c6 ?_
      refine fs_iconst (n := 1) (p := 13) (by decide +kernel) rfl kc_1 ?_
      refine fs_goto (off := 4) (p := 17) (by decide +kernel) (by decide +kernel) ?_
      have h := Option.some.inj h
      subst h
      exact fs_zret (b := true) (by decide +kernel) rt_8

/-! ZoneShares$Group.lacks(I)Z -/
theorem mx_21 : iv_mx 21 = 3 := by decide +kernel
theorem rt_21 : iv_rt 21 = some .boolean := by decide +kernel
def fm_21_14 (x0 : Nat) (x1 : Int32) (s0 : Int32) (σ : fx_S) : Option (Bool × fx_S) :=
  if ¬ s0 = 0 then (
    some (false, (fx_w1 σ x0 8 ((σ.1 x0 8) ||| x1)))) else (
    some (true, (fx_w1 σ x0 8 ((σ.1 x0 8) ||| x1))))
theorem fe_21_14 {z : iv_Z} {d : Nat} (hd : 0 ≤ d) (x0 : Nat) (x1 : Int32) (s0 : Int32) (σ : fx_S) (q : Bool × fx_S) (g0 : fx_oc x0 2 = true) (h : fm_21_14  x0 x1 s0 σ = some q) : fx_E z 21 d 14 [some (.ref x0), some (.int x1), none] [.int s0] σ (some (.int (fx_b q.1))) q.2 := by
  unfold fm_21_14 at h
  refine fs_istore_n (k := 2) (p := 15) (M := 3) (al' := [some (.ref x0), some (.int x1), some (.int s0)]) (by decide +kernel) rfl mx_21 rfl rfl ?_
  refine fs_aload_n (k := 0) (p := 16) (by decide +kernel) rfl rfl ?_
  refine fs_aload_n (k := 0) (p := 17) (by decide +kernel) rfl rfl ?_
  refine fs_gfi (idx := 85) (ci := 2) (j := 8) (p := 20) (by decide +kernel) rfl (by decide +kernel) g0 ?_
  refine fs_iload_n (k := 1) (p := 21) (by decide +kernel) rfl rfl ?_
  refine fs_ior (p := 22) (by decide +kernel) rfl ?_
  refine fs_pfi (idx := 85) (ci := 2) (j := 8) (p := 25) (by decide +kernel) rfl (by decide +kernel) (by decide +kernel) g0 (fx_oki _ (by decide +kernel)) ?_
  refine fs_iload_n (k := 2) (p := 26) (by decide +kernel) rfl rfl ?_
  by_cases c2 : ¬ s0 = 0
  · rw [if_pos c2] at h
    refine fs_if_ne_t (off := 7) (t := 33) (by decide +kernel) (by decide +kernel) c2 ?_
    refine fs_iconst (n := 0) (p := 34) (by decide +kernel) rfl kc_0 ?_
    have h := Option.some.inj h
    subst h
    exact fs_zret (b := false) (by decide +kernel) rt_21
  · rw [if_neg c2] at h
    refine fs_if_ne_f (off := 7) (t := 33) (p := 29) (by decide +kernel) (by decide +kernel) rfl c2 ?_
    refine fs_iconst (n := 1) (p := 30) (by decide +kernel) rfl kc_1 ?_
    refine fs_goto (off := 4) (p := 34) (by decide +kernel) (by decide +kernel) ?_
    have h := Option.some.inj h
    subst h
    exact fs_zret (b := true) (by decide +kernel) rt_21
def fm_21 (x0 : Nat) (x1 : Int32) (σ : fx_S) : Option (Bool × fx_S) :=
  if fx_oc x0 2 = true then (
  if ((σ.1 x0 8) &&& x1) = 0 then (
    fm_21_14 x0 x1 (0 : Int32) σ) else (
    fm_21_14 x0 x1 (1 : Int32) σ)) else none
theorem fe_21 {z : iv_Z} {d : Nat} (hd : 0 ≤ d) {x0 : Nat} {x1 : Int32} {σ : fx_S} {q : Bool × fx_S} (h : fm_21 x0 x1 σ = some q) : fx_E z 21 d 0 [some (.ref x0), some (.int x1), none] [] σ (some (.int (fx_b q.1))) q.2 := by
  unfold fm_21 at h
  obtain ⟨g0, h⟩ := fx_gd h
  refine fs_aload_n (k := 0) (p := 1) (by decide +kernel) rfl rfl ?_
  refine fs_gfi (idx := 85) (ci := 2) (j := 8) (p := 4) (by decide +kernel) rfl (by decide +kernel) g0 ?_
  refine fs_iload_n (k := 1) (p := 5) (by decide +kernel) rfl rfl ?_
  refine fs_iand (p := 6) (by decide +kernel) rfl ?_
  by_cases c6 : ((σ.1 x0 8) &&& x1) = 0
  · rw [if_pos c6] at h
    refine fs_if_eq_t (off := 7) (t := 13) (by decide +kernel) (by decide +kernel) c6 ?_
    refine fs_iconst (n := 0) (p := 14) (by decide +kernel) rfl kc_0 ?_
    exact fe_21_14 hd _ _ _ _ _ g0 h
  · rw [if_neg c6] at h
    refine fs_if_eq_f (off := 7) (t := 13) (p := 9) (by decide +kernel) (by decide +kernel) rfl c6 ?_
    refine fs_iconst (n := 1) (p := 10) (by decide +kernel) rfl kc_1 ?_
    refine fs_goto (off := 4) (p := 14) (by decide +kernel) (by decide +kernel) ?_
    exact fe_21_14 hd _ _ _ _ _ g0 h

/-! ZoneShares$LayerText.valueOf(II)I -/
theorem mx_35 : iv_mx 35 = 2 := by decide +kernel
theorem rt_35 : iv_rt 35 = some .int := by decide +kernel
def fm_35 (x0 : Int32) (x1 : Int32) (σ : fx_S) : Option (Int32 × fx_S) :=
  if ¬ x1 = (2 : Int32) then (
    if ¬ x0 = (46 : Int32) then (
      if x0 < (97 : Int32) then (
        some ((-1 : Int32), σ)) else (
        if (104 : Int32) < x0 then (
          some ((-1 : Int32), σ)) else (
          some ((x0 - (97 : Int32)), σ)))) else (
      some ((8 : Int32), σ))) else (
    if x0 < (48 : Int32) then (
      some ((-1 : Int32), σ)) else (
      if (51 : Int32) < x0 then (
        some ((-1 : Int32), σ)) else (
        some ((x0 - (48 : Int32)), σ))))
theorem fe_35 {z : iv_Z} {d : Nat} (hd : 0 ≤ d) {x0 : Int32} {x1 : Int32} {σ : fx_S} {q : Int32 × fx_S} (h : fm_35 x0 x1 σ = some q) : fx_E z 35 d 0 [some (.int x0), some (.int x1)] [] σ (some (.int q.1)) q.2 := by
  unfold fm_35 at h
  refine fs_iload_n (k := 1) (p := 1) (by decide +kernel) rfl rfl ?_
  refine fs_iconst (n := 2) (p := 2) (by decide +kernel) rfl kc_2 ?_
  by_cases c11 : ¬ x1 = (2 : Int32)
  · rw [if_pos c11] at h
    refine fs_icmp_ne_t (off := 24) (t := 26) (by decide +kernel) (by decide +kernel) c11 ?_
    refine fs_iload_n (k := 0) (p := 27) (by decide +kernel) rfl rfl ?_
    refine fs_bipush (n := 46) (p := 29) (by decide +kernel) rfl kb_46 ?_
    by_cases c13 : ¬ x0 = (46 : Int32)
    · rw [if_pos c13] at h
      refine fs_icmp_ne_t (off := 6) (t := 35) (by decide +kernel) (by decide +kernel) c13 ?_
      refine fs_iload_n (k := 0) (p := 36) (by decide +kernel) rfl rfl ?_
      refine fs_bipush (n := 97) (p := 38) (by decide +kernel) rfl kb_97 ?_
      by_cases c14 : x0 < (97 : Int32)
      · rw [if_pos c14] at h
        refine fs_icmp_lt_t (off := 16) (t := 54) (by decide +kernel) (by decide +kernel) c14 ?_
        refine fs_iconst (n := -1) (p := 55) (by decide +kernel) rfl kc_m1 ?_
        have h := Option.some.inj h
        subst h
        exact fs_iret (by decide +kernel) rt_35
      · rw [if_neg c14] at h
        refine fs_icmp_lt_f (off := 16) (t := 54) (p := 41) (by decide +kernel) (by decide +kernel) rfl c14 ?_
        refine fs_iload_n (k := 0) (p := 42) (by decide +kernel) rfl rfl ?_
        refine fs_bipush (n := 104) (p := 44) (by decide +kernel) rfl kb_104 ?_
        by_cases c15 : (104 : Int32) < x0
        · rw [if_pos c15] at h
          refine fs_icmp_gt_t (off := 10) (t := 54) (by decide +kernel) (by decide +kernel) c15 ?_
          refine fs_iconst (n := -1) (p := 55) (by decide +kernel) rfl kc_m1 ?_
          have h := Option.some.inj h
          subst h
          exact fs_iret (by decide +kernel) rt_35
        · rw [if_neg c15] at h
          refine fs_icmp_gt_f (off := 10) (t := 54) (p := 47) (by decide +kernel) (by decide +kernel) rfl c15 ?_
          refine fs_iload_n (k := 0) (p := 48) (by decide +kernel) rfl rfl ?_
          refine fs_bipush (n := 97) (p := 50) (by decide +kernel) rfl kb_97 ?_
          refine fs_isub (p := 51) (by decide +kernel) rfl ?_
          refine fs_goto (off := 4) (p := 55) (by decide +kernel) (by decide +kernel) ?_
          have h := Option.some.inj h
          subst h
          exact fs_iret (by decide +kernel) rt_35
    · rw [if_neg c13] at h
      refine fs_icmp_ne_f (off := 6) (t := 35) (p := 32) (by decide +kernel) (by decide +kernel) rfl c13 ?_
      refine fs_bipush (n := 8) (p := 34) (by decide +kernel) rfl kb_8 ?_
      have h := Option.some.inj h
      subst h
      exact fs_iret (by decide +kernel) rt_35
  · rw [if_neg c11] at h
    refine fs_icmp_ne_f (off := 24) (t := 26) (p := 5) (by decide +kernel) (by decide +kernel) rfl c11 ?_
    refine fs_iload_n (k := 0) (p := 6) (by decide +kernel) rfl rfl ?_
    refine fs_bipush (n := 48) (p := 8) (by decide +kernel) rfl kb_48 ?_
    by_cases c17 : x0 < (48 : Int32)
    · rw [if_pos c17] at h
      refine fs_icmp_lt_t (off := 16) (t := 24) (by decide +kernel) (by decide +kernel) c17 ?_
      refine fs_iconst (n := -1) (p := 25) (by decide +kernel) rfl kc_m1 ?_
      have h := Option.some.inj h
      subst h
      exact fs_iret (by decide +kernel) rt_35
    · rw [if_neg c17] at h
      refine fs_icmp_lt_f (off := 16) (t := 24) (p := 11) (by decide +kernel) (by decide +kernel) rfl c17 ?_
      refine fs_iload_n (k := 0) (p := 12) (by decide +kernel) rfl rfl ?_
      refine fs_bipush (n := 51) (p := 14) (by decide +kernel) rfl kb_51 ?_
      by_cases c18 : (51 : Int32) < x0
      · rw [if_pos c18] at h
        refine fs_icmp_gt_t (off := 10) (t := 24) (by decide +kernel) (by decide +kernel) c18 ?_
        refine fs_iconst (n := -1) (p := 25) (by decide +kernel) rfl kc_m1 ?_
        have h := Option.some.inj h
        subst h
        exact fs_iret (by decide +kernel) rt_35
      · rw [if_neg c18] at h
        refine fs_icmp_gt_f (off := 10) (t := 24) (p := 17) (by decide +kernel) (by decide +kernel) rfl c18 ?_
        refine fs_iload_n (k := 0) (p := 18) (by decide +kernel) rfl rfl ?_
        refine fs_bipush (n := 48) (p := 20) (by decide +kernel) rfl kb_48 ?_
        refine fs_isub (p := 21) (by decide +kernel) rfl ?_
        refine fs_goto (off := 4) (p := 25) (by decide +kernel) (by decide +kernel) ?_
        have h := Option.some.inj h
        subst h
        exact fs_iret (by decide +kernel) rt_35

/-! ZoneShares$LayerText.wrongSign()I -/
theorem mx_36 : iv_mx 36 = 1 := by decide +kernel
theorem rt_36 : iv_rt 36 = some .int := by decide +kernel
def fm_36 (σ : fx_S) : Option (Int32 × fx_S) :=
  if (σ.1 58 3) < (σ.1 58 2) then (
    some ((0 : Int32), σ)) else (
    some ((3 : Int32), σ))
theorem fe_36 {z : iv_Z} {d : Nat} (hd : 0 ≤ d) {σ : fx_S} {q : Int32 × fx_S} (h : fm_36 σ = some q) : fx_E z 36 d 0 [some (.ref 58)] [] σ (some (.int q.1)) q.2 := by
  unfold fm_36 at h
  refine fs_aload_n (k := 0) (p := 1) (by decide +kernel) rfl rfl ?_
  refine fs_gfi (idx := 36) (ci := 4) (j := 3) (p := 4) (by decide +kernel) rfl (by decide +kernel) fo_58 ?_
  refine fs_aload_n (k := 0) (p := 5) (by decide +kernel) rfl rfl ?_
  refine fs_gfi (idx := 28) (ci := 4) (j := 2) (p := 8) (by decide +kernel) rfl (by decide +kernel) fo_58 ?_
  by_cases c6 : (σ.1 58 3) < (σ.1 58 2)
  · rw [if_pos c6] at h
    refine fs_icmp_lt_t (off := 7) (t := 15) (by decide +kernel) (by decide +kernel) c6 ?_
    refine fs_iconst (n := 0) (p := 16) (by decide +kernel) rfl kc_0 ?_
    have h := Option.some.inj h
    subst h
    exact fs_iret (by decide +kernel) rt_36
  · rw [if_neg c6] at h
    refine fs_icmp_lt_f (off := 7) (t := 15) (p := 11) (by decide +kernel) (by decide +kernel) rfl c6 ?_
    refine fs_iconst (n := 3) (p := 12) (by decide +kernel) rfl kc_3 ?_
    refine fs_goto (off := 4) (p := 16) (by decide +kernel) (by decide +kernel) ?_
    have h := Option.some.inj h
    subst h
    exact fs_iret (by decide +kernel) rt_36

/-! ZoneShares$LayerText.wrongBreak(I)I -/
theorem mx_37 : iv_mx 37 = 2 := by decide +kernel
theorem rt_37 : iv_rt 37 = some .int := by decide +kernel
def fm_37_40 (x1 : Int32) (σ : fx_S) : Option (Int32 × fx_S) :=
  if ¬ x1 = (47 : Int32) then (
    if (σ.1 58 6) = 0 then (
      some ((0 : Int32), σ)) else (
      if (σ.1 58 4) ≤ ((σ.1 58 1) + (1 : Int32)) then (
        some ((0 : Int32), σ)) else (
        some ((4 : Int32), σ)))) else (
    if ((σ.1 58 1) + (1 : Int32)) < (σ.1 58 4) then (
      some ((0 : Int32), σ)) else (
      some ((3 : Int32), σ)))
theorem fe_37_40 {z : iv_Z} {d : Nat} (hd : 0 ≤ d) (x1 : Int32) (σ : fx_S) (q : Int32 × fx_S) (h : fm_37_40  x1 σ = some q) : fx_E z 37 d 40 [some (.ref 58), some (.int x1)] [] σ (some (.int q.1)) q.2 := by
  unfold fm_37_40 at h
  refine fs_iload_n (k := 1) (p := 41) (by decide +kernel) rfl rfl ?_
  refine fs_bipush (n := 47) (p := 43) (by decide +kernel) rfl kb_47 ?_
  by_cases c2 : ¬ x1 = (47 : Int32)
  · rw [if_pos c2] at h
    refine fs_icmp_ne_t (off := 22) (t := 65) (by decide +kernel) (by decide +kernel) c2 ?_
    refine fs_aload_n (k := 0) (p := 66) (by decide +kernel) rfl rfl ?_
    refine fs_gfi (idx := 15) (ci := 4) (j := 6) (p := 69) (by decide +kernel) rfl (by decide +kernel) fo_58 ?_
    by_cases c4 : (σ.1 58 6) = 0
    · rw [if_pos c4] at h
      refine fs_if_eq_t (off := 20) (t := 89) (by decide +kernel) (by decide +kernel) c4 ?_
      refine fs_iconst (n := 0) (p := 90) (by decide +kernel) rfl kc_0 ?_
      have h := Option.some.inj h
      subst h
      exact fs_iret (by decide +kernel) rt_37
    · rw [if_neg c4] at h
      refine fs_if_eq_f (off := 20) (t := 89) (p := 72) (by decide +kernel) (by decide +kernel) rfl c4 ?_
      refine fs_aload_n (k := 0) (p := 73) (by decide +kernel) rfl rfl ?_
      refine fs_gfi (idx := 35) (ci := 4) (j := 1) (p := 76) (by decide +kernel) rfl (by decide +kernel) fo_58 ?_
      refine fs_iconst (n := 1) (p := 77) (by decide +kernel) rfl kc_1 ?_
      refine fs_iadd (p := 78) (by decide +kernel) rfl ?_
      refine fs_aload_n (k := 0) (p := 79) (by decide +kernel) rfl rfl ?_
      refine fs_gfi (idx := 32) (ci := 4) (j := 4) (p := 82) (by decide +kernel) rfl (by decide +kernel) fo_58 ?_
      by_cases c7 : (σ.1 58 4) ≤ ((σ.1 58 1) + (1 : Int32))
      · rw [if_pos c7] at h
        refine fs_icmp_ge_t (off := 7) (t := 89) (by decide +kernel) (by decide +kernel) c7 ?_
        refine fs_iconst (n := 0) (p := 90) (by decide +kernel) rfl kc_0 ?_
        have h := Option.some.inj h
        subst h
        exact fs_iret (by decide +kernel) rt_37
      · rw [if_neg c7] at h
        refine fs_icmp_ge_f (off := 7) (t := 89) (p := 85) (by decide +kernel) (by decide +kernel) rfl c7 ?_
        refine fs_iconst (n := 4) (p := 86) (by decide +kernel) rfl kc_4 ?_
        refine fs_goto (off := 4) (p := 90) (by decide +kernel) (by decide +kernel) ?_
        have h := Option.some.inj h
        subst h
        exact fs_iret (by decide +kernel) rt_37
  · rw [if_neg c2] at h
    refine fs_icmp_ne_f (off := 22) (t := 65) (p := 46) (by decide +kernel) (by decide +kernel) rfl c2 ?_
    refine fs_aload_n (k := 0) (p := 47) (by decide +kernel) rfl rfl ?_
    refine fs_gfi (idx := 35) (ci := 4) (j := 1) (p := 50) (by decide +kernel) rfl (by decide +kernel) fo_58 ?_
    refine fs_iconst (n := 1) (p := 51) (by decide +kernel) rfl kc_1 ?_
    refine fs_iadd (p := 52) (by decide +kernel) rfl ?_
    refine fs_aload_n (k := 0) (p := 53) (by decide +kernel) rfl rfl ?_
    refine fs_gfi (idx := 32) (ci := 4) (j := 4) (p := 56) (by decide +kernel) rfl (by decide +kernel) fo_58 ?_
    by_cases c10 : ((σ.1 58 1) + (1 : Int32)) < (σ.1 58 4)
    · rw [if_pos c10] at h
      refine fs_icmp_lt_t (off := 7) (t := 63) (by decide +kernel) (by decide +kernel) c10 ?_
      refine fs_iconst (n := 0) (p := 64) (by decide +kernel) rfl kc_0 ?_
      have h := Option.some.inj h
      subst h
      exact fs_iret (by decide +kernel) rt_37
    · rw [if_neg c10] at h
      refine fs_icmp_lt_f (off := 7) (t := 63) (p := 59) (by decide +kernel) (by decide +kernel) rfl c10 ?_
      refine fs_iconst (n := 3) (p := 60) (by decide +kernel) rfl kc_3 ?_
      refine fs_goto (off := 4) (p := 64) (by decide +kernel) (by decide +kernel) ?_
      have h := Option.some.inj h
      subst h
      exact fs_iret (by decide +kernel) rt_37
def fm_37_20 (x1 : Int32) (σ : fx_S) : Option (Int32 × fx_S) :=
  if (σ.1 58 5) = 0 then (
    fm_37_40 x1 σ) else (
    if (σ.1 58 2) ≤ (σ.1 58 3) then (
      fm_37_40 x1 σ) else (
      some ((2 : Int32), σ)))
theorem fe_37_20 {z : iv_Z} {d : Nat} (hd : 0 ≤ d) (x1 : Int32) (σ : fx_S) (q : Int32 × fx_S) (h : fm_37_20  x1 σ = some q) : fx_E z 37 d 20 [some (.ref 58), some (.int x1)] [] σ (some (.int q.1)) q.2 := by
  unfold fm_37_20 at h
  refine fs_aload_n (k := 0) (p := 21) (by decide +kernel) rfl rfl ?_
  refine fs_gfi (idx := 19) (ci := 4) (j := 5) (p := 24) (by decide +kernel) rfl (by decide +kernel) fo_58 ?_
  by_cases c2 : (σ.1 58 5) = 0
  · rw [if_pos c2] at h
    refine fs_if_eq_t (off := 16) (t := 40) (by decide +kernel) (by decide +kernel) c2 ?_
    exact fe_37_40 hd _ _ _ h
  · rw [if_neg c2] at h
    refine fs_if_eq_f (off := 16) (t := 40) (p := 27) (by decide +kernel) (by decide +kernel) rfl c2 ?_
    refine fs_aload_n (k := 0) (p := 28) (by decide +kernel) rfl rfl ?_
    refine fs_gfi (idx := 36) (ci := 4) (j := 3) (p := 31) (by decide +kernel) rfl (by decide +kernel) fo_58 ?_
    refine fs_aload_n (k := 0) (p := 32) (by decide +kernel) rfl rfl ?_
    refine fs_gfi (idx := 28) (ci := 4) (j := 2) (p := 35) (by decide +kernel) rfl (by decide +kernel) fo_58 ?_
    by_cases c5 : (σ.1 58 2) ≤ (σ.1 58 3)
    · rw [if_pos c5] at h
      refine fs_icmp_ge_t (off := 5) (t := 40) (by decide +kernel) (by decide +kernel) c5 ?_
      exact fe_37_40 hd _ _ _ h
    · rw [if_neg c5] at h
      refine fs_icmp_ge_f (off := 5) (t := 40) (p := 38) (by decide +kernel) (by decide +kernel) rfl c5 ?_
      refine fs_iconst (n := 2) (p := 39) (by decide +kernel) rfl kc_2 ?_
      have h := Option.some.inj h
      subst h
      exact fs_iret (by decide +kernel) rt_37
def fm_37 (x1 : Int32) (σ : fx_S) : Option (Int32 × fx_S) :=
  if (σ.1 58 3) = 0 then (
    some ((1 : Int32), σ)) else (
    if x1 = (47 : Int32) then (
      fm_37_20 x1 σ) else (
      if x1 = (-1 : Int32) then (
        fm_37_20 x1 σ) else (
        some ((1 : Int32), σ))))
theorem fe_37 {z : iv_Z} {d : Nat} (hd : 0 ≤ d) {x1 : Int32} {σ : fx_S} {q : Int32 × fx_S} (h : fm_37 x1 σ = some q) : fx_E z 37 d 0 [some (.ref 58), some (.int x1)] [] σ (some (.int q.1)) q.2 := by
  unfold fm_37 at h
  refine fs_aload_n (k := 0) (p := 1) (by decide +kernel) rfl rfl ?_
  refine fs_gfi (idx := 36) (ci := 4) (j := 3) (p := 4) (by decide +kernel) rfl (by decide +kernel) fo_58 ?_
  by_cases c22 : (σ.1 58 3) = 0
  · rw [if_pos c22] at h
    refine fs_if_eq_t (off := 14) (t := 18) (by decide +kernel) (by decide +kernel) c22 ?_
    refine fs_iconst (n := 1) (p := 19) (by decide +kernel) rfl kc_1 ?_
    have h := Option.some.inj h
    subst h
    exact fs_iret (by decide +kernel) rt_37
  · rw [if_neg c22] at h
    refine fs_if_eq_f (off := 14) (t := 18) (p := 7) (by decide +kernel) (by decide +kernel) rfl c22 ?_
    refine fs_iload_n (k := 1) (p := 8) (by decide +kernel) rfl rfl ?_
    refine fs_bipush (n := 47) (p := 10) (by decide +kernel) rfl kb_47 ?_
    by_cases c24 : x1 = (47 : Int32)
    · rw [if_pos c24] at h
      refine fs_icmp_eq_t (off := 10) (t := 20) (by decide +kernel) (by decide +kernel) c24 ?_
      exact fe_37_20 hd _ _ _ h
    · rw [if_neg c24] at h
      refine fs_icmp_eq_f (off := 10) (t := 20) (p := 13) (by decide +kernel) (by decide +kernel) rfl c24 ?_
      refine fs_iload_n (k := 1) (p := 14) (by decide +kernel) rfl rfl ?_
      refine fs_iconst (n := -1) (p := 15) (by decide +kernel) rfl kc_m1 ?_
      by_cases c25 : x1 = (-1 : Int32)
      · rw [if_pos c25] at h
        refine fs_icmp_eq_t (off := 5) (t := 20) (by decide +kernel) (by decide +kernel) c25 ?_
        exact fe_37_20 hd _ _ _ h
      · rw [if_neg c25] at h
        refine fs_icmp_eq_f (off := 5) (t := 20) (p := 18) (by decide +kernel) (by decide +kernel) rfl c25 ?_
        refine fs_iconst (n := 1) (p := 19) (by decide +kernel) rfl kc_1 ?_
        have h := Option.some.inj h
        subst h
        exact fs_iret (by decide +kernel) rt_37

/-! ZoneShares$LayerText.endRow()V -/
theorem mx_38 : iv_mx 38 = 1 := by decide +kernel
theorem rt_38 : iv_rt 38 = none := by decide +kernel
def fm_38 (σ : fx_S) : Option (fx_S) :=
  some (fx_w1 (fx_w1 (fx_w1 (fx_w1 σ 58 2 (σ.1 58 3)) 58 5 (1 : Int32)) 58 1 (((fx_w1 (fx_w1 σ 58 2 (σ.1 58 3)) 58 5 (1 : Int32)).1 58 1) + (1 : Int32))) 58 3 (0 : Int32))
theorem fe_38 {z : iv_Z} {d : Nat} (hd : 0 ≤ d) {σ : fx_S} {q : fx_S} (h : fm_38 σ = some q) : fx_E z 38 d 0 [some (.ref 58)] [] σ none q := by
  unfold fm_38 at h
  refine fs_aload_n (k := 0) (p := 1) (by decide +kernel) rfl rfl ?_
  refine fs_aload_n (k := 0) (p := 2) (by decide +kernel) rfl rfl ?_
  refine fs_gfi (idx := 36) (ci := 4) (j := 3) (p := 5) (by decide +kernel) rfl (by decide +kernel) fo_58 ?_
  refine fs_pfi (idx := 28) (ci := 4) (j := 2) (p := 8) (by decide +kernel) rfl (by decide +kernel) (by decide +kernel) fo_58 (fx_oki _ (by decide +kernel)) ?_
  refine fs_aload_n (k := 0) (p := 9) (by decide +kernel) rfl rfl ?_
  refine fs_iconst (n := 1) (p := 10) (by decide +kernel) rfl kc_1 ?_
  refine fs_pfi (idx := 19) (ci := 4) (j := 5) (p := 13) (by decide +kernel) rfl (by decide +kernel) (by decide +kernel) fo_58 (fx_okd (by decide) (by decide +kernel)) ?_
  refine fs_aload_n (k := 0) (p := 14) (by decide +kernel) rfl rfl ?_
  refine fs_dup (p := 15) (by decide +kernel) rfl rfl ?_
  refine fs_gfi (idx := 35) (ci := 4) (j := 1) (p := 18) (by decide +kernel) rfl (by decide +kernel) fo_58 ?_
  refine fs_iconst (n := 1) (p := 19) (by decide +kernel) rfl kc_1 ?_
  refine fs_iadd (p := 20) (by decide +kernel) rfl ?_
  refine fs_pfi (idx := 35) (ci := 4) (j := 1) (p := 23) (by decide +kernel) rfl (by decide +kernel) (by decide +kernel) fo_58 (fx_oki _ (by decide +kernel)) ?_
  refine fs_aload_n (k := 0) (p := 24) (by decide +kernel) rfl rfl ?_
  refine fs_iconst (n := 0) (p := 25) (by decide +kernel) rfl kc_0 ?_
  refine fs_pfi (idx := 36) (ci := 4) (j := 3) (p := 28) (by decide +kernel) rfl (by decide +kernel) (by decide +kernel) fo_58 (fx_oki _ (by decide +kernel)) ?_
  have h := Option.some.inj h
  subst h
  exact fs_ret (by decide +kernel) rt_38

/-! ZoneShares$LayerText.put(I)V -/
theorem mx_39 : iv_mx 39 = 3 := by decide +kernel
theorem rt_39 : iv_rt 39 = none := by decide +kernel
def fm_39_28 (σ : fx_S) : Option (fx_S) :=
  some (fx_w1 σ 58 3 ((σ.1 58 3) + (1 : Int32)))
theorem fe_39_28 {z : iv_Z} {d : Nat} (hd : 0 ≤ d) (o1 : Option Value) (o2 : Option Value) (σ : fx_S) (q : fx_S) (h : fm_39_28  σ = some q) : fx_E z 39 d 28 [some (.ref 58), o1, o2] [] σ none q := by
  unfold fm_39_28 at h
  refine fs_aload_n (k := 0) (p := 29) (by decide +kernel) rfl rfl ?_
  refine fs_dup (p := 30) (by decide +kernel) rfl rfl ?_
  refine fs_gfi (idx := 36) (ci := 4) (j := 3) (p := 33) (by decide +kernel) rfl (by decide +kernel) fo_58 ?_
  refine fs_iconst (n := 1) (p := 34) (by decide +kernel) rfl kc_1 ?_
  refine fs_iadd (p := 35) (by decide +kernel) rfl ?_
  refine fs_pfi (idx := 36) (ci := 4) (j := 3) (p := 38) (by decide +kernel) rfl (by decide +kernel) (by decide +kernel) fo_58 (fx_oki _ (by decide +kernel)) ?_
  have h := Option.some.inj h
  subst h
  exact fs_ret (by decide +kernel) rt_39
def fm_39 (x1 : Int32) (σ : fx_S) : Option (fx_S) :=
  if (96 : Int32) ≤ (((σ.1 58 1) * (σ.1 58 2)) + (σ.1 58 3)) then (
    fm_39_28 σ) else (
    (fx_st σ 59 (((σ.1 58 1) * (σ.1 58 2)) + (σ.1 58 3)) x1).bind fun t8 =>
    fm_39_28 t8)
theorem fe_39 {z : iv_Z} {d : Nat} (hd : 0 ≤ d) {x1 : Int32} {σ : fx_S} {q : fx_S} (h : fm_39 x1 σ = some q) : fx_E z 39 d 0 [some (.ref 58), some (.int x1), none] [] σ none q := by
  unfold fm_39 at h
  refine fs_aload_n (k := 0) (p := 1) (by decide +kernel) rfl rfl ?_
  refine fs_gfi (idx := 35) (ci := 4) (j := 1) (p := 4) (by decide +kernel) rfl (by decide +kernel) fo_58 ?_
  refine fs_aload_n (k := 0) (p := 5) (by decide +kernel) rfl rfl ?_
  refine fs_gfi (idx := 28) (ci := 4) (j := 2) (p := 8) (by decide +kernel) rfl (by decide +kernel) fo_58 ?_
  refine fs_imul (p := 9) (by decide +kernel) rfl ?_
  refine fs_aload_n (k := 0) (p := 10) (by decide +kernel) rfl rfl ?_
  refine fs_gfi (idx := 36) (ci := 4) (j := 3) (p := 13) (by decide +kernel) rfl (by decide +kernel) fo_58 ?_
  refine fs_iadd (p := 14) (by decide +kernel) rfl ?_
  refine fs_istore_n (k := 2) (p := 15) (M := 3) (al' := [some (.ref 58), some (.int x1), some (.int (((σ.1 58 1) * (σ.1 58 2)) + (σ.1 58 3)))]) (by decide +kernel) rfl mx_39 rfl rfl ?_
  refine fs_iload_n (k := 2) (p := 16) (by decide +kernel) rfl rfl ?_
  refine fs_bipush (n := 96) (p := 18) (by decide +kernel) rfl kb_96 ?_
  by_cases c7 : (96 : Int32) ≤ (((σ.1 58 1) * (σ.1 58 2)) + (σ.1 58 3))
  · rw [if_pos c7] at h
    refine fs_icmp_ge_t (off := 10) (t := 28) (by decide +kernel) (by decide +kernel) c7 ?_
    exact fe_39_28 hd _ _ _ _ h
  · rw [if_neg c7] at h
    refine fs_icmp_ge_f (off := 10) (t := 28) (p := 21) (by decide +kernel) (by decide +kernel) rfl c7 ?_
    refine fs_aload_n (k := 0) (p := 22) (by decide +kernel) rfl rfl ?_
    refine fs_gfr (idx := 9) (ci := 4) (j := 0) (p := 25) (by decide +kernel) rfl (by decide +kernel) fo_58 (fr_a58_0) ?_
    refine fs_iload_n (k := 2) (p := 26) (by decide +kernel) rfl rfl ?_
    refine fs_iload_n (k := 1) (p := 27) (by decide +kernel) rfl rfl ?_
    obtain ⟨t8, w9, h⟩ := fx_bd h
    refine fs_iastore (p := 28) (by decide +kernel) rfl w9 ?_
    exact fe_39_28 hd _ _ _ _ h

/-! ZoneShares$Rounder.reach(II)V -/
theorem mx_47 : iv_mx 47 = 3 := by decide +kernel
theorem rt_47 : iv_rt 47 = none := by decide +kernel
def fm_47 (x1 : Int32) (x2 : Int32) (σ : fx_S) : Option (fx_S) :=
  (fx_ld σ 12 x1).bind fun v13 =>
  if ¬ v13 = (-1 : Int32) then (
    some σ) else (
    if (18 : Int32) ≤ (σ.1 6 7) then (
      some σ) else (
      (fx_st σ 12 x1 x2).bind fun t20 =>
      (fx_st t20 13 (t20.1 6 7) x1).bind fun t22 =>
      some (fx_w1 t22 6 7 ((t22.1 6 7) + (1 : Int32)))))
theorem fe_47 {z : iv_Z} {d : Nat} (hd : 0 ≤ d) {x1 : Int32} {x2 : Int32} {σ : fx_S} {q : fx_S} (h : fm_47 x1 x2 σ = some q) : fx_E z 47 d 0 [some (.ref 6), some (.int x1), some (.int x2)] [] σ none q := by
  unfold fm_47 at h
  refine fs_aload_n (k := 0) (p := 1) (by decide +kernel) rfl rfl ?_
  refine fs_gfr (idx := 27) (ci := 5) (j := 5) (p := 4) (by decide +kernel) rfl (by decide +kernel) fo_6 (fr_a6_5) ?_
  refine fs_iload_n (k := 1) (p := 5) (by decide +kernel) rfl rfl ?_
  obtain ⟨v13, w14, h⟩ := fx_bd h
  refine fs_iaload (p := 6) (by decide +kernel) rfl w14 ?_
  refine fs_iconst (n := -1) (p := 7) (by decide +kernel) rfl kc_m1 ?_
  by_cases c17 : ¬ v13 = (-1 : Int32)
  · rw [if_pos c17] at h
    refine fs_icmp_ne_t (off := 39) (t := 46) (by decide +kernel) (by decide +kernel) c17 ?_
    have h := Option.some.inj h
    subst h
    exact fs_ret (by decide +kernel) rt_47
  · rw [if_neg c17] at h
    refine fs_icmp_ne_f (off := 39) (t := 46) (p := 10) (by decide +kernel) (by decide +kernel) rfl c17 ?_
    refine fs_aload_n (k := 0) (p := 11) (by decide +kernel) rfl rfl ?_
    refine fs_gfi (idx := 90) (ci := 5) (j := 7) (p := 14) (by decide +kernel) rfl (by decide +kernel) fo_6 ?_
    refine fs_bipush (n := 18) (p := 16) (by decide +kernel) rfl kb_18 ?_
    by_cases c19 : (18 : Int32) ≤ (σ.1 6 7)
    · rw [if_pos c19] at h
      refine fs_icmp_ge_t (off := 30) (t := 46) (by decide +kernel) (by decide +kernel) c19 ?_
      have h := Option.some.inj h
      subst h
      exact fs_ret (by decide +kernel) rt_47
    · rw [if_neg c19] at h
      refine fs_icmp_ge_f (off := 30) (t := 46) (p := 19) (by decide +kernel) (by decide +kernel) rfl c19 ?_
      refine fs_aload_n (k := 0) (p := 20) (by decide +kernel) rfl rfl ?_
      refine fs_gfr (idx := 27) (ci := 5) (j := 5) (p := 23) (by decide +kernel) rfl (by decide +kernel) fo_6 (fr_a6_5) ?_
      refine fs_iload_n (k := 1) (p := 24) (by decide +kernel) rfl rfl ?_
      refine fs_iload_n (k := 2) (p := 25) (by decide +kernel) rfl rfl ?_
      obtain ⟨t20, w21, h⟩ := fx_bd h
      refine fs_iastore (p := 26) (by decide +kernel) rfl w21 ?_
      refine fs_aload_n (k := 0) (p := 27) (by decide +kernel) rfl rfl ?_
      refine fs_gfr (idx := 30) (ci := 5) (j := 6) (p := 30) (by decide +kernel) rfl (by decide +kernel) fo_6 (fr_a6_6) ?_
      refine fs_aload_n (k := 0) (p := 31) (by decide +kernel) rfl rfl ?_
      refine fs_gfi (idx := 90) (ci := 5) (j := 7) (p := 34) (by decide +kernel) rfl (by decide +kernel) fo_6 ?_
      refine fs_iload_n (k := 1) (p := 35) (by decide +kernel) rfl rfl ?_
      obtain ⟨t22, w23, h⟩ := fx_bd h
      refine fs_iastore (p := 36) (by decide +kernel) rfl w23 ?_
      refine fs_aload_n (k := 0) (p := 37) (by decide +kernel) rfl rfl ?_
      refine fs_dup (p := 38) (by decide +kernel) rfl rfl ?_
      refine fs_gfi (idx := 90) (ci := 5) (j := 7) (p := 41) (by decide +kernel) rfl (by decide +kernel) fo_6 ?_
      refine fs_iconst (n := 1) (p := 42) (by decide +kernel) rfl kc_1 ?_
      refine fs_iadd (p := 43) (by decide +kernel) rfl ?_
      refine fs_pfi (idx := 90) (ci := 5) (j := 7) (p := 46) (by decide +kernel) rfl (by decide +kernel) (by decide +kernel) fo_6 (fx_oki _ (by decide +kernel)) ?_
      have h := Option.some.inj h
      subst h
      exact fs_ret (by decide +kernel) rt_47

/-! ZoneShares$Rounder.spreadRow(I)V -/
theorem mx_48 : iv_mx 48 = 4 := by decide +kernel
theorem rt_48 : iv_rt 48 = none := by decide +kernel
def fm_48_43 (k_2 : Int32 → Int32 → fx_S → Option (fx_S)) (x1 : Int32) (x2 : Int32) (σ : fx_S) : Option (fx_S) :=
  k_2 x1 (x2 + (1 : Int32)) σ
theorem fe_48_43 {z : iv_Z} {d : Nat} (hd : 1 ≤ d) {k_2 : Int32 → Int32 → fx_S → Option (fx_S)} (hk_2 : ∀ (x1 : Int32) (x2 : Int32) (o3 : Option Value) (σ : fx_S) (q : fx_S), k_2 x1 x2 σ = some q → fx_E z 48 d 2 [some (.ref 6), some (.int x1), some (.int x2), o3] [] σ none q) (x1 : Int32) (x2 : Int32) (o3 : Option Value) (σ : fx_S) (q : fx_S) (h : fm_48_43 k_2  x1 x2 σ = some q) : fx_E z 48 d 43 [some (.ref 6), some (.int x1), some (.int x2), o3] [] σ none q := by
  unfold fm_48_43 at h
  refine fs_iinc (k := 2) (n := 1) (p := 46) (M := 4) (al' := [some (.ref 6), some (.int x1), some (.int (x2 + (1 : Int32))), o3]) (by decide +kernel) rfl kc_1 mx_48 rfl rfl rfl ?_
  refine fs_goto (off := -44) (p := 2) (by decide +kernel) (by decide +kernel) ?_
  exact hk_2 _ _ _ _ _ h
def fm_48_2 : Nat → Int32 → Int32 → fx_S → Option (fx_S)
  | 0, _, _, _ => none
  | n + 1, x1, x2, σ =>
    if (9 : Int32) ≤ x2 then (
      some σ) else (
      (fx_ld σ 7 ((x1 * (9 : Int32)) + x2)).bind fun v3 =>
      if ¬ v3 = (1 : Int32) then (
        fm_48_43 (fm_48_2 n) x1 x2 σ) else (
        (fx_ld σ 8 ((x1 * (9 : Int32)) + x2)).bind fun v8 =>
        if ¬ v8 = 0 then (
          fm_48_43 (fm_48_2 n) x1 x2 σ) else (
          (fm_47 ((8 : Int32) + x2) x1 σ).bind fun q13 =>
          fm_48_43 (fm_48_2 n) x1 x2 q13)))
theorem fe_48_2 {z : iv_Z} {d : Nat} (hd : 1 ≤ d) : ∀ (n : Nat) (x1 : Int32) (x2 : Int32) (o3 : Option Value) (σ : fx_S) (q : fx_S), fm_48_2 n x1 x2 σ = some q → fx_E z 48 d 2 [some (.ref 6), some (.int x1), some (.int x2), o3] [] σ none q := by
  intro n
  induction n with
  | zero =>
    intro x1 x2 o3 σ q  h
    rw [fm_48_2] at h
    exact fx_no h
  | succ n ih =>
    intro x1 x2 o3 σ q  h
    rw [fm_48_2] at h
    refine fs_iload_n (k := 2) (p := 3) (by decide +kernel) rfl rfl ?_
    refine fs_bipush (n := 9) (p := 5) (by decide +kernel) rfl kb_9 ?_
    by_cases c2 : (9 : Int32) ≤ x2
    · rw [if_pos c2] at h
      refine fs_icmp_ge_t (off := 44) (t := 49) (by decide +kernel) (by decide +kernel) c2 ?_
      have h := Option.some.inj h
      subst h
      exact fs_ret (by decide +kernel) rt_48
    · rw [if_neg c2] at h
      refine fs_icmp_ge_f (off := 44) (t := 49) (p := 8) (by decide +kernel) (by decide +kernel) rfl c2 ?_
      refine fs_iload_n (k := 1) (p := 9) (by decide +kernel) rfl rfl ?_
      refine fs_bipush (n := 9) (p := 11) (by decide +kernel) rfl kb_9 ?_
      refine fs_imul (p := 12) (by decide +kernel) rfl ?_
      refine fs_iload_n (k := 2) (p := 13) (by decide +kernel) rfl rfl ?_
      refine fs_iadd (p := 14) (by decide +kernel) rfl ?_
      refine fs_istore_n (k := 3) (p := 15) (M := 4) (al' := [some (.ref 6), some (.int x1), some (.int x2), some (.int ((x1 * (9 : Int32)) + x2))]) (by decide +kernel) rfl mx_48 rfl rfl ?_
      refine fs_aload_n (k := 0) (p := 16) (by decide +kernel) rfl rfl ?_
      refine fs_gfr (idx := 11) (ci := 5) (j := 0) (p := 19) (by decide +kernel) rfl (by decide +kernel) fo_6 (fr_a6_0) ?_
      refine fs_iload_n (k := 3) (p := 20) (by decide +kernel) rfl rfl ?_
      obtain ⟨v3, w4, h⟩ := fx_bd h
      refine fs_iaload (p := 21) (by decide +kernel) rfl w4 ?_
      refine fs_iconst (n := 1) (p := 22) (by decide +kernel) rfl kc_1 ?_
      by_cases c7 : ¬ v3 = (1 : Int32)
      · rw [if_pos c7] at h
        refine fs_icmp_ne_t (off := 21) (t := 43) (by decide +kernel) (by decide +kernel) c7 ?_
        exact fe_48_43 hd ih _ _ _ _ _ h
      · rw [if_neg c7] at h
        refine fs_icmp_ne_f (off := 21) (t := 43) (p := 25) (by decide +kernel) (by decide +kernel) rfl c7 ?_
        refine fs_aload_n (k := 0) (p := 26) (by decide +kernel) rfl rfl ?_
        refine fs_gfr (idx := 15) (ci := 5) (j := 1) (p := 29) (by decide +kernel) rfl (by decide +kernel) fo_6 (fr_a6_1) ?_
        refine fs_iload_n (k := 3) (p := 30) (by decide +kernel) rfl rfl ?_
        obtain ⟨v8, w9, h⟩ := fx_bd h
        refine fs_iaload (p := 31) (by decide +kernel) rfl w9 ?_
        by_cases c11 : ¬ v8 = 0
        · rw [if_pos c11] at h
          refine fs_if_ne_t (off := 12) (t := 43) (by decide +kernel) (by decide +kernel) c11 ?_
          exact fe_48_43 hd ih _ _ _ _ _ h
        · rw [if_neg c11] at h
          refine fs_if_ne_f (off := 12) (t := 43) (p := 34) (by decide +kernel) (by decide +kernel) rfl c11 ?_
          refine fs_aload_n (k := 0) (p := 35) (by decide +kernel) rfl rfl ?_
          refine fs_bipush (n := 8) (p := 37) (by decide +kernel) rfl kb_8 ?_
          refine fs_iload_n (k := 2) (p := 38) (by decide +kernel) rfl rfl ?_
          refine fs_iadd (p := 39) (by decide +kernel) rfl ?_
          refine fs_iload_n (k := 1) (p := 40) (by decide +kernel) rfl rfl ?_
          obtain ⟨q13, w12, h⟩ := fx_bd h
          refine fs_callV (idx := 94) (mj := 47) (ci := 5) (na := 2) (mx := 3) (p := 43) (args := [.ref 6, .int ((8 : Int32) + x2), .int x1]) (rest := []) (al2 := [some (.ref 6), some (.int ((8 : Int32) + x2)), some (.int x1)]) (by decide +kernel) rfl (by decide +kernel) fo_6 rfl rfl rfl rfl rfl rfl rfl (by omega) (fun d' hd' => fe_47 (by omega) w12) rfl ?_
          exact fe_48_43 hd ih _ _ _ _ _ h
def fm_48 (x1 : Int32) (σ : fx_S) : Option (fx_S) :=
  fm_48_2 100000 x1 (0 : Int32) σ
theorem fe_48 {z : iv_Z} {d : Nat} (hd : 1 ≤ d) {x1 : Int32} {σ : fx_S} {q : fx_S} (h : fm_48 x1 σ = some q) : fx_E z 48 d 0 [some (.ref 6), some (.int x1), none, none] [] σ none q := by
  unfold fm_48 at h
  refine fs_iconst (n := 0) (p := 1) (by decide +kernel) rfl kc_0 ?_
  refine fs_istore_n (k := 2) (p := 2) (M := 4) (al' := [some (.ref 6), some (.int x1), some (.int (0 : Int32)), none]) (by decide +kernel) rfl mx_48 rfl rfl ?_
  exact fe_48_2 hd 100000 _ _ _ _ _ h

/-! ZoneShares$Rounder.spreadColumn(I)V -/
theorem mx_49 : iv_mx 49 = 4 := by decide +kernel
theorem rt_49 : iv_rt 49 = none := by decide +kernel
def fm_49_69 (k_27 : Int32 → Int32 → fx_S → Option (fx_S)) (x1 : Int32) (x2 : Int32) (σ : fx_S) : Option (fx_S) :=
  k_27 x1 (x2 + (1 : Int32)) σ
theorem fe_49_69 {z : iv_Z} {d : Nat} (hd : 1 ≤ d) {k_27 : Int32 → Int32 → fx_S → Option (fx_S)} (hk_27 : ∀ (x1 : Int32) (x2 : Int32) (o3 : Option Value) (σ : fx_S) (q : fx_S), k_27 x1 x2 σ = some q → fx_E z 49 d 27 [some (.ref 6), some (.int x1), some (.int x2), o3] [] σ none q) (x1 : Int32) (x2 : Int32) (o3 : Option Value) (σ : fx_S) (q : fx_S) (h : fm_49_69 k_27  x1 x2 σ = some q) : fx_E z 49 d 69 [some (.ref 6), some (.int x1), some (.int x2), o3] [] σ none q := by
  unfold fm_49_69 at h
  refine fs_iinc (k := 2) (n := 1) (p := 72) (M := 4) (al' := [some (.ref 6), some (.int x1), some (.int (x2 + (1 : Int32))), o3]) (by decide +kernel) rfl kc_1 mx_49 rfl rfl rfl ?_
  refine fs_goto (off := -45) (p := 27) (by decide +kernel) (by decide +kernel) ?_
  exact hk_27 _ _ _ _ _ h
def fm_49_27 : Nat → Int32 → Int32 → fx_S → Option (fx_S)
  | 0, _, _, _ => none
  | n + 1, x1, x2, σ =>
    if (8 : Int32) ≤ x2 then (
      some σ) else (
      (fx_ld σ 7 ((x2 * (9 : Int32)) + x1)).bind fun v3 =>
      if ¬ v3 = (1 : Int32) then (
        fm_49_69 (fm_49_27 n) x1 x2 σ) else (
        (fx_ld σ 8 ((x2 * (9 : Int32)) + x1)).bind fun v8 =>
        if ¬ v8 = (1 : Int32) then (
          fm_49_69 (fm_49_27 n) x1 x2 σ) else (
          (fm_47 x2 ((8 : Int32) + x1) σ).bind fun q13 =>
          fm_49_69 (fm_49_27 n) x1 x2 q13)))
theorem fe_49_27 {z : iv_Z} {d : Nat} (hd : 1 ≤ d) : ∀ (n : Nat) (x1 : Int32) (x2 : Int32) (o3 : Option Value) (σ : fx_S) (q : fx_S), fm_49_27 n x1 x2 σ = some q → fx_E z 49 d 27 [some (.ref 6), some (.int x1), some (.int x2), o3] [] σ none q := by
  intro n
  induction n with
  | zero =>
    intro x1 x2 o3 σ q  h
    rw [fm_49_27] at h
    exact fx_no h
  | succ n ih =>
    intro x1 x2 o3 σ q  h
    rw [fm_49_27] at h
    refine fs_iload_n (k := 2) (p := 28) (by decide +kernel) rfl rfl ?_
    refine fs_bipush (n := 8) (p := 30) (by decide +kernel) rfl kb_8 ?_
    by_cases c2 : (8 : Int32) ≤ x2
    · rw [if_pos c2] at h
      refine fs_icmp_ge_t (off := 45) (t := 75) (by decide +kernel) (by decide +kernel) c2 ?_
      have h := Option.some.inj h
      subst h
      exact fs_ret (by decide +kernel) rt_49
    · rw [if_neg c2] at h
      refine fs_icmp_ge_f (off := 45) (t := 75) (p := 33) (by decide +kernel) (by decide +kernel) rfl c2 ?_
      refine fs_iload_n (k := 2) (p := 34) (by decide +kernel) rfl rfl ?_
      refine fs_bipush (n := 9) (p := 36) (by decide +kernel) rfl kb_9 ?_
      refine fs_imul (p := 37) (by decide +kernel) rfl ?_
      refine fs_iload_n (k := 1) (p := 38) (by decide +kernel) rfl rfl ?_
      refine fs_iadd (p := 39) (by decide +kernel) rfl ?_
      refine fs_istore_n (k := 3) (p := 40) (M := 4) (al' := [some (.ref 6), some (.int x1), some (.int x2), some (.int ((x2 * (9 : Int32)) + x1))]) (by decide +kernel) rfl mx_49 rfl rfl ?_
      refine fs_aload_n (k := 0) (p := 41) (by decide +kernel) rfl rfl ?_
      refine fs_gfr (idx := 11) (ci := 5) (j := 0) (p := 44) (by decide +kernel) rfl (by decide +kernel) fo_6 (fr_a6_0) ?_
      refine fs_iload_n (k := 3) (p := 45) (by decide +kernel) rfl rfl ?_
      obtain ⟨v3, w4, h⟩ := fx_bd h
      refine fs_iaload (p := 46) (by decide +kernel) rfl w4 ?_
      refine fs_iconst (n := 1) (p := 47) (by decide +kernel) rfl kc_1 ?_
      by_cases c7 : ¬ v3 = (1 : Int32)
      · rw [if_pos c7] at h
        refine fs_icmp_ne_t (off := 22) (t := 69) (by decide +kernel) (by decide +kernel) c7 ?_
        exact fe_49_69 hd ih _ _ _ _ _ h
      · rw [if_neg c7] at h
        refine fs_icmp_ne_f (off := 22) (t := 69) (p := 50) (by decide +kernel) (by decide +kernel) rfl c7 ?_
        refine fs_aload_n (k := 0) (p := 51) (by decide +kernel) rfl rfl ?_
        refine fs_gfr (idx := 15) (ci := 5) (j := 1) (p := 54) (by decide +kernel) rfl (by decide +kernel) fo_6 (fr_a6_1) ?_
        refine fs_iload_n (k := 3) (p := 55) (by decide +kernel) rfl rfl ?_
        obtain ⟨v8, w9, h⟩ := fx_bd h
        refine fs_iaload (p := 56) (by decide +kernel) rfl w9 ?_
        refine fs_iconst (n := 1) (p := 57) (by decide +kernel) rfl kc_1 ?_
        by_cases c11 : ¬ v8 = (1 : Int32)
        · rw [if_pos c11] at h
          refine fs_icmp_ne_t (off := 12) (t := 69) (by decide +kernel) (by decide +kernel) c11 ?_
          exact fe_49_69 hd ih _ _ _ _ _ h
        · rw [if_neg c11] at h
          refine fs_icmp_ne_f (off := 12) (t := 69) (p := 60) (by decide +kernel) (by decide +kernel) rfl c11 ?_
          refine fs_aload_n (k := 0) (p := 61) (by decide +kernel) rfl rfl ?_
          refine fs_iload_n (k := 2) (p := 62) (by decide +kernel) rfl rfl ?_
          refine fs_bipush (n := 8) (p := 64) (by decide +kernel) rfl kb_8 ?_
          refine fs_iload_n (k := 1) (p := 65) (by decide +kernel) rfl rfl ?_
          refine fs_iadd (p := 66) (by decide +kernel) rfl ?_
          obtain ⟨q13, w12, h⟩ := fx_bd h
          refine fs_callV (idx := 94) (mj := 47) (ci := 5) (na := 2) (mx := 3) (p := 69) (args := [.ref 6, .int x2, .int ((8 : Int32) + x1)]) (rest := []) (al2 := [some (.ref 6), some (.int x2), some (.int ((8 : Int32) + x1))]) (by decide +kernel) rfl (by decide +kernel) fo_6 rfl rfl rfl rfl rfl rfl rfl (by omega) (fun d' hd' => fe_47 (by omega) w12) rfl ?_
          exact fe_49_69 hd ih _ _ _ _ _ h
def fm_49_25 (x1 : Int32) (σ : fx_S) : Option (fx_S) :=
  fm_49_27 100000 x1 (0 : Int32) σ
theorem fe_49_25 {z : iv_Z} {d : Nat} (hd : 1 ≤ d) (x1 : Int32) (σ : fx_S) (q : fx_S) (h : fm_49_25  x1 σ = some q) : fx_E z 49 d 25 [some (.ref 6), some (.int x1), none, none] [] σ none q := by
  unfold fm_49_25 at h
  refine fs_iconst (n := 0) (p := 26) (by decide +kernel) rfl kc_0 ?_
  refine fs_istore_n (k := 2) (p := 27) (M := 4) (al' := [some (.ref 6), some (.int x1), some (.int (0 : Int32)), none]) (by decide +kernel) rfl mx_49 rfl rfl ?_
  exact fe_49_27 hd 100000 _ _ _ _ _ h
def fm_49 (x1 : Int32) (σ : fx_S) : Option (fx_S) :=
  (fx_ld σ 11 x1).bind fun v37 =>
  (fx_ld σ 10 x1).bind fun v40 =>
  if v40 ≤ v37 then (
    fm_49_25 x1 σ) else (
    (fm_47 (17 : Int32) ((8 : Int32) + x1) σ).bind fun q46 =>
    fm_49_25 x1 q46)
theorem fe_49 {z : iv_Z} {d : Nat} (hd : 1 ≤ d) {x1 : Int32} {σ : fx_S} {q : fx_S} (h : fm_49 x1 σ = some q) : fx_E z 49 d 0 [some (.ref 6), some (.int x1), none, none] [] σ none q := by
  unfold fm_49 at h
  refine fs_aload_n (k := 0) (p := 1) (by decide +kernel) rfl rfl ?_
  refine fs_gfr (idx := 24) (ci := 5) (j := 4) (p := 4) (by decide +kernel) rfl (by decide +kernel) fo_6 (fr_a6_4) ?_
  refine fs_iload_n (k := 1) (p := 5) (by decide +kernel) rfl rfl ?_
  obtain ⟨v37, w38, h⟩ := fx_bd h
  refine fs_iaload (p := 6) (by decide +kernel) rfl w38 ?_
  refine fs_aload_n (k := 0) (p := 7) (by decide +kernel) rfl rfl ?_
  refine fs_gfr (idx := 21) (ci := 5) (j := 3) (p := 10) (by decide +kernel) rfl (by decide +kernel) fo_6 (fr_a6_3) ?_
  refine fs_iload_n (k := 1) (p := 11) (by decide +kernel) rfl rfl ?_
  obtain ⟨v40, w41, h⟩ := fx_bd h
  refine fs_iaload (p := 12) (by decide +kernel) rfl w41 ?_
  by_cases c44 : v40 ≤ v37
  · rw [if_pos c44] at h
    refine fs_icmp_ge_t (off := 13) (t := 25) (by decide +kernel) (by decide +kernel) c44 ?_
    exact fe_49_25 hd _ _ _ h
  · rw [if_neg c44] at h
    refine fs_icmp_ge_f (off := 13) (t := 25) (p := 15) (by decide +kernel) (by decide +kernel) rfl c44 ?_
    refine fs_aload_n (k := 0) (p := 16) (by decide +kernel) rfl rfl ?_
    refine fs_bipush (n := 17) (p := 18) (by decide +kernel) rfl kb_17 ?_
    refine fs_bipush (n := 8) (p := 20) (by decide +kernel) rfl kb_8 ?_
    refine fs_iload_n (k := 1) (p := 21) (by decide +kernel) rfl rfl ?_
    refine fs_iadd (p := 22) (by decide +kernel) rfl ?_
    obtain ⟨q46, w45, h⟩ := fx_bd h
    refine fs_callV (idx := 94) (mj := 47) (ci := 5) (na := 2) (mx := 3) (p := 25) (args := [.ref 6, .int (17 : Int32), .int ((8 : Int32) + x1)]) (rest := []) (al2 := [some (.ref 6), some (.int (17 : Int32)), some (.int ((8 : Int32) + x1))]) (by decide +kernel) rfl (by decide +kernel) fo_6 rfl rfl rfl rfl rfl rfl rfl (by omega) (fun d' hd' => fe_47 (by omega) w45) rfl ?_
    exact fe_49_25 hd _ _ _ h

/-! ZoneShares$Rounder.spreadHub()V -/
theorem mx_50 : iv_mx 50 = 2 := by decide +kernel
theorem rt_50 : iv_rt 50 = none := by decide +kernel
def fm_50_33 (k_2 : Int32 → fx_S → Option (fx_S)) (x1 : Int32) (σ : fx_S) : Option (fx_S) :=
  k_2 (x1 + (1 : Int32)) σ
theorem fe_50_33 {z : iv_Z} {d : Nat} (hd : 1 ≤ d) {k_2 : Int32 → fx_S → Option (fx_S)} (hk_2 : ∀ (x1 : Int32) (σ : fx_S) (q : fx_S), k_2 x1 σ = some q → fx_E z 50 d 2 [some (.ref 6), some (.int x1)] [] σ none q) (x1 : Int32) (σ : fx_S) (q : fx_S) (h : fm_50_33 k_2  x1 σ = some q) : fx_E z 50 d 33 [some (.ref 6), some (.int x1)] [] σ none q := by
  unfold fm_50_33 at h
  refine fs_iinc (k := 1) (n := 1) (p := 36) (M := 2) (al' := [some (.ref 6), some (.int (x1 + (1 : Int32)))]) (by decide +kernel) rfl kc_1 mx_50 rfl rfl rfl ?_
  refine fs_goto (off := -34) (p := 2) (by decide +kernel) (by decide +kernel) ?_
  exact hk_2 _ _ _ h
def fm_50_2 : Nat → Int32 → fx_S → Option (fx_S)
  | 0, _, _ => none
  | n + 1, x1, σ =>
    if (9 : Int32) ≤ x1 then (
      some σ) else (
      (fx_ld σ 11 x1).bind fun v3 =>
      (fx_ld σ 9 x1).bind fun v6 =>
      if v3 ≤ v6 then (
        fm_50_33 (fm_50_2 n) x1 σ) else (
        (fm_47 ((8 : Int32) + x1) (17 : Int32) σ).bind fun q12 =>
        fm_50_33 (fm_50_2 n) x1 q12))
theorem fe_50_2 {z : iv_Z} {d : Nat} (hd : 1 ≤ d) : ∀ (n : Nat) (x1 : Int32) (σ : fx_S) (q : fx_S), fm_50_2 n x1 σ = some q → fx_E z 50 d 2 [some (.ref 6), some (.int x1)] [] σ none q := by
  intro n
  induction n with
  | zero =>
    intro x1 σ q  h
    rw [fm_50_2] at h
    exact fx_no h
  | succ n ih =>
    intro x1 σ q  h
    rw [fm_50_2] at h
    refine fs_iload_n (k := 1) (p := 3) (by decide +kernel) rfl rfl ?_
    refine fs_bipush (n := 9) (p := 5) (by decide +kernel) rfl kb_9 ?_
    by_cases c2 : (9 : Int32) ≤ x1
    · rw [if_pos c2] at h
      refine fs_icmp_ge_t (off := 34) (t := 39) (by decide +kernel) (by decide +kernel) c2 ?_
      have h := Option.some.inj h
      subst h
      exact fs_ret (by decide +kernel) rt_50
    · rw [if_neg c2] at h
      refine fs_icmp_ge_f (off := 34) (t := 39) (p := 8) (by decide +kernel) (by decide +kernel) rfl c2 ?_
      refine fs_aload_n (k := 0) (p := 9) (by decide +kernel) rfl rfl ?_
      refine fs_gfr (idx := 24) (ci := 5) (j := 4) (p := 12) (by decide +kernel) rfl (by decide +kernel) fo_6 (fr_a6_4) ?_
      refine fs_iload_n (k := 1) (p := 13) (by decide +kernel) rfl rfl ?_
      obtain ⟨v3, w4, h⟩ := fx_bd h
      refine fs_iaload (p := 14) (by decide +kernel) rfl w4 ?_
      refine fs_aload_n (k := 0) (p := 15) (by decide +kernel) rfl rfl ?_
      refine fs_gfr (idx := 18) (ci := 5) (j := 2) (p := 18) (by decide +kernel) rfl (by decide +kernel) fo_6 (fr_a6_2) ?_
      refine fs_iload_n (k := 1) (p := 19) (by decide +kernel) rfl rfl ?_
      obtain ⟨v6, w7, h⟩ := fx_bd h
      refine fs_iaload (p := 20) (by decide +kernel) rfl w7 ?_
      by_cases c10 : v3 ≤ v6
      · rw [if_pos c10] at h
        refine fs_icmp_le_t (off := 13) (t := 33) (by decide +kernel) (by decide +kernel) c10 ?_
        exact fe_50_33 hd ih _ _ _ h
      · rw [if_neg c10] at h
        refine fs_icmp_le_f (off := 13) (t := 33) (p := 23) (by decide +kernel) (by decide +kernel) rfl c10 ?_
        refine fs_aload_n (k := 0) (p := 24) (by decide +kernel) rfl rfl ?_
        refine fs_bipush (n := 8) (p := 26) (by decide +kernel) rfl kb_8 ?_
        refine fs_iload_n (k := 1) (p := 27) (by decide +kernel) rfl rfl ?_
        refine fs_iadd (p := 28) (by decide +kernel) rfl ?_
        refine fs_bipush (n := 17) (p := 30) (by decide +kernel) rfl kb_17 ?_
        obtain ⟨q12, w11, h⟩ := fx_bd h
        refine fs_callV (idx := 94) (mj := 47) (ci := 5) (na := 2) (mx := 3) (p := 33) (args := [.ref 6, .int ((8 : Int32) + x1), .int (17 : Int32)]) (rest := []) (al2 := [some (.ref 6), some (.int ((8 : Int32) + x1)), some (.int (17 : Int32))]) (by decide +kernel) rfl (by decide +kernel) fo_6 rfl rfl rfl rfl rfl rfl rfl (by omega) (fun d' hd' => fe_47 (by omega) w11) rfl ?_
        exact fe_50_33 hd ih _ _ _ h
def fm_50 (σ : fx_S) : Option (fx_S) :=
  fm_50_2 100000 (0 : Int32) σ
theorem fe_50 {z : iv_Z} {d : Nat} (hd : 1 ≤ d) {σ : fx_S} {q : fx_S} (h : fm_50 σ = some q) : fx_E z 50 d 0 [some (.ref 6), none] [] σ none q := by
  unfold fm_50 at h
  refine fs_iconst (n := 0) (p := 1) (by decide +kernel) rfl kc_0 ?_
  refine fs_istore_n (k := 1) (p := 2) (M := 2) (al' := [some (.ref 6), some (.int (0 : Int32))]) (by decide +kernel) rfl mx_50 rfl rfl ?_
  exact fe_50_2 hd 100000 _ _ _ h

/-! ZoneShares$Rounder.turnStep(II)V -/
theorem mx_52 : iv_mx 52 = 3 := by decide +kernel
theorem rt_52 : iv_rt 52 = none := by decide +kernel
def fm_52 (x1 : Int32) (x2 : Int32) (σ : fx_S) : Option (fx_S) :=
  if (8 : Int32) ≤ x1 then (
    if (8 : Int32) ≤ x2 then (
      if ¬ x2 = (17 : Int32) then (
        (fx_ld σ 11 (x2 - (8 : Int32))).bind fun v27 =>
        (fx_st σ 11 (x2 - (8 : Int32)) (v27 - (1 : Int32))).bind fun t30 =>
        some t30) else (
        (fx_ld σ 11 (x1 - (8 : Int32))).bind fun v32 =>
        (fx_st σ 11 (x1 - (8 : Int32)) (v32 + (1 : Int32))).bind fun t35 =>
        some t35)) else (
      (fx_st σ 8 (((x2 * (9 : Int32)) + x1) - (8 : Int32)) (0 : Int32)).bind fun t37 =>
      some t37)) else (
    (fx_st σ 8 (((x1 * (9 : Int32)) + x2) - (8 : Int32)) (1 : Int32)).bind fun t40 =>
    some t40)
theorem fe_52 {z : iv_Z} {d : Nat} (hd : 0 ≤ d) {x1 : Int32} {x2 : Int32} {σ : fx_S} {q : fx_S} (h : fm_52 x1 x2 σ = some q) : fx_E z 52 d 0 [some (.ref 6), some (.int x1), some (.int x2)] [] σ none q := by
  unfold fm_52 at h
  refine fs_iload_n (k := 1) (p := 1) (by decide +kernel) rfl rfl ?_
  refine fs_bipush (n := 8) (p := 3) (by decide +kernel) rfl kb_8 ?_
  by_cases c23 : (8 : Int32) ≤ x1
  · rw [if_pos c23] at h
    refine fs_icmp_ge_t (off := 21) (t := 24) (by decide +kernel) (by decide +kernel) c23 ?_
    refine fs_iload_n (k := 2) (p := 25) (by decide +kernel) rfl rfl ?_
    refine fs_bipush (n := 8) (p := 27) (by decide +kernel) rfl kb_8 ?_
    by_cases c25 : (8 : Int32) ≤ x2
    · rw [if_pos c25] at h
      refine fs_icmp_ge_t (off := 21) (t := 48) (by decide +kernel) (by decide +kernel) c25 ?_
      refine fs_iload_n (k := 2) (p := 49) (by decide +kernel) rfl rfl ?_
      refine fs_bipush (n := 17) (p := 51) (by decide +kernel) rfl kb_17 ?_
      by_cases c26 : ¬ x2 = (17 : Int32)
      · rw [if_pos c26] at h
        refine fs_icmp_ne_t (off := 19) (t := 70) (by decide +kernel) (by decide +kernel) c26 ?_
        refine fs_aload_n (k := 0) (p := 71) (by decide +kernel) rfl rfl ?_
        refine fs_gfr (idx := 24) (ci := 5) (j := 4) (p := 74) (by decide +kernel) rfl (by decide +kernel) fo_6 (fr_a6_4) ?_
        refine fs_iload_n (k := 2) (p := 75) (by decide +kernel) rfl rfl ?_
        refine fs_bipush (n := 8) (p := 77) (by decide +kernel) rfl kb_8 ?_
        refine fs_isub (p := 78) (by decide +kernel) rfl ?_
        refine fs_dup2 (p := 79) (by decide +kernel) rfl rfl rfl ?_
        obtain ⟨v27, w28, h⟩ := fx_bd h
        refine fs_iaload (p := 80) (by decide +kernel) rfl w28 ?_
        refine fs_iconst (n := 1) (p := 81) (by decide +kernel) rfl kc_1 ?_
        refine fs_isub (p := 82) (by decide +kernel) rfl ?_
        obtain ⟨t30, w31, h⟩ := fx_bd h
        refine fs_iastore (p := 83) (by decide +kernel) rfl w31 ?_
        have h := Option.some.inj h
        subst h
        exact fs_ret (by decide +kernel) rt_52
      · rw [if_neg c26] at h
        refine fs_icmp_ne_f (off := 19) (t := 70) (p := 54) (by decide +kernel) (by decide +kernel) rfl c26 ?_
        refine fs_aload_n (k := 0) (p := 55) (by decide +kernel) rfl rfl ?_
        refine fs_gfr (idx := 24) (ci := 5) (j := 4) (p := 58) (by decide +kernel) rfl (by decide +kernel) fo_6 (fr_a6_4) ?_
        refine fs_iload_n (k := 1) (p := 59) (by decide +kernel) rfl rfl ?_
        refine fs_bipush (n := 8) (p := 61) (by decide +kernel) rfl kb_8 ?_
        refine fs_isub (p := 62) (by decide +kernel) rfl ?_
        refine fs_dup2 (p := 63) (by decide +kernel) rfl rfl rfl ?_
        obtain ⟨v32, w33, h⟩ := fx_bd h
        refine fs_iaload (p := 64) (by decide +kernel) rfl w33 ?_
        refine fs_iconst (n := 1) (p := 65) (by decide +kernel) rfl kc_1 ?_
        refine fs_iadd (p := 66) (by decide +kernel) rfl ?_
        obtain ⟨t35, w36, h⟩ := fx_bd h
        refine fs_iastore (p := 67) (by decide +kernel) rfl w36 ?_
        refine fs_goto (off := 16) (p := 83) (by decide +kernel) (by decide +kernel) ?_
        have h := Option.some.inj h
        subst h
        exact fs_ret (by decide +kernel) rt_52
    · rw [if_neg c25] at h
      refine fs_icmp_ge_f (off := 21) (t := 48) (p := 30) (by decide +kernel) (by decide +kernel) rfl c25 ?_
      refine fs_aload_n (k := 0) (p := 31) (by decide +kernel) rfl rfl ?_
      refine fs_gfr (idx := 15) (ci := 5) (j := 1) (p := 34) (by decide +kernel) rfl (by decide +kernel) fo_6 (fr_a6_1) ?_
      refine fs_iload_n (k := 2) (p := 35) (by decide +kernel) rfl rfl ?_
      refine fs_bipush (n := 9) (p := 37) (by decide +kernel) rfl kb_9 ?_
      refine fs_imul (p := 38) (by decide +kernel) rfl ?_
      refine fs_iload_n (k := 1) (p := 39) (by decide +kernel) rfl rfl ?_
      refine fs_iadd (p := 40) (by decide +kernel) rfl ?_
      refine fs_bipush (n := 8) (p := 42) (by decide +kernel) rfl kb_8 ?_
      refine fs_isub (p := 43) (by decide +kernel) rfl ?_
      refine fs_iconst (n := 0) (p := 44) (by decide +kernel) rfl kc_0 ?_
      obtain ⟨t37, w38, h⟩ := fx_bd h
      refine fs_iastore (p := 45) (by decide +kernel) rfl w38 ?_
      refine fs_goto (off := 38) (p := 83) (by decide +kernel) (by decide +kernel) ?_
      have h := Option.some.inj h
      subst h
      exact fs_ret (by decide +kernel) rt_52
  · rw [if_neg c23] at h
    refine fs_icmp_ge_f (off := 21) (t := 24) (p := 6) (by decide +kernel) (by decide +kernel) rfl c23 ?_
    refine fs_aload_n (k := 0) (p := 7) (by decide +kernel) rfl rfl ?_
    refine fs_gfr (idx := 15) (ci := 5) (j := 1) (p := 10) (by decide +kernel) rfl (by decide +kernel) fo_6 (fr_a6_1) ?_
    refine fs_iload_n (k := 1) (p := 11) (by decide +kernel) rfl rfl ?_
    refine fs_bipush (n := 9) (p := 13) (by decide +kernel) rfl kb_9 ?_
    refine fs_imul (p := 14) (by decide +kernel) rfl ?_
    refine fs_iload_n (k := 2) (p := 15) (by decide +kernel) rfl rfl ?_
    refine fs_iadd (p := 16) (by decide +kernel) rfl ?_
    refine fs_bipush (n := 8) (p := 18) (by decide +kernel) rfl kb_8 ?_
    refine fs_isub (p := 19) (by decide +kernel) rfl ?_
    refine fs_iconst (n := 1) (p := 20) (by decide +kernel) rfl kc_1 ?_
    obtain ⟨t40, w41, h⟩ := fx_bd h
    refine fs_iastore (p := 21) (by decide +kernel) rfl w41 ?_
    refine fs_goto (off := 62) (p := 83) (by decide +kernel) (by decide +kernel) ?_
    have h := Option.some.inj h
    subst h
    exact fs_ret (by decide +kernel) rt_52

/-! ZoneShares$State.copy(LZoneShares$State;)V -/
theorem mx_54 : iv_mx 54 = 2 := by decide +kernel
theorem rt_54 : iv_rt 54 = none := by decide +kernel
def fm_54 (x0 : Nat) (x1 : Nat) (σ : fx_S) : Option (fx_S) :=
  if fx_oc x0 6 = true ∧ fx_oc x1 6 = true then (
  (fx_cpy σ (x1 + 1) (0 : Int32) (x0 + 1) (0 : Int32) (288 : Int32)).bind fun t9 =>
  (fx_cpy t9 (x1 + 2) (0 : Int32) (x0 + 2) (0 : Int32) (27 : Int32)).bind fun t11 =>
  (fx_cpy t11 (x1 + 3) (0 : Int32) (x0 + 3) (0 : Int32) (12 : Int32)).bind fun t13 =>
  (fx_cpy t13 (x1 + 4) (0 : Int32) (x0 + 4) (0 : Int32) (8 : Int32)).bind fun t15 =>
  some (fx_w1 (fx_w1 (fx_w1 (fx_w1 (fx_w1 t15 x0 4 (t15.1 x1 4)) x0 5 ((fx_w1 t15 x0 4 (t15.1 x1 4)).1 x1 5)) x0 6 ((fx_w1 (fx_w1 t15 x0 4 (t15.1 x1 4)) x0 5 ((fx_w1 t15 x0 4 (t15.1 x1 4)).1 x1 5)).1 x1 6)) x0 7 ((fx_w1 (fx_w1 (fx_w1 t15 x0 4 (t15.1 x1 4)) x0 5 ((fx_w1 t15 x0 4 (t15.1 x1 4)).1 x1 5)) x0 6 ((fx_w1 (fx_w1 t15 x0 4 (t15.1 x1 4)) x0 5 ((fx_w1 t15 x0 4 (t15.1 x1 4)).1 x1 5)).1 x1 6)).1 x1 7)) x0 8 ((fx_w1 (fx_w1 (fx_w1 (fx_w1 t15 x0 4 (t15.1 x1 4)) x0 5 ((fx_w1 t15 x0 4 (t15.1 x1 4)).1 x1 5)) x0 6 ((fx_w1 (fx_w1 t15 x0 4 (t15.1 x1 4)) x0 5 ((fx_w1 t15 x0 4 (t15.1 x1 4)).1 x1 5)).1 x1 6)) x0 7 ((fx_w1 (fx_w1 (fx_w1 t15 x0 4 (t15.1 x1 4)) x0 5 ((fx_w1 t15 x0 4 (t15.1 x1 4)).1 x1 5)) x0 6 ((fx_w1 (fx_w1 t15 x0 4 (t15.1 x1 4)) x0 5 ((fx_w1 t15 x0 4 (t15.1 x1 4)).1 x1 5)).1 x1 6)).1 x1 7)).1 x1 8))) else none
theorem fe_54 {z : iv_Z} {d : Nat} (hd : 0 ≤ d) {x0 : Nat} {x1 : Nat} {σ : fx_S} {q : fx_S} (h : fm_54 x0 x1 σ = some q) : fx_E z 54 d 0 [some (.ref x0), some (.ref x1)] [] σ none q := by
  unfold fm_54 at h
  obtain ⟨gg, h⟩ := fx_gd h
  obtain ⟨g0, g1⟩ := gg
  refine fs_aload_n (k := 1) (p := 1) (by decide +kernel) rfl rfl ?_
  refine fs_gfr (idx := 9) (ci := 6) (j := 0) (p := 4) (by decide +kernel) rfl (by decide +kernel) g1 (fr_6_0 g1) ?_
  refine fs_iconst (n := 0) (p := 5) (by decide +kernel) rfl kc_0 ?_
  refine fs_aload_n (k := 0) (p := 6) (by decide +kernel) rfl rfl ?_
  refine fs_gfr (idx := 9) (ci := 6) (j := 0) (p := 9) (by decide +kernel) rfl (by decide +kernel) g0 (fr_6_0 g0) ?_
  refine fs_iconst (n := 0) (p := 10) (by decide +kernel) rfl kc_0 ?_
  refine fs_sipush (n := 288) (p := 13) (by decide +kernel) rfl ks_288 ?_
  obtain ⟨t9, w10, h⟩ := fx_bd h
  refine fs_cpy (idx := 30) (p := 16) (by decide +kernel) rfl (by decide +kernel) rfl w10 ?_
  refine fs_aload_n (k := 1) (p := 17) (by decide +kernel) rfl rfl ?_
  refine fs_gfr (idx := 15) (ci := 6) (j := 1) (p := 20) (by decide +kernel) rfl (by decide +kernel) g1 (fr_6_1 g1) ?_
  refine fs_iconst (n := 0) (p := 21) (by decide +kernel) rfl kc_0 ?_
  refine fs_aload_n (k := 0) (p := 22) (by decide +kernel) rfl rfl ?_
  refine fs_gfr (idx := 15) (ci := 6) (j := 1) (p := 25) (by decide +kernel) rfl (by decide +kernel) g0 (fr_6_1 g0) ?_
  refine fs_iconst (n := 0) (p := 26) (by decide +kernel) rfl kc_0 ?_
  refine fs_bipush (n := 27) (p := 28) (by decide +kernel) rfl kb_27 ?_
  obtain ⟨t11, w12, h⟩ := fx_bd h
  refine fs_cpy (idx := 30) (p := 31) (by decide +kernel) rfl (by decide +kernel) rfl w12 ?_
  refine fs_aload_n (k := 1) (p := 32) (by decide +kernel) rfl rfl ?_
  refine fs_gfr (idx := 18) (ci := 6) (j := 2) (p := 35) (by decide +kernel) rfl (by decide +kernel) g1 (fr_6_2 g1) ?_
  refine fs_iconst (n := 0) (p := 36) (by decide +kernel) rfl kc_0 ?_
  refine fs_aload_n (k := 0) (p := 37) (by decide +kernel) rfl rfl ?_
  refine fs_gfr (idx := 18) (ci := 6) (j := 2) (p := 40) (by decide +kernel) rfl (by decide +kernel) g0 (fr_6_2 g0) ?_
  refine fs_iconst (n := 0) (p := 41) (by decide +kernel) rfl kc_0 ?_
  refine fs_bipush (n := 12) (p := 43) (by decide +kernel) rfl kb_12 ?_
  obtain ⟨t13, w14, h⟩ := fx_bd h
  refine fs_cpy (idx := 30) (p := 46) (by decide +kernel) rfl (by decide +kernel) rfl w14 ?_
  refine fs_aload_n (k := 1) (p := 47) (by decide +kernel) rfl rfl ?_
  refine fs_gfr (idx := 21) (ci := 6) (j := 3) (p := 50) (by decide +kernel) rfl (by decide +kernel) g1 (fr_6_3 g1) ?_
  refine fs_iconst (n := 0) (p := 51) (by decide +kernel) rfl kc_0 ?_
  refine fs_aload_n (k := 0) (p := 52) (by decide +kernel) rfl rfl ?_
  refine fs_gfr (idx := 21) (ci := 6) (j := 3) (p := 55) (by decide +kernel) rfl (by decide +kernel) g0 (fr_6_3 g0) ?_
  refine fs_iconst (n := 0) (p := 56) (by decide +kernel) rfl kc_0 ?_
  refine fs_bipush (n := 8) (p := 58) (by decide +kernel) rfl kb_8 ?_
  obtain ⟨t15, w16, h⟩ := fx_bd h
  refine fs_cpy (idx := 30) (p := 61) (by decide +kernel) rfl (by decide +kernel) rfl w16 ?_
  refine fs_aload_n (k := 0) (p := 62) (by decide +kernel) rfl rfl ?_
  refine fs_aload_n (k := 1) (p := 63) (by decide +kernel) rfl rfl ?_
  refine fs_gfi (idx := 36) (ci := 6) (j := 4) (p := 66) (by decide +kernel) rfl (by decide +kernel) g1 ?_
  refine fs_pfi (idx := 36) (ci := 6) (j := 4) (p := 69) (by decide +kernel) rfl (by decide +kernel) (by decide +kernel) g0 (fx_oki _ (by decide +kernel)) ?_
  refine fs_aload_n (k := 0) (p := 70) (by decide +kernel) rfl rfl ?_
  refine fs_aload_n (k := 1) (p := 71) (by decide +kernel) rfl rfl ?_
  refine fs_gfi (idx := 40) (ci := 6) (j := 5) (p := 74) (by decide +kernel) rfl (by decide +kernel) g1 ?_
  refine fs_pfi (idx := 40) (ci := 6) (j := 5) (p := 77) (by decide +kernel) rfl (by decide +kernel) (by decide +kernel) g0 (fx_oki _ (by decide +kernel)) ?_
  refine fs_aload_n (k := 0) (p := 78) (by decide +kernel) rfl rfl ?_
  refine fs_aload_n (k := 1) (p := 79) (by decide +kernel) rfl rfl ?_
  refine fs_gfi (idx := 43) (ci := 6) (j := 6) (p := 82) (by decide +kernel) rfl (by decide +kernel) g1 ?_
  refine fs_pfi (idx := 43) (ci := 6) (j := 6) (p := 85) (by decide +kernel) rfl (by decide +kernel) (by decide +kernel) g0 (fx_oki _ (by decide +kernel)) ?_
  refine fs_aload_n (k := 0) (p := 86) (by decide +kernel) rfl rfl ?_
  refine fs_aload_n (k := 1) (p := 87) (by decide +kernel) rfl rfl ?_
  refine fs_gfi (idx := 46) (ci := 6) (j := 7) (p := 90) (by decide +kernel) rfl (by decide +kernel) g1 ?_
  refine fs_pfi (idx := 46) (ci := 6) (j := 7) (p := 93) (by decide +kernel) rfl (by decide +kernel) (by decide +kernel) g0 (fx_oki _ (by decide +kernel)) ?_
  refine fs_aload_n (k := 0) (p := 94) (by decide +kernel) rfl rfl ?_
  refine fs_aload_n (k := 1) (p := 95) (by decide +kernel) rfl rfl ?_
  refine fs_gfi (idx := 49) (ci := 6) (j := 8) (p := 98) (by decide +kernel) rfl (by decide +kernel) g1 ?_
  refine fs_pfi (idx := 49) (ci := 6) (j := 8) (p := 101) (by decide +kernel) rfl (by decide +kernel) (by decide +kernel) g0 (fx_oki _ (by decide +kernel)) ?_
  have h := Option.some.inj h
  subst h
  exact fs_ret (by decide +kernel) rt_54

/-! ZoneShares$State.putLayer(ILZoneShares$LayerText;)V -/
theorem mx_55 : iv_mx 55 = 3 := by decide +kernel
theorem rt_55 : iv_rt 55 = none := by decide +kernel
def fm_55_27 (x0 : Nat) (x1 : Int32) (σ : fx_S) : Option (fx_S) :=
  (fx_cpy (fx_w1 (fx_w1 (fx_w1 σ x0 4 (σ.1 58 1)) x0 5 ((fx_w1 σ x0 4 (σ.1 58 1)).1 58 2)) x0 6 (((fx_w1 (fx_w1 σ x0 4 (σ.1 58 1)) x0 5 ((fx_w1 σ x0 4 (σ.1 58 1)).1 58 2)).1 x0 6) ||| ((1 : Int32) <<< (x1 &&& 31)))) 59 (0 : Int32) (x0 + 1) (x1 * (96 : Int32)) (96 : Int32)).bind fun t1 =>
  some t1
theorem fe_55_27 {z : iv_Z} {d : Nat} (hd : 0 ≤ d) (x0 : Nat) (x1 : Int32) (σ : fx_S) (q : fx_S) (g0 : fx_oc x0 6 = true) (h : fm_55_27  x0 x1 σ = some q) : fx_E z 55 d 27 [some (.ref x0), some (.int x1), some (.ref 58)] [] σ none q := by
  unfold fm_55_27 at h
  refine fs_aload_n (k := 0) (p := 28) (by decide +kernel) rfl rfl ?_
  refine fs_aload_n (k := 2) (p := 29) (by decide +kernel) rfl rfl ?_
  refine fs_gfi (idx := 52) (ci := 4) (j := 1) (p := 32) (by decide +kernel) rfl (by decide +kernel) fo_58 ?_
  refine fs_pfi (idx := 36) (ci := 6) (j := 4) (p := 35) (by decide +kernel) rfl (by decide +kernel) (by decide +kernel) g0 (fx_oki _ (by decide +kernel)) ?_
  refine fs_aload_n (k := 0) (p := 36) (by decide +kernel) rfl rfl ?_
  refine fs_aload_n (k := 2) (p := 37) (by decide +kernel) rfl rfl ?_
  refine fs_gfi (idx := 55) (ci := 4) (j := 2) (p := 40) (by decide +kernel) rfl (by decide +kernel) fo_58 ?_
  refine fs_pfi (idx := 40) (ci := 6) (j := 5) (p := 43) (by decide +kernel) rfl (by decide +kernel) (by decide +kernel) g0 (fx_oki _ (by decide +kernel)) ?_
  refine fs_aload_n (k := 0) (p := 44) (by decide +kernel) rfl rfl ?_
  refine fs_aload_n (k := 0) (p := 45) (by decide +kernel) rfl rfl ?_
  refine fs_gfi (idx := 43) (ci := 6) (j := 6) (p := 48) (by decide +kernel) rfl (by decide +kernel) g0 ?_
  refine fs_iconst (n := 1) (p := 49) (by decide +kernel) rfl kc_1 ?_
  refine fs_iload_n (k := 1) (p := 50) (by decide +kernel) rfl rfl ?_
  refine fs_ishl (p := 51) (by decide +kernel) rfl ?_
  refine fs_ior (p := 52) (by decide +kernel) rfl ?_
  refine fs_pfi (idx := 43) (ci := 6) (j := 6) (p := 55) (by decide +kernel) rfl (by decide +kernel) (by decide +kernel) g0 (fx_oki _ (by decide +kernel)) ?_
  refine fs_aload_n (k := 2) (p := 56) (by decide +kernel) rfl rfl ?_
  refine fs_gfr (idx := 56) (ci := 4) (j := 0) (p := 59) (by decide +kernel) rfl (by decide +kernel) fo_58 (fr_a58_0) ?_
  refine fs_iconst (n := 0) (p := 60) (by decide +kernel) rfl kc_0 ?_
  refine fs_aload_n (k := 0) (p := 61) (by decide +kernel) rfl rfl ?_
  refine fs_gfr (idx := 9) (ci := 6) (j := 0) (p := 64) (by decide +kernel) rfl (by decide +kernel) g0 (fr_6_0 g0) ?_
  refine fs_iload_n (k := 1) (p := 65) (by decide +kernel) rfl rfl ?_
  refine fs_bipush (n := 96) (p := 67) (by decide +kernel) rfl kb_96 ?_
  refine fs_imul (p := 68) (by decide +kernel) rfl ?_
  refine fs_bipush (n := 96) (p := 70) (by decide +kernel) rfl kb_96 ?_
  obtain ⟨t1, w2, h⟩ := fx_bd h
  refine fs_cpy (idx := 30) (p := 73) (by decide +kernel) rfl (by decide +kernel) rfl w2 ?_
  have h := Option.some.inj h
  subst h
  exact fs_ret (by decide +kernel) rt_55
def fm_55_22 (x0 : Nat) (x1 : Int32) (σ : fx_S) : Option (fx_S) :=
  fm_55_27 x0 x1 (fx_w1 σ x0 6 (0 : Int32))
theorem fe_55_22 {z : iv_Z} {d : Nat} (hd : 0 ≤ d) (x0 : Nat) (x1 : Int32) (σ : fx_S) (q : fx_S) (g0 : fx_oc x0 6 = true) (h : fm_55_22  x0 x1 σ = some q) : fx_E z 55 d 22 [some (.ref x0), some (.int x1), some (.ref 58)] [] σ none q := by
  unfold fm_55_22 at h
  refine fs_aload_n (k := 0) (p := 23) (by decide +kernel) rfl rfl ?_
  refine fs_iconst (n := 0) (p := 24) (by decide +kernel) rfl kc_0 ?_
  refine fs_pfi (idx := 43) (ci := 6) (j := 6) (p := 27) (by decide +kernel) rfl (by decide +kernel) (by decide +kernel) g0 (fx_oki _ (by decide +kernel)) ?_
  exact fe_55_27 hd _ _ _ _ g0 h
def fm_55 (x0 : Nat) (x1 : Int32) (σ : fx_S) : Option (fx_S) :=
  if fx_oc x0 6 = true then (
  if ¬ (σ.1 58 1) = (σ.1 x0 4) then (
    fm_55_22 x0 x1 σ) else (
    if (σ.1 58 2) = (σ.1 x0 5) then (
      fm_55_27 x0 x1 σ) else (
      fm_55_22 x0 x1 σ))) else none
theorem fe_55 {z : iv_Z} {d : Nat} (hd : 0 ≤ d) {x0 : Nat} {x1 : Int32} {σ : fx_S} {q : fx_S} (h : fm_55 x0 x1 σ = some q) : fx_E z 55 d 0 [some (.ref x0), some (.int x1), some (.ref 58)] [] σ none q := by
  unfold fm_55 at h
  obtain ⟨g0, h⟩ := fx_gd h
  refine fs_aload_n (k := 2) (p := 1) (by decide +kernel) rfl rfl ?_
  refine fs_gfi (idx := 52) (ci := 4) (j := 1) (p := 4) (by decide +kernel) rfl (by decide +kernel) fo_58 ?_
  refine fs_aload_n (k := 0) (p := 5) (by decide +kernel) rfl rfl ?_
  refine fs_gfi (idx := 36) (ci := 6) (j := 4) (p := 8) (by decide +kernel) rfl (by decide +kernel) g0 ?_
  by_cases c12 : ¬ (σ.1 58 1) = (σ.1 x0 4)
  · rw [if_pos c12] at h
    refine fs_icmp_ne_t (off := 14) (t := 22) (by decide +kernel) (by decide +kernel) c12 ?_
    exact fe_55_22 hd _ _ _ _ g0 h
  · rw [if_neg c12] at h
    refine fs_icmp_ne_f (off := 14) (t := 22) (p := 11) (by decide +kernel) (by decide +kernel) rfl c12 ?_
    refine fs_aload_n (k := 2) (p := 12) (by decide +kernel) rfl rfl ?_
    refine fs_gfi (idx := 55) (ci := 4) (j := 2) (p := 15) (by decide +kernel) rfl (by decide +kernel) fo_58 ?_
    refine fs_aload_n (k := 0) (p := 16) (by decide +kernel) rfl rfl ?_
    refine fs_gfi (idx := 40) (ci := 6) (j := 5) (p := 19) (by decide +kernel) rfl (by decide +kernel) g0 ?_
    by_cases c15 : (σ.1 58 2) = (σ.1 x0 5)
    · rw [if_pos c15] at h
      refine fs_icmp_eq_t (off := 8) (t := 27) (by decide +kernel) (by decide +kernel) c15 ?_
      exact fe_55_27 hd _ _ _ _ g0 h
    · rw [if_neg c15] at h
      refine fs_icmp_eq_f (off := 8) (t := 27) (p := 22) (by decide +kernel) (by decide +kernel) rfl c15 ?_
      exact fe_55_22 hd _ _ _ _ g0 h

/-! ZoneShares$State.has(I)Z -/
theorem mx_56 : iv_mx 56 = 2 := by decide +kernel
theorem rt_56 : iv_rt 56 = some .boolean := by decide +kernel
def fm_56 (x0 : Nat) (x1 : Int32) (σ : fx_S) : Option (Bool × fx_S) :=
  if fx_oc x0 6 = true then (
  if ¬ (((σ.1 x0 6) >>> (x1 &&& 31)) &&& (1 : Int32)) = (1 : Int32) then (
    some (false, σ)) else (
    some (true, σ))) else none
theorem fe_56 {z : iv_Z} {d : Nat} (hd : 0 ≤ d) {x0 : Nat} {x1 : Int32} {σ : fx_S} {q : Bool × fx_S} (h : fm_56 x0 x1 σ = some q) : fx_E z 56 d 0 [some (.ref x0), some (.int x1)] [] σ (some (.int (fx_b q.1))) q.2 := by
  unfold fm_56 at h
  obtain ⟨g0, h⟩ := fx_gd h
  refine fs_aload_n (k := 0) (p := 1) (by decide +kernel) rfl rfl ?_
  refine fs_gfi (idx := 43) (ci := 6) (j := 6) (p := 4) (by decide +kernel) rfl (by decide +kernel) g0 ?_
  refine fs_iload_n (k := 1) (p := 5) (by decide +kernel) rfl rfl ?_
  refine fs_ishr (p := 6) (by decide +kernel) rfl ?_
  refine fs_iconst (n := 1) (p := 7) (by decide +kernel) rfl kc_1 ?_
  refine fs_iand (p := 8) (by decide +kernel) rfl ?_
  refine fs_iconst (n := 1) (p := 9) (by decide +kernel) rfl kc_1 ?_
  by_cases c4 : ¬ (((σ.1 x0 6) >>> (x1 &&& 31)) &&& (1 : Int32)) = (1 : Int32)
  · rw [if_pos c4] at h
    refine fs_icmp_ne_t (off := 7) (t := 16) (by decide +kernel) (by decide +kernel) c4 ?_
    refine fs_iconst (n := 0) (p := 17) (by decide +kernel) rfl kc_0 ?_
    have h := Option.some.inj h
    subst h
    exact fs_zret (b := false) (by decide +kernel) rt_56
  · rw [if_neg c4] at h
    refine fs_icmp_ne_f (off := 7) (t := 16) (p := 12) (by decide +kernel) (by decide +kernel) rfl c4 ?_
    refine fs_iconst (n := 1) (p := 13) (by decide +kernel) rfl kc_1 ?_
    refine fs_goto (off := 4) (p := 17) (by decide +kernel) (by decide +kernel) ?_
    have h := Option.some.inj h
    subst h
    exact fs_zret (b := true) (by decide +kernel) rt_56

/-! ZoneShares$State.whole()Z -/
theorem mx_57 : iv_mx 57 = 1 := by decide +kernel
theorem rt_57 : iv_rt 57 = some .boolean := by decide +kernel
def fm_57 (x0 : Nat) (σ : fx_S) : Option (Bool × fx_S) :=
  if fx_oc x0 6 = true then (
  if ¬ (σ.1 x0 6) = (7 : Int32) then (
    some (false, σ)) else (
    some (true, σ))) else none
theorem fe_57 {z : iv_Z} {d : Nat} (hd : 0 ≤ d) {x0 : Nat} {σ : fx_S} {q : Bool × fx_S} (h : fm_57 x0 σ = some q) : fx_E z 57 d 0 [some (.ref x0)] [] σ (some (.int (fx_b q.1))) q.2 := by
  unfold fm_57 at h
  obtain ⟨g0, h⟩ := fx_gd h
  refine fs_aload_n (k := 0) (p := 1) (by decide +kernel) rfl rfl ?_
  refine fs_gfi (idx := 43) (ci := 6) (j := 6) (p := 4) (by decide +kernel) rfl (by decide +kernel) g0 ?_
  refine fs_bipush (n := 7) (p := 6) (by decide +kernel) rfl kb_7 ?_
  by_cases c4 : ¬ (σ.1 x0 6) = (7 : Int32)
  · rw [if_pos c4] at h
    refine fs_icmp_ne_t (off := 7) (t := 13) (by decide +kernel) (by decide +kernel) c4 ?_
    refine fs_iconst (n := 0) (p := 14) (by decide +kernel) rfl kc_0 ?_
    have h := Option.some.inj h
    subst h
    exact fs_zret (b := false) (by decide +kernel) rt_57
  · rw [if_neg c4] at h
    refine fs_icmp_ne_f (off := 7) (t := 13) (p := 9) (by decide +kernel) (by decide +kernel) rfl c4 ?_
    refine fs_iconst (n := 1) (p := 10) (by decide +kernel) rfl kc_1 ?_
    refine fs_goto (off := 4) (p := 14) (by decide +kernel) (by decide +kernel) ?_
    have h := Option.some.inj h
    subst h
    exact fs_zret (b := true) (by decide +kernel) rt_57

/-! ZoneShares$State.cells()I -/
theorem mx_58 : iv_mx 58 = 1 := by decide +kernel
theorem rt_58 : iv_rt 58 = some .int := by decide +kernel
def fm_58 (x0 : Nat) (σ : fx_S) : Option (Int32 × fx_S) :=
  if fx_oc x0 6 = true then (
  some (((σ.1 x0 4) * (σ.1 x0 5)), σ)) else none
theorem fe_58 {z : iv_Z} {d : Nat} (hd : 0 ≤ d) {x0 : Nat} {σ : fx_S} {q : Int32 × fx_S} (h : fm_58 x0 σ = some q) : fx_E z 58 d 0 [some (.ref x0)] [] σ (some (.int q.1)) q.2 := by
  unfold fm_58 at h
  obtain ⟨g0, h⟩ := fx_gd h
  refine fs_aload_n (k := 0) (p := 1) (by decide +kernel) rfl rfl ?_
  refine fs_gfi (idx := 36) (ci := 6) (j := 4) (p := 4) (by decide +kernel) rfl (by decide +kernel) g0 ?_
  refine fs_aload_n (k := 0) (p := 5) (by decide +kernel) rfl rfl ?_
  refine fs_gfi (idx := 40) (ci := 6) (j := 5) (p := 8) (by decide +kernel) rfl (by decide +kernel) g0 ?_
  refine fs_imul (p := 9) (by decide +kernel) rfl ?_
  have h := Option.some.inj h
  subst h
  exact fs_iret (by decide +kernel) rt_58

/-! ZoneShares$State.hasCell(II)Z -/
theorem mx_59 : iv_mx 59 = 3 := by decide +kernel
theorem rt_59 : iv_rt 59 = some .boolean := by decide +kernel
def fm_59 (x0 : Nat) (x1 : Int32) (x2 : Int32) (σ : fx_S) : Option (Bool × fx_S) :=
  if fx_oc x0 6 = true then (
  if x1 < 0 then (
    some (false, σ)) else (
    if (σ.1 x0 4) ≤ x1 then (
      some (false, σ)) else (
      if x2 < 0 then (
        some (false, σ)) else (
        if (σ.1 x0 5) ≤ x2 then (
          some (false, σ)) else (
          some (true, σ)))))) else none
theorem fe_59 {z : iv_Z} {d : Nat} (hd : 0 ≤ d) {x0 : Nat} {x1 : Int32} {x2 : Int32} {σ : fx_S} {q : Bool × fx_S} (h : fm_59 x0 x1 x2 σ = some q) : fx_E z 59 d 0 [some (.ref x0), some (.int x1), some (.int x2)] [] σ (some (.int (fx_b q.1))) q.2 := by
  unfold fm_59 at h
  obtain ⟨g0, h⟩ := fx_gd h
  refine fs_iload_n (k := 1) (p := 1) (by decide +kernel) rfl rfl ?_
  by_cases c10 : x1 < 0
  · rw [if_pos c10] at h
    refine fs_if_lt_t (off := 27) (t := 28) (by decide +kernel) (by decide +kernel) c10 ?_
    refine fs_iconst (n := 0) (p := 29) (by decide +kernel) rfl kc_0 ?_
    have h := Option.some.inj h
    subst h
    exact fs_zret (b := false) (by decide +kernel) rt_59
  · rw [if_neg c10] at h
    refine fs_if_lt_f (off := 27) (t := 28) (p := 4) (by decide +kernel) (by decide +kernel) rfl c10 ?_
    refine fs_iload_n (k := 1) (p := 5) (by decide +kernel) rfl rfl ?_
    refine fs_aload_n (k := 0) (p := 6) (by decide +kernel) rfl rfl ?_
    refine fs_gfi (idx := 36) (ci := 6) (j := 4) (p := 9) (by decide +kernel) rfl (by decide +kernel) g0 ?_
    by_cases c12 : (σ.1 x0 4) ≤ x1
    · rw [if_pos c12] at h
      refine fs_icmp_ge_t (off := 19) (t := 28) (by decide +kernel) (by decide +kernel) c12 ?_
      refine fs_iconst (n := 0) (p := 29) (by decide +kernel) rfl kc_0 ?_
      have h := Option.some.inj h
      subst h
      exact fs_zret (b := false) (by decide +kernel) rt_59
    · rw [if_neg c12] at h
      refine fs_icmp_ge_f (off := 19) (t := 28) (p := 12) (by decide +kernel) (by decide +kernel) rfl c12 ?_
      refine fs_iload_n (k := 2) (p := 13) (by decide +kernel) rfl rfl ?_
      by_cases c14 : x2 < 0
      · rw [if_pos c14] at h
        refine fs_if_lt_t (off := 15) (t := 28) (by decide +kernel) (by decide +kernel) c14 ?_
        refine fs_iconst (n := 0) (p := 29) (by decide +kernel) rfl kc_0 ?_
        have h := Option.some.inj h
        subst h
        exact fs_zret (b := false) (by decide +kernel) rt_59
      · rw [if_neg c14] at h
        refine fs_if_lt_f (off := 15) (t := 28) (p := 16) (by decide +kernel) (by decide +kernel) rfl c14 ?_
        refine fs_iload_n (k := 2) (p := 17) (by decide +kernel) rfl rfl ?_
        refine fs_aload_n (k := 0) (p := 18) (by decide +kernel) rfl rfl ?_
        refine fs_gfi (idx := 40) (ci := 6) (j := 5) (p := 21) (by decide +kernel) rfl (by decide +kernel) g0 ?_
        by_cases c16 : (σ.1 x0 5) ≤ x2
        · rw [if_pos c16] at h
          refine fs_icmp_ge_t (off := 7) (t := 28) (by decide +kernel) (by decide +kernel) c16 ?_
          refine fs_iconst (n := 0) (p := 29) (by decide +kernel) rfl kc_0 ?_
          have h := Option.some.inj h
          subst h
          exact fs_zret (b := false) (by decide +kernel) rt_59
        · rw [if_neg c16] at h
          refine fs_icmp_ge_f (off := 7) (t := 28) (p := 24) (by decide +kernel) (by decide +kernel) rfl c16 ?_
          refine fs_iconst (n := 1) (p := 25) (by decide +kernel) rfl kc_1 ?_
          refine fs_goto (off := 4) (p := 29) (by decide +kernel) (by decide +kernel) ?_
          have h := Option.some.inj h
          subst h
          exact fs_zret (b := true) (by decide +kernel) rt_59

/-! ZoneShares$State.at(II)I -/
theorem mx_60 : iv_mx 60 = 3 := by decide +kernel
theorem rt_60 : iv_rt 60 = some .int := by decide +kernel
def fm_60 (x0 : Nat) (x1 : Int32) (x2 : Int32) (σ : fx_S) : Option (Int32 × fx_S) :=
  if fx_oc x0 6 = true then (
  (fx_ld σ (x0 + 1) ((x1 * (96 : Int32)) + x2)).bind fun v4 =>
  some (v4, σ)) else none
theorem fe_60 {z : iv_Z} {d : Nat} (hd : 0 ≤ d) {x0 : Nat} {x1 : Int32} {x2 : Int32} {σ : fx_S} {q : Int32 × fx_S} (h : fm_60 x0 x1 x2 σ = some q) : fx_E z 60 d 0 [some (.ref x0), some (.int x1), some (.int x2)] [] σ (some (.int q.1)) q.2 := by
  unfold fm_60 at h
  obtain ⟨g0, h⟩ := fx_gd h
  refine fs_aload_n (k := 0) (p := 1) (by decide +kernel) rfl rfl ?_
  refine fs_gfr (idx := 9) (ci := 6) (j := 0) (p := 4) (by decide +kernel) rfl (by decide +kernel) g0 (fr_6_0 g0) ?_
  refine fs_iload_n (k := 1) (p := 5) (by decide +kernel) rfl rfl ?_
  refine fs_bipush (n := 96) (p := 7) (by decide +kernel) rfl kb_96 ?_
  refine fs_imul (p := 8) (by decide +kernel) rfl ?_
  refine fs_iload_n (k := 2) (p := 9) (by decide +kernel) rfl rfl ?_
  refine fs_iadd (p := 10) (by decide +kernel) rfl ?_
  obtain ⟨v4, w5, h⟩ := fx_bd h
  refine fs_iaload (p := 11) (by decide +kernel) rfl w5 ?_
  have h := Option.some.inj h
  subst h
  exact fs_iret (by decide +kernel) rt_60

/-! ZoneShares$State.weightAt(II)I -/
theorem mx_61 : iv_mx 61 = 3 := by decide +kernel
theorem rt_61 : iv_rt 61 = some .int := by decide +kernel
def fm_61 (x0 : Nat) (x1 : Int32) (x2 : Int32) (σ : fx_S) : Option (Int32 × fx_S) :=
  if fx_oc x0 6 = true then (
  (fm_60 x0 (2 : Int32) x2 σ).bind fun q7 =>
  (fx_ld q7.2 (x0 + 3) ((x1 * (4 : Int32)) + q7.1)).bind fun v8 =>
  some (v8, q7.2)) else none
theorem fe_61 {z : iv_Z} {d : Nat} (hd : 1 ≤ d) {x0 : Nat} {x1 : Int32} {x2 : Int32} {σ : fx_S} {q : Int32 × fx_S} (h : fm_61 x0 x1 x2 σ = some q) : fx_E z 61 d 0 [some (.ref x0), some (.int x1), some (.int x2)] [] σ (some (.int q.1)) q.2 := by
  unfold fm_61 at h
  obtain ⟨g0, h⟩ := fx_gd h
  refine fs_aload_n (k := 0) (p := 1) (by decide +kernel) rfl rfl ?_
  refine fs_gfr (idx := 18) (ci := 6) (j := 2) (p := 4) (by decide +kernel) rfl (by decide +kernel) g0 (fr_6_2 g0) ?_
  refine fs_iload_n (k := 1) (p := 5) (by decide +kernel) rfl rfl ?_
  refine fs_iconst (n := 4) (p := 6) (by decide +kernel) rfl kc_4 ?_
  refine fs_imul (p := 7) (by decide +kernel) rfl ?_
  refine fs_aload_n (k := 0) (p := 8) (by decide +kernel) rfl rfl ?_
  refine fs_iconst (n := 2) (p := 9) (by decide +kernel) rfl kc_2 ?_
  refine fs_iload_n (k := 2) (p := 10) (by decide +kernel) rfl rfl ?_
  obtain ⟨q7, w6, h⟩ := fx_bd h
  refine fs_callV (idx := 57) (mj := 60) (ci := 6) (na := 2) (mx := 3) (p := 13) (args := [.ref x0, .int (2 : Int32), .int x2]) (rest := [.int (x1 * (4 : Int32)), .ref (x0 + 3)]) (al2 := [some (.ref x0), some (.int (2 : Int32)), some (.int x2)]) (by decide +kernel) rfl (by decide +kernel) g0 rfl rfl rfl rfl rfl rfl rfl (by omega) (fun d' hd' => fe_60 (by omega) w6) rfl ?_
  refine fs_iadd (p := 14) (by decide +kernel) rfl ?_
  obtain ⟨v8, w9, h⟩ := fx_bd h
  refine fs_iaload (p := 15) (by decide +kernel) rfl w9 ?_
  have h := Option.some.inj h
  subst h
  exact fs_iret (by decide +kernel) rt_61

/-! ZoneShares$State.cellsOf(II)I -/
theorem mx_62 : iv_mx 62 = 6 := by decide +kernel
theorem rt_62 : iv_rt 62 = some .int := by decide +kernel
def fm_62_43 (k_23 : Nat → Int32 → Int32 → Int32 → Int32 → Int32 → fx_S → Option (Int32 × fx_S)) (x0 : Nat) (x1 : Int32) (x2 : Int32) (x3 : Int32) (x4 : Int32) (x5 : Int32) (σ : fx_S) : Option (Int32 × fx_S) :=
  k_23 x0 x1 x2 x3 x4 (x5 + (1 : Int32)) σ
theorem fe_62_43 {z : iv_Z} {d : Nat} (hd : 1 ≤ d) {k_23 : Nat → Int32 → Int32 → Int32 → Int32 → Int32 → fx_S → Option (Int32 × fx_S)} (hk_23 : ∀ (x0 : Nat) (x1 : Int32) (x2 : Int32) (x3 : Int32) (x4 : Int32) (x5 : Int32) (σ : fx_S) (q : Int32 × fx_S) (g0 : fx_oc x0 6 = true), k_23 x0 x1 x2 x3 x4 x5 σ = some q → fx_E z 62 d 23 [some (.ref x0), some (.int x1), some (.int x2), some (.int x3), some (.int x4), some (.int x5)] [] σ (some (.int q.1)) q.2) (x0 : Nat) (x1 : Int32) (x2 : Int32) (x3 : Int32) (x4 : Int32) (x5 : Int32) (σ : fx_S) (q : Int32 × fx_S) (g0 : fx_oc x0 6 = true) (h : fm_62_43 k_23  x0 x1 x2 x3 x4 x5 σ = some q) : fx_E z 62 d 43 [some (.ref x0), some (.int x1), some (.int x2), some (.int x3), some (.int x4), some (.int x5)] [] σ (some (.int q.1)) q.2 := by
  unfold fm_62_43 at h
  refine fs_iinc (k := 5) (n := 1) (p := 46) (M := 6) (al' := [some (.ref x0), some (.int x1), some (.int x2), some (.int x3), some (.int x4), some (.int (x5 + (1 : Int32)))]) (by decide +kernel) rfl kc_1 mx_62 rfl rfl rfl ?_
  refine fs_goto (off := -23) (p := 23) (by decide +kernel) (by decide +kernel) ?_
  exact hk_23 _ _ _ _ _ _ _ _ g0 h
def fm_62_23 : Nat → Nat → Int32 → Int32 → Int32 → Int32 → Int32 → fx_S → Option (Int32 × fx_S)
  | 0, _, _, _, _, _, _, _ => none
  | n + 1, x0, x1, x2, x3, x4, x5, σ =>
    if x3 ≤ x5 then (
      some (x4, σ)) else (
      (fm_60 x0 x1 x5 σ).bind fun q5 =>
      if ¬ q5.1 = x2 then (
        fm_62_43 (fm_62_23 n) x0 x1 x2 x3 x4 x5 q5.2) else (
        fm_62_43 (fm_62_23 n) x0 x1 x2 x3 (x4 + (1 : Int32)) x5 q5.2))
theorem fe_62_23 {z : iv_Z} {d : Nat} (hd : 1 ≤ d) : ∀ (n : Nat) (x0 : Nat) (x1 : Int32) (x2 : Int32) (x3 : Int32) (x4 : Int32) (x5 : Int32) (σ : fx_S) (q : Int32 × fx_S) (g0 : fx_oc x0 6 = true), fm_62_23 n x0 x1 x2 x3 x4 x5 σ = some q → fx_E z 62 d 23 [some (.ref x0), some (.int x1), some (.int x2), some (.int x3), some (.int x4), some (.int x5)] [] σ (some (.int q.1)) q.2 := by
  intro n
  induction n with
  | zero =>
    intro x0 x1 x2 x3 x4 x5 σ q g0 h
    rw [fm_62_23] at h
    exact fx_no h
  | succ n ih =>
    intro x0 x1 x2 x3 x4 x5 σ q g0 h
    rw [fm_62_23] at h
    refine fs_iload (k := 5) (p := 25) (by decide +kernel) rfl rfl ?_
    refine fs_iload_n (k := 3) (p := 26) (by decide +kernel) rfl rfl ?_
    by_cases c3 : x3 ≤ x5
    · rw [if_pos c3] at h
      refine fs_icmp_ge_t (off := 23) (t := 49) (by decide +kernel) (by decide +kernel) c3 ?_
      refine fs_iload (k := 4) (p := 51) (by decide +kernel) rfl rfl ?_
      have h := Option.some.inj h
      subst h
      exact fs_iret (by decide +kernel) rt_62
    · rw [if_neg c3] at h
      refine fs_icmp_ge_f (off := 23) (t := 49) (p := 29) (by decide +kernel) (by decide +kernel) rfl c3 ?_
      refine fs_aload_n (k := 0) (p := 30) (by decide +kernel) rfl rfl ?_
      refine fs_iload_n (k := 1) (p := 31) (by decide +kernel) rfl rfl ?_
      refine fs_iload (k := 5) (p := 33) (by decide +kernel) rfl rfl ?_
      obtain ⟨q5, w4, h⟩ := fx_bd h
      refine fs_callV (idx := 57) (mj := 60) (ci := 6) (na := 2) (mx := 3) (p := 36) (args := [.ref x0, .int x1, .int x5]) (rest := []) (al2 := [some (.ref x0), some (.int x1), some (.int x5)]) (by decide +kernel) rfl (by decide +kernel) g0 rfl rfl rfl rfl rfl rfl rfl (by omega) (fun d' hd' => fe_60 (by omega) w4) rfl ?_
      refine fs_iload_n (k := 2) (p := 37) (by decide +kernel) rfl rfl ?_
      by_cases c8 : ¬ q5.1 = x2
      · rw [if_pos c8] at h
        refine fs_icmp_ne_t (off := 6) (t := 43) (by decide +kernel) (by decide +kernel) c8 ?_
        exact fe_62_43 hd ih _ _ _ _ _ _ _ _ g0 h
      · rw [if_neg c8] at h
        refine fs_icmp_ne_f (off := 6) (t := 43) (p := 40) (by decide +kernel) (by decide +kernel) rfl c8 ?_
        refine fs_iinc (k := 4) (n := 1) (p := 43) (M := 6) (al' := [some (.ref x0), some (.int x1), some (.int x2), some (.int x3), some (.int (x4 + (1 : Int32))), some (.int x5)]) (by decide +kernel) rfl kc_1 mx_62 rfl rfl rfl ?_
        exact fe_62_43 hd ih _ _ _ _ _ _ _ _ g0 h
def fm_62_16 (x0 : Nat) (x1 : Int32) (x2 : Int32) (s0 : Int32) (σ : fx_S) : Option (Int32 × fx_S) :=
  fm_62_23 100000 x0 x1 x2 s0 (0 : Int32) (0 : Int32) σ
theorem fe_62_16 {z : iv_Z} {d : Nat} (hd : 1 ≤ d) (x0 : Nat) (x1 : Int32) (x2 : Int32) (s0 : Int32) (σ : fx_S) (q : Int32 × fx_S) (g0 : fx_oc x0 6 = true) (h : fm_62_16  x0 x1 x2 s0 σ = some q) : fx_E z 62 d 16 [some (.ref x0), some (.int x1), some (.int x2), none, none, none] [.int s0] σ (some (.int q.1)) q.2 := by
  unfold fm_62_16 at h
  refine fs_istore_n (k := 3) (p := 17) (M := 6) (al' := [some (.ref x0), some (.int x1), some (.int x2), some (.int s0), none, none]) (by decide +kernel) rfl mx_62 rfl rfl ?_
  refine fs_iconst (n := 0) (p := 18) (by decide +kernel) rfl kc_0 ?_
  refine fs_istore (k := 4) (p := 20) (M := 6) (al' := [some (.ref x0), some (.int x1), some (.int x2), some (.int s0), some (.int (0 : Int32)), none]) (by decide +kernel) rfl mx_62 rfl rfl ?_
  refine fs_iconst (n := 0) (p := 21) (by decide +kernel) rfl kc_0 ?_
  refine fs_istore (k := 5) (p := 23) (M := 6) (al' := [some (.ref x0), some (.int x1), some (.int x2), some (.int s0), some (.int (0 : Int32)), some (.int (0 : Int32))]) (by decide +kernel) rfl mx_62 rfl rfl ?_
  exact fe_62_23 hd 100000 _ _ _ _ _ _ _ _ g0 h
def fm_62 (x0 : Nat) (x1 : Int32) (x2 : Int32) (σ : fx_S) : Option (Int32 × fx_S) :=
  if fx_oc x0 6 = true then (
  (fm_56 x0 x1 σ).bind fun q15 =>
  if (fx_b q15.1) = 0 then (
    fm_62_16 x0 x1 x2 (0 : Int32) q15.2) else (
    (fm_58 x0 q15.2).bind fun q18 =>
    fm_62_16 x0 x1 x2 q18.1 q18.2)) else none
theorem fe_62 {z : iv_Z} {d : Nat} (hd : 1 ≤ d) {x0 : Nat} {x1 : Int32} {x2 : Int32} {σ : fx_S} {q : Int32 × fx_S} (h : fm_62 x0 x1 x2 σ = some q) : fx_E z 62 d 0 [some (.ref x0), some (.int x1), some (.int x2), none, none, none] [] σ (some (.int q.1)) q.2 := by
  unfold fm_62 at h
  obtain ⟨g0, h⟩ := fx_gd h
  refine fs_aload_n (k := 0) (p := 1) (by decide +kernel) rfl rfl ?_
  refine fs_iload_n (k := 1) (p := 2) (by decide +kernel) rfl rfl ?_
  obtain ⟨q15, w14, h⟩ := fx_bd h
  refine fs_callV (idx := 61) (mj := 56) (ci := 6) (na := 1) (mx := 2) (p := 5) (args := [.ref x0, .int x1]) (rest := []) (al2 := [some (.ref x0), some (.int x1)]) (by decide +kernel) rfl (by decide +kernel) g0 rfl rfl rfl rfl rfl rfl rfl (by omega) (fun d' hd' => fe_56 (by omega) w14) rfl ?_
  by_cases c16 : (fx_b q15.1) = 0
  · rw [if_pos c16] at h
    refine fs_if_eq_t (off := 10) (t := 15) (by decide +kernel) (by decide +kernel) c16 ?_
    refine fs_iconst (n := 0) (p := 16) (by decide +kernel) rfl kc_0 ?_
    exact fe_62_16 hd _ _ _ _ _ _ g0 h
  · rw [if_neg c16] at h
    refine fs_if_eq_f (off := 10) (t := 15) (p := 8) (by decide +kernel) (by decide +kernel) rfl c16 ?_
    refine fs_aload_n (k := 0) (p := 9) (by decide +kernel) rfl rfl ?_
    obtain ⟨q18, w17, h⟩ := fx_bd h
    refine fs_callV (idx := 65) (mj := 58) (ci := 6) (na := 0) (mx := 1) (p := 12) (args := [.ref x0]) (rest := []) (al2 := [some (.ref x0)]) (by decide +kernel) rfl (by decide +kernel) g0 rfl rfl rfl rfl rfl rfl rfl (by omega) (fun d' hd' => fe_58 (by omega) w17) rfl ?_
    refine fs_goto (off := 4) (p := 16) (by decide +kernel) (by decide +kernel) ?_
    exact fe_62_16 hd _ _ _ _ _ _ g0 h

/-! ZoneShares$State.kinds(II)I -/
theorem mx_63 : iv_mx 63 = 5 := by decide +kernel
theorem rt_63 : iv_rt 63 = some .int := by decide +kernel
def fm_63_24 (k_5 : Nat → Int32 → Int32 → Int32 → Int32 → fx_S → Option (Int32 × fx_S)) (x0 : Nat) (x1 : Int32) (x2 : Int32) (x3 : Int32) (x4 : Int32) (σ : fx_S) : Option (Int32 × fx_S) :=
  k_5 x0 x1 x2 x3 (x4 + (1 : Int32)) σ
theorem fe_63_24 {z : iv_Z} {d : Nat} (hd : 2 ≤ d) {k_5 : Nat → Int32 → Int32 → Int32 → Int32 → fx_S → Option (Int32 × fx_S)} (hk_5 : ∀ (x0 : Nat) (x1 : Int32) (x2 : Int32) (x3 : Int32) (x4 : Int32) (σ : fx_S) (q : Int32 × fx_S) (g0 : fx_oc x0 6 = true), k_5 x0 x1 x2 x3 x4 σ = some q → fx_E z 63 d 5 [some (.ref x0), some (.int x1), some (.int x2), some (.int x3), some (.int x4)] [] σ (some (.int q.1)) q.2) (x0 : Nat) (x1 : Int32) (x2 : Int32) (x3 : Int32) (x4 : Int32) (σ : fx_S) (q : Int32 × fx_S) (g0 : fx_oc x0 6 = true) (h : fm_63_24 k_5  x0 x1 x2 x3 x4 σ = some q) : fx_E z 63 d 24 [some (.ref x0), some (.int x1), some (.int x2), some (.int x3), some (.int x4)] [] σ (some (.int q.1)) q.2 := by
  unfold fm_63_24 at h
  refine fs_iinc (k := 4) (n := 1) (p := 27) (M := 5) (al' := [some (.ref x0), some (.int x1), some (.int x2), some (.int x3), some (.int (x4 + (1 : Int32)))]) (by decide +kernel) rfl kc_1 mx_63 rfl rfl rfl ?_
  refine fs_goto (off := -22) (p := 5) (by decide +kernel) (by decide +kernel) ?_
  exact hk_5 _ _ _ _ _ _ _ g0 h
def fm_63_5 : Nat → Nat → Int32 → Int32 → Int32 → Int32 → fx_S → Option (Int32 × fx_S)
  | 0, _, _, _, _, _, _ => none
  | n + 1, x0, x1, x2, x3, x4, σ =>
    if x2 ≤ x4 then (
      some (x3, σ)) else (
      (fm_62 x0 x1 x4 σ).bind fun q5 =>
      if q5.1 ≤ 0 then (
        fm_63_24 (fm_63_5 n) x0 x1 x2 x3 x4 q5.2) else (
        fm_63_24 (fm_63_5 n) x0 x1 x2 (x3 + (1 : Int32)) x4 q5.2))
theorem fe_63_5 {z : iv_Z} {d : Nat} (hd : 2 ≤ d) : ∀ (n : Nat) (x0 : Nat) (x1 : Int32) (x2 : Int32) (x3 : Int32) (x4 : Int32) (σ : fx_S) (q : Int32 × fx_S) (g0 : fx_oc x0 6 = true), fm_63_5 n x0 x1 x2 x3 x4 σ = some q → fx_E z 63 d 5 [some (.ref x0), some (.int x1), some (.int x2), some (.int x3), some (.int x4)] [] σ (some (.int q.1)) q.2 := by
  intro n
  induction n with
  | zero =>
    intro x0 x1 x2 x3 x4 σ q g0 h
    rw [fm_63_5] at h
    exact fx_no h
  | succ n ih =>
    intro x0 x1 x2 x3 x4 σ q g0 h
    rw [fm_63_5] at h
    refine fs_iload (k := 4) (p := 7) (by decide +kernel) rfl rfl ?_
    refine fs_iload_n (k := 2) (p := 8) (by decide +kernel) rfl rfl ?_
    by_cases c3 : x2 ≤ x4
    · rw [if_pos c3] at h
      refine fs_icmp_ge_t (off := 22) (t := 30) (by decide +kernel) (by decide +kernel) c3 ?_
      refine fs_iload_n (k := 3) (p := 31) (by decide +kernel) rfl rfl ?_
      have h := Option.some.inj h
      subst h
      exact fs_iret (by decide +kernel) rt_63
    · rw [if_neg c3] at h
      refine fs_icmp_ge_f (off := 22) (t := 30) (p := 11) (by decide +kernel) (by decide +kernel) rfl c3 ?_
      refine fs_aload_n (k := 0) (p := 12) (by decide +kernel) rfl rfl ?_
      refine fs_iload_n (k := 1) (p := 13) (by decide +kernel) rfl rfl ?_
      refine fs_iload (k := 4) (p := 15) (by decide +kernel) rfl rfl ?_
      obtain ⟨q5, w4, h⟩ := fx_bd h
      refine fs_callV (idx := 69) (mj := 62) (ci := 6) (na := 2) (mx := 6) (p := 18) (args := [.ref x0, .int x1, .int x4]) (rest := []) (al2 := [some (.ref x0), some (.int x1), some (.int x4), none, none, none]) (by decide +kernel) rfl (by decide +kernel) g0 rfl rfl rfl rfl rfl rfl rfl (by omega) (fun d' hd' => fe_62 (by omega) w4) rfl ?_
      by_cases c7 : q5.1 ≤ 0
      · rw [if_pos c7] at h
        refine fs_if_le_t (off := 6) (t := 24) (by decide +kernel) (by decide +kernel) c7 ?_
        exact fe_63_24 hd ih _ _ _ _ _ _ _ g0 h
      · rw [if_neg c7] at h
        refine fs_if_le_f (off := 6) (t := 24) (p := 21) (by decide +kernel) (by decide +kernel) rfl c7 ?_
        refine fs_iinc (k := 3) (n := 1) (p := 24) (M := 5) (al' := [some (.ref x0), some (.int x1), some (.int x2), some (.int (x3 + (1 : Int32))), some (.int x4)]) (by decide +kernel) rfl kc_1 mx_63 rfl rfl rfl ?_
        exact fe_63_24 hd ih _ _ _ _ _ _ _ g0 h
def fm_63 (x0 : Nat) (x1 : Int32) (x2 : Int32) (σ : fx_S) : Option (Int32 × fx_S) :=
  if fx_oc x0 6 = true then (
  fm_63_5 100000 x0 x1 x2 (0 : Int32) (0 : Int32) σ) else none
theorem fe_63 {z : iv_Z} {d : Nat} (hd : 2 ≤ d) {x0 : Nat} {x1 : Int32} {x2 : Int32} {σ : fx_S} {q : Int32 × fx_S} (h : fm_63 x0 x1 x2 σ = some q) : fx_E z 63 d 0 [some (.ref x0), some (.int x1), some (.int x2), none, none] [] σ (some (.int q.1)) q.2 := by
  unfold fm_63 at h
  obtain ⟨g0, h⟩ := fx_gd h
  refine fs_iconst (n := 0) (p := 1) (by decide +kernel) rfl kc_0 ?_
  refine fs_istore_n (k := 3) (p := 2) (M := 5) (al' := [some (.ref x0), some (.int x1), some (.int x2), some (.int (0 : Int32)), none]) (by decide +kernel) rfl mx_63 rfl rfl ?_
  refine fs_iconst (n := 0) (p := 3) (by decide +kernel) rfl kc_0 ?_
  refine fs_istore (k := 4) (p := 5) (M := 5) (al' := [some (.ref x0), some (.int x1), some (.int x2), some (.int (0 : Int32)), some (.int (0 : Int32))]) (by decide +kernel) rfl mx_63 rfl rfl ?_
  exact fe_63_5 hd 100000 _ _ _ _ _ _ _ g0 h

/-! ZoneShares$State.unlikeCells()I -/
theorem mx_64 : iv_mx 64 = 4 := by decide +kernel
theorem rt_64 : iv_rt 64 = some .int := by decide +kernel
def fm_64_32 (k_9 : Nat → Int32 → Int32 → Int32 → fx_S → Option (Int32 × fx_S)) (x0 : Nat) (x1 : Int32) (x2 : Int32) (x3 : Int32) (σ : fx_S) : Option (Int32 × fx_S) :=
  k_9 x0 x1 x2 (x3 + (1 : Int32)) σ
theorem fe_64_32 {z : iv_Z} {d : Nat} (hd : 1 ≤ d) {k_9 : Nat → Int32 → Int32 → Int32 → fx_S → Option (Int32 × fx_S)} (hk_9 : ∀ (x0 : Nat) (x1 : Int32) (x2 : Int32) (x3 : Int32) (σ : fx_S) (q : Int32 × fx_S) (g0 : fx_oc x0 6 = true), k_9 x0 x1 x2 x3 σ = some q → fx_E z 64 d 9 [some (.ref x0), some (.int x1), some (.int x2), some (.int x3)] [] σ (some (.int q.1)) q.2) (x0 : Nat) (x1 : Int32) (x2 : Int32) (x3 : Int32) (σ : fx_S) (q : Int32 × fx_S) (g0 : fx_oc x0 6 = true) (h : fm_64_32 k_9  x0 x1 x2 x3 σ = some q) : fx_E z 64 d 32 [some (.ref x0), some (.int x1), some (.int x2), some (.int x3)] [] σ (some (.int q.1)) q.2 := by
  unfold fm_64_32 at h
  refine fs_iinc (k := 3) (n := 1) (p := 35) (M := 4) (al' := [some (.ref x0), some (.int x1), some (.int x2), some (.int (x3 + (1 : Int32)))]) (by decide +kernel) rfl kc_1 mx_64 rfl rfl rfl ?_
  refine fs_goto (off := -26) (p := 9) (by decide +kernel) (by decide +kernel) ?_
  exact hk_9 _ _ _ _ _ _ g0 h
def fm_64_9 : Nat → Nat → Int32 → Int32 → Int32 → fx_S → Option (Int32 × fx_S)
  | 0, _, _, _, _, _ => none
  | n + 1, x0, x1, x2, x3, σ =>
    if x1 ≤ x3 then (
      some (x2, σ)) else (
      (fm_60 x0 (0 : Int32) x3 σ).bind fun q5 =>
      (fm_60 x0 (1 : Int32) x3 q5.2).bind fun q7 =>
      if q5.1 = q7.1 then (
        fm_64_32 (fm_64_9 n) x0 x1 x2 x3 q7.2) else (
        fm_64_32 (fm_64_9 n) x0 x1 (x2 + (1 : Int32)) x3 q7.2))
theorem fe_64_9 {z : iv_Z} {d : Nat} (hd : 1 ≤ d) : ∀ (n : Nat) (x0 : Nat) (x1 : Int32) (x2 : Int32) (x3 : Int32) (σ : fx_S) (q : Int32 × fx_S) (g0 : fx_oc x0 6 = true), fm_64_9 n x0 x1 x2 x3 σ = some q → fx_E z 64 d 9 [some (.ref x0), some (.int x1), some (.int x2), some (.int x3)] [] σ (some (.int q.1)) q.2 := by
  intro n
  induction n with
  | zero =>
    intro x0 x1 x2 x3 σ q g0 h
    rw [fm_64_9] at h
    exact fx_no h
  | succ n ih =>
    intro x0 x1 x2 x3 σ q g0 h
    rw [fm_64_9] at h
    refine fs_iload_n (k := 3) (p := 10) (by decide +kernel) rfl rfl ?_
    refine fs_iload_n (k := 1) (p := 11) (by decide +kernel) rfl rfl ?_
    by_cases c3 : x1 ≤ x3
    · rw [if_pos c3] at h
      refine fs_icmp_ge_t (off := 27) (t := 38) (by decide +kernel) (by decide +kernel) c3 ?_
      refine fs_iload_n (k := 2) (p := 39) (by decide +kernel) rfl rfl ?_
      have h := Option.some.inj h
      subst h
      exact fs_iret (by decide +kernel) rt_64
    · rw [if_neg c3] at h
      refine fs_icmp_ge_f (off := 27) (t := 38) (p := 14) (by decide +kernel) (by decide +kernel) rfl c3 ?_
      refine fs_aload_n (k := 0) (p := 15) (by decide +kernel) rfl rfl ?_
      refine fs_iconst (n := 0) (p := 16) (by decide +kernel) rfl kc_0 ?_
      refine fs_iload_n (k := 3) (p := 17) (by decide +kernel) rfl rfl ?_
      obtain ⟨q5, w4, h⟩ := fx_bd h
      refine fs_callV (idx := 57) (mj := 60) (ci := 6) (na := 2) (mx := 3) (p := 20) (args := [.ref x0, .int (0 : Int32), .int x3]) (rest := []) (al2 := [some (.ref x0), some (.int (0 : Int32)), some (.int x3)]) (by decide +kernel) rfl (by decide +kernel) g0 rfl rfl rfl rfl rfl rfl rfl (by omega) (fun d' hd' => fe_60 (by omega) w4) rfl ?_
      refine fs_aload_n (k := 0) (p := 21) (by decide +kernel) rfl rfl ?_
      refine fs_iconst (n := 1) (p := 22) (by decide +kernel) rfl kc_1 ?_
      refine fs_iload_n (k := 3) (p := 23) (by decide +kernel) rfl rfl ?_
      obtain ⟨q7, w6, h⟩ := fx_bd h
      refine fs_callV (idx := 57) (mj := 60) (ci := 6) (na := 2) (mx := 3) (p := 26) (args := [.ref x0, .int (1 : Int32), .int x3]) (rest := [.int q5.1]) (al2 := [some (.ref x0), some (.int (1 : Int32)), some (.int x3)]) (by decide +kernel) rfl (by decide +kernel) g0 rfl rfl rfl rfl rfl rfl rfl (by omega) (fun d' hd' => fe_60 (by omega) w6) rfl ?_
      by_cases c10 : q5.1 = q7.1
      · rw [if_pos c10] at h
        refine fs_icmp_eq_t (off := 6) (t := 32) (by decide +kernel) (by decide +kernel) c10 ?_
        exact fe_64_32 hd ih _ _ _ _ _ _ g0 h
      · rw [if_neg c10] at h
        refine fs_icmp_eq_f (off := 6) (t := 32) (p := 29) (by decide +kernel) (by decide +kernel) rfl c10 ?_
        refine fs_iinc (k := 2) (n := 1) (p := 32) (M := 4) (al' := [some (.ref x0), some (.int x1), some (.int (x2 + (1 : Int32))), some (.int x3)]) (by decide +kernel) rfl kc_1 mx_64 rfl rfl rfl ?_
        exact fe_64_32 hd ih _ _ _ _ _ _ g0 h
def fm_64 (x0 : Nat) (σ : fx_S) : Option (Int32 × fx_S) :=
  if fx_oc x0 6 = true then (
  (fm_58 x0 σ).bind fun q14 =>
  fm_64_9 100000 x0 q14.1 (0 : Int32) (0 : Int32) q14.2) else none
theorem fe_64 {z : iv_Z} {d : Nat} (hd : 1 ≤ d) {x0 : Nat} {σ : fx_S} {q : Int32 × fx_S} (h : fm_64 x0 σ = some q) : fx_E z 64 d 0 [some (.ref x0), none, none, none] [] σ (some (.int q.1)) q.2 := by
  unfold fm_64 at h
  obtain ⟨g0, h⟩ := fx_gd h
  refine fs_aload_n (k := 0) (p := 1) (by decide +kernel) rfl rfl ?_
  obtain ⟨q14, w13, h⟩ := fx_bd h
  refine fs_callV (idx := 65) (mj := 58) (ci := 6) (na := 0) (mx := 1) (p := 4) (args := [.ref x0]) (rest := []) (al2 := [some (.ref x0)]) (by decide +kernel) rfl (by decide +kernel) g0 rfl rfl rfl rfl rfl rfl rfl (by omega) (fun d' hd' => fe_58 (by omega) w13) rfl ?_
  refine fs_istore_n (k := 1) (p := 5) (M := 4) (al' := [some (.ref x0), some (.int q14.1), none, none]) (by decide +kernel) rfl mx_64 rfl rfl ?_
  refine fs_iconst (n := 0) (p := 6) (by decide +kernel) rfl kc_0 ?_
  refine fs_istore_n (k := 2) (p := 7) (M := 4) (al' := [some (.ref x0), some (.int q14.1), some (.int (0 : Int32)), none]) (by decide +kernel) rfl mx_64 rfl rfl ?_
  refine fs_iconst (n := 0) (p := 8) (by decide +kernel) rfl kc_0 ?_
  refine fs_istore_n (k := 3) (p := 9) (M := 4) (al' := [some (.ref x0), some (.int q14.1), some (.int (0 : Int32)), some (.int (0 : Int32))]) (by decide +kernel) rfl mx_64 rfl rfl ?_
  exact fe_64_9 hd 100000 _ _ _ _ _ _ g0 h

/-! ZoneShares$State.metBy(I)I -/
theorem mx_65 : iv_mx 65 = 5 := by decide +kernel
theorem rt_65 : iv_rt 65 = some .int := by decide +kernel
def fm_65_39 (k_10 : Nat → Int32 → Int32 → Int32 → Int32 → fx_S → Option (Int32 × fx_S)) (x0 : Nat) (x1 : Int32) (x2 : Int32) (x3 : Int32) (x4 : Int32) (σ : fx_S) : Option (Int32 × fx_S) :=
  k_10 x0 x1 x2 x3 (x4 + (1 : Int32)) σ
theorem fe_65_39 {z : iv_Z} {d : Nat} (hd : 1 ≤ d) {k_10 : Nat → Int32 → Int32 → Int32 → Int32 → fx_S → Option (Int32 × fx_S)} (hk_10 : ∀ (x0 : Nat) (x1 : Int32) (x2 : Int32) (x3 : Int32) (x4 : Int32) (σ : fx_S) (q : Int32 × fx_S) (g0 : fx_oc x0 6 = true), k_10 x0 x1 x2 x3 x4 σ = some q → fx_E z 65 d 10 [some (.ref x0), some (.int x1), some (.int x2), some (.int x3), some (.int x4)] [] σ (some (.int q.1)) q.2) (x0 : Nat) (x1 : Int32) (x2 : Int32) (x3 : Int32) (x4 : Int32) (σ : fx_S) (q : Int32 × fx_S) (g0 : fx_oc x0 6 = true) (h : fm_65_39 k_10  x0 x1 x2 x3 x4 σ = some q) : fx_E z 65 d 39 [some (.ref x0), some (.int x1), some (.int x2), some (.int x3), some (.int x4)] [] σ (some (.int q.1)) q.2 := by
  unfold fm_65_39 at h
  refine fs_iinc (k := 4) (n := 1) (p := 42) (M := 5) (al' := [some (.ref x0), some (.int x1), some (.int x2), some (.int x3), some (.int (x4 + (1 : Int32)))]) (by decide +kernel) rfl kc_1 mx_65 rfl rfl rfl ?_
  refine fs_goto (off := -32) (p := 10) (by decide +kernel) (by decide +kernel) ?_
  exact hk_10 _ _ _ _ _ _ _ g0 h
def fm_65_10 : Nat → Nat → Int32 → Int32 → Int32 → Int32 → fx_S → Option (Int32 × fx_S)
  | 0, _, _, _, _, _, _ => none
  | n + 1, x0, x1, x2, x3, x4, σ =>
    if x2 ≤ x4 then (
      some (x3, σ)) else (
      (fm_60 x0 (0 : Int32) x4 σ).bind fun q5 =>
      if ¬ q5.1 = x1 then (
        fm_65_39 (fm_65_10 n) x0 x1 x2 x3 x4 q5.2) else (
        (fm_60 x0 (1 : Int32) x4 q5.2).bind fun q10 =>
        fm_65_39 (fm_65_10 n) x0 x1 x2 (x3 ||| ((1 : Int32) <<< (q10.1 &&& 31))) x4 q10.2))
theorem fe_65_10 {z : iv_Z} {d : Nat} (hd : 1 ≤ d) : ∀ (n : Nat) (x0 : Nat) (x1 : Int32) (x2 : Int32) (x3 : Int32) (x4 : Int32) (σ : fx_S) (q : Int32 × fx_S) (g0 : fx_oc x0 6 = true), fm_65_10 n x0 x1 x2 x3 x4 σ = some q → fx_E z 65 d 10 [some (.ref x0), some (.int x1), some (.int x2), some (.int x3), some (.int x4)] [] σ (some (.int q.1)) q.2 := by
  intro n
  induction n with
  | zero =>
    intro x0 x1 x2 x3 x4 σ q g0 h
    rw [fm_65_10] at h
    exact fx_no h
  | succ n ih =>
    intro x0 x1 x2 x3 x4 σ q g0 h
    rw [fm_65_10] at h
    refine fs_iload (k := 4) (p := 12) (by decide +kernel) rfl rfl ?_
    refine fs_iload_n (k := 2) (p := 13) (by decide +kernel) rfl rfl ?_
    by_cases c3 : x2 ≤ x4
    · rw [if_pos c3] at h
      refine fs_icmp_ge_t (off := 32) (t := 45) (by decide +kernel) (by decide +kernel) c3 ?_
      refine fs_iload_n (k := 3) (p := 46) (by decide +kernel) rfl rfl ?_
      have h := Option.some.inj h
      subst h
      exact fs_iret (by decide +kernel) rt_65
    · rw [if_neg c3] at h
      refine fs_icmp_ge_f (off := 32) (t := 45) (p := 16) (by decide +kernel) (by decide +kernel) rfl c3 ?_
      refine fs_aload_n (k := 0) (p := 17) (by decide +kernel) rfl rfl ?_
      refine fs_iconst (n := 0) (p := 18) (by decide +kernel) rfl kc_0 ?_
      refine fs_iload (k := 4) (p := 20) (by decide +kernel) rfl rfl ?_
      obtain ⟨q5, w4, h⟩ := fx_bd h
      refine fs_callV (idx := 57) (mj := 60) (ci := 6) (na := 2) (mx := 3) (p := 23) (args := [.ref x0, .int (0 : Int32), .int x4]) (rest := []) (al2 := [some (.ref x0), some (.int (0 : Int32)), some (.int x4)]) (by decide +kernel) rfl (by decide +kernel) g0 rfl rfl rfl rfl rfl rfl rfl (by omega) (fun d' hd' => fe_60 (by omega) w4) rfl ?_
      refine fs_iload_n (k := 1) (p := 24) (by decide +kernel) rfl rfl ?_
      by_cases c8 : ¬ q5.1 = x1
      · rw [if_pos c8] at h
        refine fs_icmp_ne_t (off := 15) (t := 39) (by decide +kernel) (by decide +kernel) c8 ?_
        exact fe_65_39 hd ih _ _ _ _ _ _ _ g0 h
      · rw [if_neg c8] at h
        refine fs_icmp_ne_f (off := 15) (t := 39) (p := 27) (by decide +kernel) (by decide +kernel) rfl c8 ?_
        refine fs_iload_n (k := 3) (p := 28) (by decide +kernel) rfl rfl ?_
        refine fs_iconst (n := 1) (p := 29) (by decide +kernel) rfl kc_1 ?_
        refine fs_aload_n (k := 0) (p := 30) (by decide +kernel) rfl rfl ?_
        refine fs_iconst (n := 1) (p := 31) (by decide +kernel) rfl kc_1 ?_
        refine fs_iload (k := 4) (p := 33) (by decide +kernel) rfl rfl ?_
        obtain ⟨q10, w9, h⟩ := fx_bd h
        refine fs_callV (idx := 57) (mj := 60) (ci := 6) (na := 2) (mx := 3) (p := 36) (args := [.ref x0, .int (1 : Int32), .int x4]) (rest := [.int (1 : Int32), .int x3]) (al2 := [some (.ref x0), some (.int (1 : Int32)), some (.int x4)]) (by decide +kernel) rfl (by decide +kernel) g0 rfl rfl rfl rfl rfl rfl rfl (by omega) (fun d' hd' => fe_60 (by omega) w9) rfl ?_
        refine fs_ishl (p := 37) (by decide +kernel) rfl ?_
        refine fs_ior (p := 38) (by decide +kernel) rfl ?_
        refine fs_istore_n (k := 3) (p := 39) (M := 5) (al' := [some (.ref x0), some (.int x1), some (.int x2), some (.int (x3 ||| ((1 : Int32) <<< (q10.1 &&& 31)))), some (.int x4)]) (by decide +kernel) rfl mx_65 rfl rfl ?_
        exact fe_65_39 hd ih _ _ _ _ _ _ _ g0 h
def fm_65 (x0 : Nat) (x1 : Int32) (σ : fx_S) : Option (Int32 × fx_S) :=
  if fx_oc x0 6 = true then (
  (fm_58 x0 σ).bind fun q14 =>
  fm_65_10 100000 x0 x1 q14.1 (0 : Int32) (0 : Int32) q14.2) else none
theorem fe_65 {z : iv_Z} {d : Nat} (hd : 1 ≤ d) {x0 : Nat} {x1 : Int32} {σ : fx_S} {q : Int32 × fx_S} (h : fm_65 x0 x1 σ = some q) : fx_E z 65 d 0 [some (.ref x0), some (.int x1), none, none, none] [] σ (some (.int q.1)) q.2 := by
  unfold fm_65 at h
  obtain ⟨g0, h⟩ := fx_gd h
  refine fs_aload_n (k := 0) (p := 1) (by decide +kernel) rfl rfl ?_
  obtain ⟨q14, w13, h⟩ := fx_bd h
  refine fs_callV (idx := 65) (mj := 58) (ci := 6) (na := 0) (mx := 1) (p := 4) (args := [.ref x0]) (rest := []) (al2 := [some (.ref x0)]) (by decide +kernel) rfl (by decide +kernel) g0 rfl rfl rfl rfl rfl rfl rfl (by omega) (fun d' hd' => fe_58 (by omega) w13) rfl ?_
  refine fs_istore_n (k := 2) (p := 5) (M := 5) (al' := [some (.ref x0), some (.int x1), some (.int q14.1), none, none]) (by decide +kernel) rfl mx_65 rfl rfl ?_
  refine fs_iconst (n := 0) (p := 6) (by decide +kernel) rfl kc_0 ?_
  refine fs_istore_n (k := 3) (p := 7) (M := 5) (al' := [some (.ref x0), some (.int x1), some (.int q14.1), some (.int (0 : Int32)), none]) (by decide +kernel) rfl mx_65 rfl rfl ?_
  refine fs_iconst (n := 0) (p := 8) (by decide +kernel) rfl kc_0 ?_
  refine fs_istore (k := 4) (p := 10) (M := 5) (al' := [some (.ref x0), some (.int x1), some (.int q14.1), some (.int (0 : Int32)), some (.int (0 : Int32))]) (by decide +kernel) rfl mx_65 rfl rfl ?_
  exact fe_65_10 hd 100000 _ _ _ _ _ _ _ g0 h

/-! ZoneShares$State.toldOf(I)I -/
theorem mx_66 : iv_mx 66 = 4 := by decide +kernel
theorem rt_66 : iv_rt 66 = some .int := by decide +kernel
def fm_66_4 : Nat → Nat → Int32 → Int32 → Int32 → fx_S → Option (Int32 × fx_S)
  | 0, _, _, _, _, _ => none
  | n + 1, x0, x1, x2, x3, σ =>
    if (9 : Int32) ≤ x3 then (
      some (x2, σ)) else (
      (fx_ld σ (x0 + 2) ((x1 * (9 : Int32)) + x3)).bind fun v3 =>
      fm_66_4 n x0 x1 (x2 + v3) (x3 + (1 : Int32)) σ)
theorem fe_66_4 {z : iv_Z} {d : Nat} (hd : 0 ≤ d) : ∀ (n : Nat) (x0 : Nat) (x1 : Int32) (x2 : Int32) (x3 : Int32) (σ : fx_S) (q : Int32 × fx_S) (g0 : fx_oc x0 6 = true), fm_66_4 n x0 x1 x2 x3 σ = some q → fx_E z 66 d 4 [some (.ref x0), some (.int x1), some (.int x2), some (.int x3)] [] σ (some (.int q.1)) q.2 := by
  intro n
  induction n with
  | zero =>
    intro x0 x1 x2 x3 σ q g0 h
    rw [fm_66_4] at h
    exact fx_no h
  | succ n ih =>
    intro x0 x1 x2 x3 σ q g0 h
    rw [fm_66_4] at h
    refine fs_iload_n (k := 3) (p := 5) (by decide +kernel) rfl rfl ?_
    refine fs_bipush (n := 9) (p := 7) (by decide +kernel) rfl kb_9 ?_
    by_cases c2 : (9 : Int32) ≤ x3
    · rw [if_pos c2] at h
      refine fs_icmp_ge_t (off := 23) (t := 30) (by decide +kernel) (by decide +kernel) c2 ?_
      refine fs_iload_n (k := 2) (p := 31) (by decide +kernel) rfl rfl ?_
      have h := Option.some.inj h
      subst h
      exact fs_iret (by decide +kernel) rt_66
    · rw [if_neg c2] at h
      refine fs_icmp_ge_f (off := 23) (t := 30) (p := 10) (by decide +kernel) (by decide +kernel) rfl c2 ?_
      refine fs_iload_n (k := 2) (p := 11) (by decide +kernel) rfl rfl ?_
      refine fs_aload_n (k := 0) (p := 12) (by decide +kernel) rfl rfl ?_
      refine fs_gfr (idx := 15) (ci := 6) (j := 1) (p := 15) (by decide +kernel) rfl (by decide +kernel) g0 (fr_6_1 g0) ?_
      refine fs_iload_n (k := 1) (p := 16) (by decide +kernel) rfl rfl ?_
      refine fs_bipush (n := 9) (p := 18) (by decide +kernel) rfl kb_9 ?_
      refine fs_imul (p := 19) (by decide +kernel) rfl ?_
      refine fs_iload_n (k := 3) (p := 20) (by decide +kernel) rfl rfl ?_
      refine fs_iadd (p := 21) (by decide +kernel) rfl ?_
      obtain ⟨v3, w4, h⟩ := fx_bd h
      refine fs_iaload (p := 22) (by decide +kernel) rfl w4 ?_
      refine fs_iadd (p := 23) (by decide +kernel) rfl ?_
      refine fs_istore_n (k := 2) (p := 24) (M := 4) (al' := [some (.ref x0), some (.int x1), some (.int (x2 + v3)), some (.int x3)]) (by decide +kernel) rfl mx_66 rfl rfl ?_
      refine fs_iinc (k := 3) (n := 1) (p := 27) (M := 4) (al' := [some (.ref x0), some (.int x1), some (.int (x2 + v3)), some (.int (x3 + (1 : Int32)))]) (by decide +kernel) rfl kc_1 mx_66 rfl rfl rfl ?_
      refine fs_goto (off := -23) (p := 4) (by decide +kernel) (by decide +kernel) ?_
      exact ih _ _ _ _ _ _ g0 h
def fm_66 (x0 : Nat) (x1 : Int32) (σ : fx_S) : Option (Int32 × fx_S) :=
  if fx_oc x0 6 = true then (
  fm_66_4 100000 x0 x1 (0 : Int32) (0 : Int32) σ) else none
theorem fe_66 {z : iv_Z} {d : Nat} (hd : 0 ≤ d) {x0 : Nat} {x1 : Int32} {σ : fx_S} {q : Int32 × fx_S} (h : fm_66 x0 x1 σ = some q) : fx_E z 66 d 0 [some (.ref x0), some (.int x1), none, none] [] σ (some (.int q.1)) q.2 := by
  unfold fm_66 at h
  obtain ⟨g0, h⟩ := fx_gd h
  refine fs_iconst (n := 0) (p := 1) (by decide +kernel) rfl kc_0 ?_
  refine fs_istore_n (k := 2) (p := 2) (M := 4) (al' := [some (.ref x0), some (.int x1), some (.int (0 : Int32)), none]) (by decide +kernel) rfl mx_66 rfl rfl ?_
  refine fs_iconst (n := 0) (p := 3) (by decide +kernel) rfl kc_0 ?_
  refine fs_istore_n (k := 3) (p := 4) (M := 4) (al' := [some (.ref x0), some (.int x1), some (.int (0 : Int32)), some (.int (0 : Int32))]) (by decide +kernel) rfl mx_66 rfl rfl ?_
  exact fe_66_4 hd 100000 _ _ _ _ _ _ g0 h

/-! ZoneShares$Table.add(IIII)V -/
theorem mx_69 : iv_mx 69 = 6 := by decide +kernel
theorem rt_69 : iv_rt 69 = none := by decide +kernel
def fm_69 (x0 : Nat) (x1 : Int32) (x2 : Int32) (x3 : Int32) (x4 : Int32) (σ : fx_S) : Option (fx_S) :=
  if fx_oc x0 7 = true then (
  (fx_ld σ (x0 + 4) ((x1 * (9 : Int32)) + x2)).bind fun v10 =>
  (fx_st σ (x0 + 4) ((x1 * (9 : Int32)) + x2) (v10 + x3)).bind fun t13 =>
  (fx_ld t13 (x0 + 5) ((x1 * (9 : Int32)) + x2)).bind fun v15 =>
  (fx_st t13 (x0 + 5) ((x1 * (9 : Int32)) + x2) (v15 + x4)).bind fun t17 =>
  some t17) else none
theorem fe_69 {z : iv_Z} {d : Nat} (hd : 0 ≤ d) {x0 : Nat} {x1 : Int32} {x2 : Int32} {x3 : Int32} {x4 : Int32} {σ : fx_S} {q : fx_S} (h : fm_69 x0 x1 x2 x3 x4 σ = some q) : fx_E z 69 d 0 [some (.ref x0), some (.int x1), some (.int x2), some (.int x3), some (.int x4), none] [] σ none q := by
  unfold fm_69 at h
  obtain ⟨g0, h⟩ := fx_gd h
  refine fs_iload_n (k := 1) (p := 1) (by decide +kernel) rfl rfl ?_
  refine fs_bipush (n := 9) (p := 3) (by decide +kernel) rfl kb_9 ?_
  refine fs_imul (p := 4) (by decide +kernel) rfl ?_
  refine fs_iload_n (k := 2) (p := 5) (by decide +kernel) rfl rfl ?_
  refine fs_iadd (p := 6) (by decide +kernel) rfl ?_
  refine fs_istore (k := 5) (p := 8) (M := 6) (al' := [some (.ref x0), some (.int x1), some (.int x2), some (.int x3), some (.int x4), some (.int ((x1 * (9 : Int32)) + x2))]) (by decide +kernel) rfl mx_69 rfl rfl ?_
  refine fs_aload_n (k := 0) (p := 9) (by decide +kernel) rfl rfl ?_
  refine fs_gfr (idx := 21) (ci := 7) (j := 3) (p := 12) (by decide +kernel) rfl (by decide +kernel) g0 (fr_7_3 g0) ?_
  refine fs_iload (k := 5) (p := 14) (by decide +kernel) rfl rfl ?_
  refine fs_dup2 (p := 15) (by decide +kernel) rfl rfl rfl ?_
  obtain ⟨v10, w11, h⟩ := fx_bd h
  refine fs_iaload (p := 16) (by decide +kernel) rfl w11 ?_
  refine fs_iload_n (k := 3) (p := 17) (by decide +kernel) rfl rfl ?_
  refine fs_iadd (p := 18) (by decide +kernel) rfl ?_
  obtain ⟨t13, w14, h⟩ := fx_bd h
  refine fs_iastore (p := 19) (by decide +kernel) rfl w14 ?_
  refine fs_aload_n (k := 0) (p := 20) (by decide +kernel) rfl rfl ?_
  refine fs_gfr (idx := 24) (ci := 7) (j := 4) (p := 23) (by decide +kernel) rfl (by decide +kernel) g0 (fr_7_4 g0) ?_
  refine fs_iload (k := 5) (p := 25) (by decide +kernel) rfl rfl ?_
  refine fs_dup2 (p := 26) (by decide +kernel) rfl rfl rfl ?_
  obtain ⟨v15, w16, h⟩ := fx_bd h
  refine fs_iaload (p := 27) (by decide +kernel) rfl w16 ?_
  refine fs_iload (k := 4) (p := 29) (by decide +kernel) rfl rfl ?_
  refine fs_iadd (p := 30) (by decide +kernel) rfl ?_
  obtain ⟨t17, w18, h⟩ := fx_bd h
  refine fs_iastore (p := 31) (by decide +kernel) rfl w18 ?_
  have h := Option.some.inj h
  subst h
  exact fs_ret (by decide +kernel) rt_69

/-! ZoneShares$Table.cutRow(II)V -/
theorem mx_71 : iv_mx 71 = 6 := by decide +kernel
theorem rt_71 : iv_rt 71 = none := by decide +kernel
def fm_71_72 (k_5 : Nat → Int32 → Int32 → Int32 → fx_S → Option (fx_S)) (x0 : Nat) (x1 : Int32) (x2 : Int32) (x3 : Int32) (s0 : Nat) (s1 : Int32) (s2 : Int32) (σ : fx_S) : Option (fx_S) :=
  (fx_st σ s0 s1 s2).bind fun t1 =>
  (fx_ld t1 (x0 + 6) x3).bind fun v5 =>
  (fx_st t1 (x0 + 8) x3 v5).bind fun t8 =>
  k_5 x0 x1 x2 (x3 + (1 : Int32)) t8
theorem fe_71_72 {z : iv_Z} {d : Nat} (hd : 0 ≤ d) {k_5 : Nat → Int32 → Int32 → Int32 → fx_S → Option (fx_S)} (hk_5 : ∀ (x0 : Nat) (x1 : Int32) (x2 : Int32) (x3 : Int32) (o4 : Option Value) (σ : fx_S) (q : fx_S) (g0 : fx_oc x0 7 = true), k_5 x0 x1 x2 x3 σ = some q → fx_E z 71 d 5 [some (.ref x0), some (.int x1), some (.int x2), some (.int x3), o4, none] [] σ none q) (x0 : Nat) (x1 : Int32) (x2 : Int32) (x3 : Int32) (s0 : Nat) (s1 : Int32) (s2 : Int32) (o4 : Option Value) (σ : fx_S) (q : fx_S) (g0 : fx_oc x0 7 = true) (h : fm_71_72 k_5  x0 x1 x2 x3 s0 s1 s2 σ = some q) : fx_E z 71 d 72 [some (.ref x0), some (.int x1), some (.int x2), some (.int x3), o4, none] [.int s2, .int s1, .ref s0] σ none q := by
  unfold fm_71_72 at h
  obtain ⟨t1, w2, h⟩ := fx_bd h
  refine fs_iastore (p := 73) (by decide +kernel) rfl w2 ?_
  refine fs_aload_n (k := 0) (p := 74) (by decide +kernel) rfl rfl ?_
  refine fs_gfr (idx := 33) (ci := 7) (j := 7) (p := 77) (by decide +kernel) rfl (by decide +kernel) g0 (fr_7_7 g0) ?_
  refine fs_iload_n (k := 3) (p := 78) (by decide +kernel) rfl rfl ?_
  refine fs_aload_n (k := 0) (p := 79) (by decide +kernel) rfl rfl ?_
  refine fs_gfr (idx := 27) (ci := 7) (j := 5) (p := 82) (by decide +kernel) rfl (by decide +kernel) g0 (fr_7_5 g0) ?_
  refine fs_iload_n (k := 3) (p := 83) (by decide +kernel) rfl rfl ?_
  obtain ⟨v5, w6, h⟩ := fx_bd h
  refine fs_iaload (p := 84) (by decide +kernel) rfl w6 ?_
  obtain ⟨t8, w9, h⟩ := fx_bd h
  refine fs_iastore (p := 85) (by decide +kernel) rfl w9 ?_
  refine fs_iinc (k := 3) (n := 1) (p := 88) (M := 6) (al' := [some (.ref x0), some (.int x1), some (.int x2), some (.int (x3 + (1 : Int32))), o4, none]) (by decide +kernel) rfl kc_1 mx_71 rfl rfl rfl ?_
  refine fs_goto (off := -83) (p := 5) (by decide +kernel) (by decide +kernel) ?_
  exact hk_5 _ _ _ _ _ _ _ g0 h
def fm_71_52 (k_5 : Nat → Int32 → Int32 → Int32 → fx_S → Option (fx_S)) (x0 : Nat) (x1 : Int32) (x2 : Int32) (x3 : Int32) (x4 : Int64) (s0 : Nat) (s1 : Int32) (s2 : Int32) (σ : fx_S) : Option (fx_S) :=
  (fx_st σ s0 s1 s2).bind fun t1 =>
  if x2 ≤ 0 then (
    fm_71_72 k_5 x0 x1 x2 x3 (x0 + 7) x3 (0 : Int32) t1) else (
    if ¬ (x2).toInt64 = 0 then (
    fm_71_72 k_5 x0 x1 x2 x3 (x0 + 7) x3 (((x4 - x4 / (x2).toInt64 * (x2).toInt64)).toInt32) t1) else none)
theorem fe_71_52 {z : iv_Z} {d : Nat} (hd : 0 ≤ d) {k_5 : Nat → Int32 → Int32 → Int32 → fx_S → Option (fx_S)} (hk_5 : ∀ (x0 : Nat) (x1 : Int32) (x2 : Int32) (x3 : Int32) (o4 : Option Value) (σ : fx_S) (q : fx_S) (g0 : fx_oc x0 7 = true), k_5 x0 x1 x2 x3 σ = some q → fx_E z 71 d 5 [some (.ref x0), some (.int x1), some (.int x2), some (.int x3), o4, none] [] σ none q) (x0 : Nat) (x1 : Int32) (x2 : Int32) (x3 : Int32) (x4 : Int64) (s0 : Nat) (s1 : Int32) (s2 : Int32) (σ : fx_S) (q : fx_S) (g0 : fx_oc x0 7 = true) (h : fm_71_52 k_5  x0 x1 x2 x3 x4 s0 s1 s2 σ = some q) : fx_E z 71 d 52 [some (.ref x0), some (.int x1), some (.int x2), some (.int x3), some (.long x4), none] [.int s2, .int s1, .ref s0] σ none q := by
  unfold fm_71_52 at h
  obtain ⟨t1, w2, h⟩ := fx_bd h
  refine fs_iastore (p := 53) (by decide +kernel) rfl w2 ?_
  refine fs_aload_n (k := 0) (p := 54) (by decide +kernel) rfl rfl ?_
  refine fs_gfr (idx := 30) (ci := 7) (j := 6) (p := 57) (by decide +kernel) rfl (by decide +kernel) g0 (fr_7_6 g0) ?_
  refine fs_iload_n (k := 3) (p := 58) (by decide +kernel) rfl rfl ?_
  refine fs_iload_n (k := 2) (p := 59) (by decide +kernel) rfl rfl ?_
  by_cases c6 : x2 ≤ 0
  · rw [if_pos c6] at h
    refine fs_if_le_t (off := 12) (t := 71) (by decide +kernel) (by decide +kernel) c6 ?_
    refine fs_iconst (n := 0) (p := 72) (by decide +kernel) rfl kc_0 ?_
    exact fe_71_72 hd hk_5 _ _ _ _ _ _ _ _ _ _ g0 h
  · rw [if_neg c6] at h
    refine fs_if_le_f (off := 12) (t := 71) (p := 62) (by decide +kernel) (by decide +kernel) rfl c6 ?_
    refine fs_lload (k := 4) (p := 64) (by decide +kernel) rfl rfl ?_
    refine fs_iload_n (k := 2) (p := 65) (by decide +kernel) rfl rfl ?_
    refine fs_i2l (p := 66) (by decide +kernel) rfl ?_
    obtain ⟨z8, h⟩ := fx_gd h
    refine fs_lrem (p := 67) (by decide +kernel) rfl z8 ?_
    refine fs_l2i (p := 68) (by decide +kernel) rfl ?_
    refine fs_goto (off := 4) (p := 72) (by decide +kernel) (by decide +kernel) ?_
    exact fe_71_72 hd hk_5 _ _ _ _ _ _ _ _ _ _ g0 h
def fm_71_5 : Nat → Nat → Int32 → Int32 → Int32 → fx_S → Option (fx_S)
  | 0, _, _, _, _, _ => none
  | n + 1, x0, x1, x2, x3, σ =>
    if ((x1 * (9 : Int32)) + (9 : Int32)) ≤ x3 then (
      some σ) else (
      (fx_ld σ (x0 + 1) x1).bind fun v4 =>
      (fx_ld σ (x0 + 4) x3).bind fun v8 =>
      if x2 ≤ 0 then (
        fm_71_52 (fm_71_5 n) x0 x1 x2 x3 ((v4).toInt64 * (v8).toInt64) (x0 + 6) x3 (0 : Int32) σ) else (
        if ¬ (x2).toInt64 = 0 then (
        fm_71_52 (fm_71_5 n) x0 x1 x2 x3 ((v4).toInt64 * (v8).toInt64) (x0 + 6) x3 (((((v4).toInt64 * (v8).toInt64) / (x2).toInt64)).toInt32) σ) else none))
theorem fe_71_5 {z : iv_Z} {d : Nat} (hd : 0 ≤ d) : ∀ (n : Nat) (x0 : Nat) (x1 : Int32) (x2 : Int32) (x3 : Int32) (o4 : Option Value) (σ : fx_S) (q : fx_S) (g0 : fx_oc x0 7 = true), fm_71_5 n x0 x1 x2 x3 σ = some q → fx_E z 71 d 5 [some (.ref x0), some (.int x1), some (.int x2), some (.int x3), o4, none] [] σ none q := by
  intro n
  induction n with
  | zero =>
    intro x0 x1 x2 x3 o4 σ q g0 h
    rw [fm_71_5] at h
    exact fx_no h
  | succ n ih =>
    intro x0 x1 x2 x3 o4 σ q g0 h
    rw [fm_71_5] at h
    refine fs_iload_n (k := 3) (p := 6) (by decide +kernel) rfl rfl ?_
    refine fs_iload_n (k := 1) (p := 7) (by decide +kernel) rfl rfl ?_
    refine fs_bipush (n := 9) (p := 9) (by decide +kernel) rfl kb_9 ?_
    refine fs_imul (p := 10) (by decide +kernel) rfl ?_
    refine fs_bipush (n := 9) (p := 12) (by decide +kernel) rfl kb_9 ?_
    refine fs_iadd (p := 13) (by decide +kernel) rfl ?_
    by_cases c3 : ((x1 * (9 : Int32)) + (9 : Int32)) ≤ x3
    · rw [if_pos c3] at h
      refine fs_icmp_ge_t (off := 78) (t := 91) (by decide +kernel) (by decide +kernel) c3 ?_
      have h := Option.some.inj h
      subst h
      exact fs_ret (by decide +kernel) rt_71
    · rw [if_neg c3] at h
      refine fs_icmp_ge_f (off := 78) (t := 91) (p := 16) (by decide +kernel) (by decide +kernel) rfl c3 ?_
      refine fs_aload_n (k := 0) (p := 17) (by decide +kernel) rfl rfl ?_
      refine fs_gfr (idx := 9) (ci := 7) (j := 0) (p := 20) (by decide +kernel) rfl (by decide +kernel) g0 (fr_7_0 g0) ?_
      refine fs_iload_n (k := 1) (p := 21) (by decide +kernel) rfl rfl ?_
      obtain ⟨v4, w5, h⟩ := fx_bd h
      refine fs_iaload (p := 22) (by decide +kernel) rfl w5 ?_
      refine fs_i2l (p := 23) (by decide +kernel) rfl ?_
      refine fs_aload_n (k := 0) (p := 24) (by decide +kernel) rfl rfl ?_
      refine fs_gfr (idx := 21) (ci := 7) (j := 3) (p := 27) (by decide +kernel) rfl (by decide +kernel) g0 (fr_7_3 g0) ?_
      refine fs_iload_n (k := 3) (p := 28) (by decide +kernel) rfl rfl ?_
      obtain ⟨v8, w9, h⟩ := fx_bd h
      refine fs_iaload (p := 29) (by decide +kernel) rfl w9 ?_
      refine fs_i2l (p := 30) (by decide +kernel) rfl ?_
      refine fs_lmul (p := 31) (by decide +kernel) rfl ?_
      refine fs_lstore (k := 4) (p := 33) (M := 6) (al' := [some (.ref x0), some (.int x1), some (.int x2), some (.int x3), some (.long ((v4).toInt64 * (v8).toInt64)), none]) (by decide +kernel) rfl mx_71 rfl rfl ?_
      refine fs_aload_n (k := 0) (p := 34) (by decide +kernel) rfl rfl ?_
      refine fs_gfr (idx := 27) (ci := 7) (j := 5) (p := 37) (by decide +kernel) rfl (by decide +kernel) g0 (fr_7_5 g0) ?_
      refine fs_iload_n (k := 3) (p := 38) (by decide +kernel) rfl rfl ?_
      refine fs_iload_n (k := 2) (p := 39) (by decide +kernel) rfl rfl ?_
      by_cases c13 : x2 ≤ 0
      · rw [if_pos c13] at h
        refine fs_if_le_t (off := 12) (t := 51) (by decide +kernel) (by decide +kernel) c13 ?_
        refine fs_iconst (n := 0) (p := 52) (by decide +kernel) rfl kc_0 ?_
        exact fe_71_52 hd ih _ _ _ _ _ _ _ _ _ _ g0 h
      · rw [if_neg c13] at h
        refine fs_if_le_f (off := 12) (t := 51) (p := 42) (by decide +kernel) (by decide +kernel) rfl c13 ?_
        refine fs_lload (k := 4) (p := 44) (by decide +kernel) rfl rfl ?_
        refine fs_iload_n (k := 2) (p := 45) (by decide +kernel) rfl rfl ?_
        refine fs_i2l (p := 46) (by decide +kernel) rfl ?_
        obtain ⟨z15, h⟩ := fx_gd h
        refine fs_ldiv (p := 47) (by decide +kernel) rfl z15 ?_
        refine fs_l2i (p := 48) (by decide +kernel) rfl ?_
        refine fs_goto (off := 4) (p := 52) (by decide +kernel) (by decide +kernel) ?_
        exact fe_71_52 hd ih _ _ _ _ _ _ _ _ _ _ g0 h
def fm_71 (x0 : Nat) (x1 : Int32) (x2 : Int32) (σ : fx_S) : Option (fx_S) :=
  if fx_oc x0 7 = true then (
  fm_71_5 100000 x0 x1 x2 (x1 * (9 : Int32)) σ) else none
theorem fe_71 {z : iv_Z} {d : Nat} (hd : 0 ≤ d) {x0 : Nat} {x1 : Int32} {x2 : Int32} {σ : fx_S} {q : fx_S} (h : fm_71 x0 x1 x2 σ = some q) : fx_E z 71 d 0 [some (.ref x0), some (.int x1), some (.int x2), none, none, none] [] σ none q := by
  unfold fm_71 at h
  obtain ⟨g0, h⟩ := fx_gd h
  refine fs_iload_n (k := 1) (p := 1) (by decide +kernel) rfl rfl ?_
  refine fs_bipush (n := 9) (p := 3) (by decide +kernel) rfl kb_9 ?_
  refine fs_imul (p := 4) (by decide +kernel) rfl ?_
  refine fs_istore_n (k := 3) (p := 5) (M := 6) (al' := [some (.ref x0), some (.int x1), some (.int x2), some (.int (x1 * (9 : Int32))), none, none]) (by decide +kernel) rfl mx_71 rfl rfl ?_
  exact fe_71_5 hd 100000 _ _ _ _ _ _ _ g0 h

/-! ZoneShares$Table.sum([II)I -/
theorem mx_72 : iv_mx 72 = 4 := by decide +kernel
theorem rt_72 : iv_rt 72 = some .int := by decide +kernel
def fm_72_4 : Nat → Nat → Int32 → Int32 → Int32 → fx_S → Option (Int32 × fx_S)
  | 0, _, _, _, _, _ => none
  | n + 1, x0, x1, x2, x3, σ =>
    if (9 : Int32) ≤ x3 then (
      some (x2, σ)) else (
      (fx_ld σ x0 ((x1 * (9 : Int32)) + x3)).bind fun v3 =>
      fm_72_4 n x0 x1 (x2 + v3) (x3 + (1 : Int32)) σ)
theorem fe_72_4 {z : iv_Z} {d : Nat} (hd : 0 ≤ d) : ∀ (n : Nat) (x0 : Nat) (x1 : Int32) (x2 : Int32) (x3 : Int32) (σ : fx_S) (q : Int32 × fx_S), fm_72_4 n x0 x1 x2 x3 σ = some q → fx_E z 72 d 4 [some (.ref x0), some (.int x1), some (.int x2), some (.int x3)] [] σ (some (.int q.1)) q.2 := by
  intro n
  induction n with
  | zero =>
    intro x0 x1 x2 x3 σ q  h
    rw [fm_72_4] at h
    exact fx_no h
  | succ n ih =>
    intro x0 x1 x2 x3 σ q  h
    rw [fm_72_4] at h
    refine fs_iload_n (k := 3) (p := 5) (by decide +kernel) rfl rfl ?_
    refine fs_bipush (n := 9) (p := 7) (by decide +kernel) rfl kb_9 ?_
    by_cases c2 : (9 : Int32) ≤ x3
    · rw [if_pos c2] at h
      refine fs_icmp_ge_t (off := 20) (t := 27) (by decide +kernel) (by decide +kernel) c2 ?_
      refine fs_iload_n (k := 2) (p := 28) (by decide +kernel) rfl rfl ?_
      have h := Option.some.inj h
      subst h
      exact fs_iret (by decide +kernel) rt_72
    · rw [if_neg c2] at h
      refine fs_icmp_ge_f (off := 20) (t := 27) (p := 10) (by decide +kernel) (by decide +kernel) rfl c2 ?_
      refine fs_iload_n (k := 2) (p := 11) (by decide +kernel) rfl rfl ?_
      refine fs_aload_n (k := 0) (p := 12) (by decide +kernel) rfl rfl ?_
      refine fs_iload_n (k := 1) (p := 13) (by decide +kernel) rfl rfl ?_
      refine fs_bipush (n := 9) (p := 15) (by decide +kernel) rfl kb_9 ?_
      refine fs_imul (p := 16) (by decide +kernel) rfl ?_
      refine fs_iload_n (k := 3) (p := 17) (by decide +kernel) rfl rfl ?_
      refine fs_iadd (p := 18) (by decide +kernel) rfl ?_
      obtain ⟨v3, w4, h⟩ := fx_bd h
      refine fs_iaload (p := 19) (by decide +kernel) rfl w4 ?_
      refine fs_iadd (p := 20) (by decide +kernel) rfl ?_
      refine fs_istore_n (k := 2) (p := 21) (M := 4) (al' := [some (.ref x0), some (.int x1), some (.int (x2 + v3)), some (.int x3)]) (by decide +kernel) rfl mx_72 rfl rfl ?_
      refine fs_iinc (k := 3) (n := 1) (p := 24) (M := 4) (al' := [some (.ref x0), some (.int x1), some (.int (x2 + v3)), some (.int (x3 + (1 : Int32)))]) (by decide +kernel) rfl kc_1 mx_72 rfl rfl rfl ?_
      refine fs_goto (off := -20) (p := 4) (by decide +kernel) (by decide +kernel) ?_
      exact ih _ _ _ _ _ _ h
def fm_72 (x0 : Nat) (x1 : Int32) (σ : fx_S) : Option (Int32 × fx_S) :=
  fm_72_4 100000 x0 x1 (0 : Int32) (0 : Int32) σ
theorem fe_72 {z : iv_Z} {d : Nat} (hd : 0 ≤ d) {x0 : Nat} {x1 : Int32} {σ : fx_S} {q : Int32 × fx_S} (h : fm_72 x0 x1 σ = some q) : fx_E z 72 d 0 [some (.ref x0), some (.int x1), none, none] [] σ (some (.int q.1)) q.2 := by
  unfold fm_72 at h
  refine fs_iconst (n := 0) (p := 1) (by decide +kernel) rfl kc_0 ?_
  refine fs_istore_n (k := 2) (p := 2) (M := 4) (al' := [some (.ref x0), some (.int x1), some (.int (0 : Int32)), none]) (by decide +kernel) rfl mx_72 rfl rfl ?_
  refine fs_iconst (n := 0) (p := 3) (by decide +kernel) rfl kc_0 ?_
  refine fs_istore_n (k := 3) (p := 4) (M := 4) (al' := [some (.ref x0), some (.int x1), some (.int (0 : Int32)), some (.int (0 : Int32))]) (by decide +kernel) rfl mx_72 rfl rfl ?_
  exact fe_72_4 hd 100000 _ _ _ _ _ _ h
