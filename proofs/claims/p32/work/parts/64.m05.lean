/-! java/util/Arrays.fill([II)V -/
theorem mx_235 : iv_mx 235 = 4 := by decide +kernel
theorem rt_235 : iv_rt 235 = none := by decide +kernel
def fm_235_5 : Nat → Nat → Int32 → Int32 → Int32 → fx_S → Option (fx_S)
  | 0, _, _, _, _, _ => none
  | n + 1, x0, x1, x2, x3, σ =>
    if x3 ≤ x2 then (
      some σ) else (
      (fx_st σ x0 x2 x1).bind fun t4 =>
      fm_235_5 n x0 x1 (x2 + (1 : Int32)) x3 t4)
theorem fe_235_5 {z : iv_Z} {d : Nat} (hd : 0 ≤ d) : ∀ (n : Nat) (x0 : Nat) (x1 : Int32) (x2 : Int32) (x3 : Int32) (σ : fx_S) (q : fx_S), fm_235_5 n x0 x1 x2 x3 σ = some q → fx_E z 235 d 5 [some (.ref x0), some (.int x1), some (.int x2), some (.int x3)] [] σ none q := by
  intro n
  induction n with
  | zero =>
    intro x0 x1 x2 x3 σ q  h
    rw [fm_235_5] at h
    exact fx_no h
  | succ n ih =>
    intro x0 x1 x2 x3 σ q  h
    rw [fm_235_5] at h
    refine fs_iload_n (k := 2) (p := 6) (by decide +kernel) rfl rfl ?_
    refine fs_iload_n (k := 3) (p := 7) (by decide +kernel) rfl rfl ?_
    by_cases c3 : x3 ≤ x2
    · rw [if_pos c3] at h
      refine fs_icmp_ge_t (off := 13) (t := 20) (by decide +kernel) (by decide +kernel) c3 ?_
      have h := Option.some.inj h
      subst h
      exact fs_ret (by decide +kernel) rt_235
    · rw [if_neg c3] at h
      refine fs_icmp_ge_f (off := 13) (t := 20) (p := 10) (by decide +kernel) (by decide +kernel) rfl c3 ?_
      refine fs_aload_n (k := 0) (p := 11) (by decide +kernel) rfl rfl ?_
      refine fs_iload_n (k := 2) (p := 12) (by decide +kernel) rfl rfl ?_
      refine fs_iload_n (k := 1) (p := 13) (by decide +kernel) rfl rfl ?_
      obtain ⟨t4, w5, h⟩ := fx_bd h
      refine fs_iastore (p := 14) (by decide +kernel) rfl w5 ?_
      refine fs_iinc (k := 2) (n := 1) (p := 17) (M := 4) (al' := [some (.ref x0), some (.int x1), some (.int (x2 + (1 : Int32))), some (.int x3)]) (by decide +kernel) rfl kc_1 mx_235 rfl rfl rfl ?_
      refine fs_goto (off := -12) (p := 5) (by decide +kernel) (by decide +kernel) ?_
      exact ih _ _ _ _ _ _ h
def fm_235 (x0 : Nat) (x1 : Int32) (σ : fx_S) : Option (fx_S) :=
  if fx_ok (fx_sh x0).1 x0 0 = true ∧ fx_sh x0 = (0, (fx_sh x0).2) then (
  fm_235_5 100000 x0 x1 (0 : Int32) (fx_len x0) σ) else none
theorem fe_235 {z : iv_Z} {d : Nat} (hd : 0 ≤ d) {x0 : Nat} {x1 : Int32} {σ : fx_S} {q : fx_S} (h : fm_235 x0 x1 σ = some q) : fx_E z 235 d 0 [some (.ref x0), some (.int x1), none, none] [] σ none q := by
  unfold fm_235 at h
  refine fs_iconst (n := 0) (p := 1) (by decide +kernel) rfl kc_0 ?_
  refine fs_istore_n (k := 2) (p := 2) (M := 4) (al' := [some (.ref x0), some (.int x1), some (.int (0 : Int32)), none]) (by decide +kernel) rfl mx_235 rfl rfl ?_
  refine fs_aload_n (k := 0) (p := 3) (by decide +kernel) rfl rfl ?_
  obtain ⟨z11, h⟩ := fx_gd h
  refine fs_alen (p := 4) (by decide +kernel) rfl z11.1 z11.2 ?_
  refine fs_istore_n (k := 3) (p := 5) (M := 4) (al' := [some (.ref x0), some (.int x1), some (.int (0 : Int32)), some (.int (fx_len x0))]) (by decide +kernel) rfl mx_235 rfl rfl ?_
  exact fe_235_5 hd 100000 _ _ _ _ _ _ h

/-! ZoneShares$CountsText.number(LZoneShares$Tape;)I -/
theorem mx_6 : iv_mx 6 = 3 := by decide +kernel
theorem rt_6 : iv_rt 6 = some .int := by decide +kernel
def fm_6_63 (x2 : Int32) (σ : fx_S) : Option (Int32 × fx_S) :=
  some (x2, σ)
theorem fe_6_63 {z : iv_Z} {d : Nat} (hd : 1 ≤ d) (x2 : Int32) (o0 : Option Value) (o1 : Option Value) (σ : fx_S) (q : Int32 × fx_S) (h : fm_6_63  x2 σ = some q) : fx_E z 6 d 63 [o0, o1, some (.int x2)] [] σ (some (.int q.1)) q.2 := by
  unfold fm_6_63 at h
  refine fs_iload_n (k := 2) (p := 64) (by decide +kernel) rfl rfl ?_
  have h := Option.some.inj h
  subst h
  exact fs_iret (by decide +kernel) rt_6
def fm_6_2 : Nat → Int32 → fx_S → Option (Int32 × fx_S)
  | 0, _, _ => none
  | n + 1, x2, σ =>
    if (σ.1 14 1) ≤ (σ.1 60 2) then (
      fm_6_63 x2 σ) else (
      (fm_83 (σ.1 60 2) σ).bind fun q5 =>
      (fm_8 q5.1 q5.2).bind fun q7 =>
      if (fx_b q7.1) = 0 then (
        fm_6_63 x2 q7.2) else (
        (fm_83 (q7.2.1 60 2) q7.2).bind fun q10 =>
        fm_6_2 n (if (((x2 * (10 : Int32)) + q10.1) - (48 : Int32)) < (10000 : Int32) then (((x2 * (10 : Int32)) + q10.1) - (48 : Int32)) else (10000 : Int32)) (fx_w1 q10.2 60 2 ((q10.2.1 60 2) + (1 : Int32)))))
theorem fe_6_2 {z : iv_Z} {d : Nat} (hd : 1 ≤ d) : ∀ (n : Nat) (x2 : Int32) (σ : fx_S) (q : Int32 × fx_S), fm_6_2 n x2 σ = some q → fx_E z 6 d 2 [some (.ref 60), some (.ref 14), some (.int x2)] [] σ (some (.int q.1)) q.2 := by
  intro n
  induction n with
  | zero =>
    intro x2 σ q  h
    rw [fm_6_2] at h
    exact fx_no h
  | succ n ih =>
    intro x2 σ q  h
    rw [fm_6_2] at h
    refine fs_aload_n (k := 0) (p := 3) (by decide +kernel) rfl rfl ?_
    refine fs_gfi (idx := 25) (ci := 0) (j := 2) (p := 6) (by decide +kernel) rfl (by decide +kernel) fo_60 ?_
    refine fs_aload_n (k := 1) (p := 7) (by decide +kernel) rfl rfl ?_
    refine fs_gfi (idx := 28) (ci := 8) (j := 1) (p := 10) (by decide +kernel) rfl (by decide +kernel) fo_14 ?_
    by_cases c3 : (σ.1 14 1) ≤ (σ.1 60 2)
    · rw [if_pos c3] at h
      refine fs_icmp_ge_t (off := 53) (t := 63) (by decide +kernel) (by decide +kernel) c3 ?_
      exact fe_6_63 hd _ _ _ _ _ h
    · rw [if_neg c3] at h
      refine fs_icmp_ge_f (off := 53) (t := 63) (p := 13) (by decide +kernel) (by decide +kernel) rfl c3 ?_
      refine fs_aload_n (k := 1) (p := 14) (by decide +kernel) rfl rfl ?_
      refine fs_aload_n (k := 0) (p := 15) (by decide +kernel) rfl rfl ?_
      refine fs_gfi (idx := 25) (ci := 0) (j := 2) (p := 18) (by decide +kernel) rfl (by decide +kernel) fo_60 ?_
      obtain ⟨q5, w4, h⟩ := fx_bd h
      refine fs_callV (idx := 37) (mj := 83) (ci := 8) (na := 1) (mx := 2) (p := 21) (args := [.ref 14, .int (σ.1 60 2)]) (rest := []) (al2 := [some (.ref 14), some (.int (σ.1 60 2))]) (by decide +kernel) rfl (by decide +kernel) fo_14 rfl rfl rfl rfl rfl rfl rfl (by omega) (fun d' hd' => fe_83 (by omega) w4) rfl ?_
      obtain ⟨q7, w6, h⟩ := fx_bd h
      refine fs_callS (idx := 44) (mj := 8) (na := 1) (mx := 1) (p := 24) (args := [.int q5.1]) (rest := []) (al2 := [some (.int q5.1)]) (by decide +kernel) rfl (by decide +kernel) rfl rfl rfl rfl rfl rfl rfl (by omega) (fun d' hd' => fe_8 (by omega) w6) rfl ?_
      by_cases c8 : (fx_b q7.1) = 0
      · rw [if_pos c8] at h
        refine fs_if_eq_t (off := 39) (t := 63) (by decide +kernel) (by decide +kernel) c8 ?_
        exact fe_6_63 hd _ _ _ _ _ h
      · rw [if_neg c8] at h
        refine fs_if_eq_f (off := 39) (t := 63) (p := 27) (by decide +kernel) (by decide +kernel) rfl c8 ?_
        refine fs_sipush (n := 10000) (p := 30) (by decide +kernel) rfl ks_10000 ?_
        refine fs_iload_n (k := 2) (p := 31) (by decide +kernel) rfl rfl ?_
        refine fs_bipush (n := 10) (p := 33) (by decide +kernel) rfl kb_10 ?_
        refine fs_imul (p := 34) (by decide +kernel) rfl ?_
        refine fs_aload_n (k := 1) (p := 35) (by decide +kernel) rfl rfl ?_
        refine fs_aload_n (k := 0) (p := 36) (by decide +kernel) rfl rfl ?_
        refine fs_gfi (idx := 25) (ci := 0) (j := 2) (p := 39) (by decide +kernel) rfl (by decide +kernel) fo_60 ?_
        obtain ⟨q10, w9, h⟩ := fx_bd h
        refine fs_callV (idx := 37) (mj := 83) (ci := 8) (na := 1) (mx := 2) (p := 42) (args := [.ref 14, .int (q7.2.1 60 2)]) (rest := [.int (x2 * (10 : Int32)), .int (10000 : Int32)]) (al2 := [some (.ref 14), some (.int (q7.2.1 60 2))]) (by decide +kernel) rfl (by decide +kernel) fo_14 rfl rfl rfl rfl rfl rfl rfl (by omega) (fun d' hd' => fe_83 (by omega) w9) rfl ?_
        refine fs_iadd (p := 43) (by decide +kernel) rfl ?_
        refine fs_bipush (n := 48) (p := 45) (by decide +kernel) rfl kb_48 ?_
        refine fs_isub (p := 46) (by decide +kernel) rfl ?_
        refine fs_min (idx := 51) (p := 49) (by decide +kernel) rfl (by decide +kernel) rfl ?_
        refine fs_istore_n (k := 2) (p := 50) (M := 3) (al' := [some (.ref 60), some (.ref 14), some (.int (if (((x2 * (10 : Int32)) + q10.1) - (48 : Int32)) < (10000 : Int32) then (((x2 * (10 : Int32)) + q10.1) - (48 : Int32)) else (10000 : Int32)))]) (by decide +kernel) rfl mx_6 rfl rfl ?_
        refine fs_aload_n (k := 0) (p := 51) (by decide +kernel) rfl rfl ?_
        refine fs_dup (p := 52) (by decide +kernel) rfl rfl ?_
        refine fs_gfi (idx := 25) (ci := 0) (j := 2) (p := 55) (by decide +kernel) rfl (by decide +kernel) fo_60 ?_
        refine fs_iconst (n := 1) (p := 56) (by decide +kernel) rfl kc_1 ?_
        refine fs_iadd (p := 57) (by decide +kernel) rfl ?_
        refine fs_pfi (idx := 25) (ci := 0) (j := 2) (p := 60) (by decide +kernel) rfl (by decide +kernel) (by decide +kernel) fo_60 (fx_oki _ (by decide +kernel)) ?_
        refine fs_goto (off := -58) (p := 2) (by decide +kernel) (by decide +kernel) ?_
        exact ih _ _ _ h
def fm_6 (σ : fx_S) : Option (Int32 × fx_S) :=
  fm_6_2 100000 (0 : Int32) σ
theorem fe_6 {z : iv_Z} {d : Nat} (hd : 1 ≤ d) {σ : fx_S} {q : Int32 × fx_S} (h : fm_6 σ = some q) : fx_E z 6 d 0 [some (.ref 60), some (.ref 14), none] [] σ (some (.int q.1)) q.2 := by
  unfold fm_6 at h
  refine fs_iconst (n := 0) (p := 1) (by decide +kernel) rfl kc_0 ?_
  refine fs_istore_n (k := 2) (p := 2) (M := 3) (al' := [some (.ref 60), some (.ref 14), some (.int (0 : Int32))]) (by decide +kernel) rfl mx_6 rfl rfl ?_
  exact fe_6_2 hd 100000 _ _ _ h

/-! ZoneShares$Group.topOf(I)I -/
theorem mx_27 : iv_mx 27 = 4 := by decide +kernel
theorem rt_27 : iv_rt 27 = some .int := by decide +kernel
def fm_27_47 (x0 : Nat) (x2 : Int32) (s0 : Int32) (σ : fx_S) : Option (Int32 × fx_S) :=
  (fx_ld σ (x0 + 1) x2).bind fun v1 =>
  some ((v1 * s0), σ)
theorem fe_27_47 {z : iv_Z} {d : Nat} (hd : 2 ≤ d) (x0 : Nat) (x2 : Int32) (s0 : Int32) (o1 : Option Value) (σ : fx_S) (q : Int32 × fx_S) (g0 : fx_oc x0 2 = true) (h : fm_27_47  x0 x2 s0 σ = some q) : fx_E z 27 d 47 [some (.ref x0), o1, some (.int x2), none] [.int s0] σ (some (.int q.1)) q.2 := by
  unfold fm_27_47 at h
  refine fs_istore_n (k := 3) (p := 48) (M := 4) (al' := [some (.ref x0), o1, some (.int x2), some (.int s0)]) (by decide +kernel) rfl mx_27 rfl rfl ?_
  refine fs_aload_n (k := 0) (p := 49) (by decide +kernel) rfl rfl ?_
  refine fs_gfr (idx := 9) (ci := 2) (j := 0) (p := 52) (by decide +kernel) rfl (by decide +kernel) g0 (fr_2_0 g0) ?_
  refine fs_iload_n (k := 2) (p := 53) (by decide +kernel) rfl rfl ?_
  obtain ⟨v1, w2, h⟩ := fx_bd h
  refine fs_iaload (p := 54) (by decide +kernel) rfl w2 ?_
  refine fs_iload_n (k := 3) (p := 55) (by decide +kernel) rfl rfl ?_
  refine fs_imul (p := 56) (by decide +kernel) rfl ?_
  have h := Option.some.inj h
  subst h
  exact fs_iret (by decide +kernel) rt_27
def fm_27 (x0 : Nat) (x1 : Int32) (σ : fx_S) : Option (Int32 × fx_S) :=
  if fx_oc x0 2 = true then (
  (fm_60 1 (0 : Int32) x1 σ).bind fun q16 =>
  if q16.1 < (8 : Int32) then (
    (fx_ld q16.2 ((x0 + 3) + 3) q16.1).bind fun v19 =>
    if ¬ v19 = (1 : Int32) then (
      (fm_61 1 (q16.2.1 x0 9) x1 q16.2).bind fun q25 =>
      fm_27_47 x0 q16.1 q25.1 q25.2) else (
      fm_27_47 x0 q16.1 (1 : Int32) q16.2)) else (
    some ((0 : Int32), q16.2))) else none
theorem fe_27 {z : iv_Z} {d : Nat} (hd : 2 ≤ d) {x0 : Nat} {x1 : Int32} {σ : fx_S} {q : Int32 × fx_S} (h : fm_27 x0 x1 σ = some q) : fx_E z 27 d 0 [some (.ref x0), some (.int x1), none, none] [] σ (some (.int q.1)) q.2 := by
  unfold fm_27 at h
  obtain ⟨g0, h⟩ := fx_gd h
  refine fs_aload_n (k := 0) (p := 1) (by decide +kernel) rfl rfl ?_
  refine fs_gfr (idx := 41) (ci := 2) (j := 10) (p := 4) (by decide +kernel) rfl (by decide +kernel) g0 (fr_2_10 g0) ?_
  refine fs_iconst (n := 0) (p := 5) (by decide +kernel) rfl kc_0 ?_
  refine fs_iload_n (k := 1) (p := 6) (by decide +kernel) rfl rfl ?_
  obtain ⟨q16, w15, h⟩ := fx_bd h
  refine fs_callV (idx := 136) (mj := 60) (ci := 6) (na := 2) (mx := 3) (p := 9) (args := [.ref 1, .int (0 : Int32), .int x1]) (rest := []) (al2 := [some (.ref 1), some (.int (0 : Int32)), some (.int x1)]) (by decide +kernel) rfl (by decide +kernel) fo_1 rfl rfl rfl rfl rfl rfl rfl (by omega) (fun d' hd' => fe_60 (by omega) w15) rfl ?_
  refine fs_istore_n (k := 2) (p := 10) (M := 4) (al' := [some (.ref x0), some (.int x1), some (.int q16.1), none]) (by decide +kernel) rfl mx_27 rfl rfl ?_
  refine fs_iload_n (k := 2) (p := 11) (by decide +kernel) rfl rfl ?_
  refine fs_bipush (n := 8) (p := 13) (by decide +kernel) rfl kb_8 ?_
  by_cases c18 : q16.1 < (8 : Int32)
  · rw [if_pos c18] at h
    refine fs_icmp_lt_t (off := 5) (t := 18) (by decide +kernel) (by decide +kernel) c18 ?_
    refine fs_aload_n (k := 0) (p := 19) (by decide +kernel) rfl rfl ?_
    refine fs_gfr (idx := 21) (ci := 2) (j := 2) (p := 22) (by decide +kernel) rfl (by decide +kernel) g0 (fr_2_2 g0) ?_
    refine fs_gfr (idx := 148) (ci := 7) (j := 2) (p := 25) (by decide +kernel) rfl (by decide +kernel) (fg_2_2 g0) (fr_7_2 (fg_2_2 g0)) ?_
    refine fs_iload_n (k := 2) (p := 26) (by decide +kernel) rfl rfl ?_
    obtain ⟨v19, w20, h⟩ := fx_bd h
    refine fs_iaload (p := 27) (by decide +kernel) rfl w20 ?_
    refine fs_iconst (n := 1) (p := 28) (by decide +kernel) rfl kc_1 ?_
    by_cases c23 : ¬ v19 = (1 : Int32)
    · rw [if_pos c23] at h
      refine fs_icmp_ne_t (off := 7) (t := 35) (by decide +kernel) (by decide +kernel) c23 ?_
      refine fs_aload_n (k := 0) (p := 36) (by decide +kernel) rfl rfl ?_
      refine fs_gfr (idx := 41) (ci := 2) (j := 10) (p := 39) (by decide +kernel) rfl (by decide +kernel) g0 (fr_2_10 g0) ?_
      refine fs_aload_n (k := 0) (p := 40) (by decide +kernel) rfl rfl ?_
      refine fs_gfi (idx := 37) (ci := 2) (j := 9) (p := 43) (by decide +kernel) rfl (by decide +kernel) g0 ?_
      refine fs_iload_n (k := 1) (p := 44) (by decide +kernel) rfl rfl ?_
      obtain ⟨q25, w24, h⟩ := fx_bd h
      refine fs_callV (idx := 139) (mj := 61) (ci := 6) (na := 2) (mx := 3) (p := 47) (args := [.ref 1, .int (q16.2.1 x0 9), .int x1]) (rest := []) (al2 := [some (.ref 1), some (.int (q16.2.1 x0 9)), some (.int x1)]) (by decide +kernel) rfl (by decide +kernel) fo_1 rfl rfl rfl rfl rfl rfl rfl (by omega) (fun d' hd' => fe_61 (by omega) w24) rfl ?_
      exact fe_27_47 hd _ _ _ _ _ _ g0 h
    · rw [if_neg c23] at h
      refine fs_icmp_ne_f (off := 7) (t := 35) (p := 31) (by decide +kernel) (by decide +kernel) rfl c23 ?_
      refine fs_iconst (n := 1) (p := 32) (by decide +kernel) rfl kc_1 ?_
      refine fs_goto (off := 15) (p := 47) (by decide +kernel) (by decide +kernel) ?_
      exact fe_27_47 hd _ _ _ _ _ _ g0 h
  · rw [if_neg c18] at h
    refine fs_icmp_lt_f (off := 5) (t := 18) (p := 16) (by decide +kernel) (by decide +kernel) rfl c18 ?_
    refine fs_iconst (n := 0) (p := 17) (by decide +kernel) rfl kc_0 ?_
    have h := Option.some.inj h
    subst h
    exact fs_iret (by decide +kernel) rt_27

/-! ZoneShares$Group.underOf(I)I -/
theorem mx_28 : iv_mx 28 = 3 := by decide +kernel
theorem rt_28 : iv_rt 28 = some .int := by decide +kernel
def fm_28 (x0 : Nat) (x1 : Int32) (σ : fx_S) : Option (Int32 × fx_S) :=
  if fx_oc x0 2 = true then (
  (fm_60 1 (0 : Int32) x1 σ).bind fun q9 =>
  if (8 : Int32) ≤ q9.1 then (
    some ((1 : Int32), q9.2)) else (
    (fx_ld q9.2 ((x0 + 3) + 2) q9.1).bind fun v12 =>
    some (v12, q9.2))) else none
theorem fe_28 {z : iv_Z} {d : Nat} (hd : 1 ≤ d) {x0 : Nat} {x1 : Int32} {σ : fx_S} {q : Int32 × fx_S} (h : fm_28 x0 x1 σ = some q) : fx_E z 28 d 0 [some (.ref x0), some (.int x1), none] [] σ (some (.int q.1)) q.2 := by
  unfold fm_28 at h
  obtain ⟨g0, h⟩ := fx_gd h
  refine fs_aload_n (k := 0) (p := 1) (by decide +kernel) rfl rfl ?_
  refine fs_gfr (idx := 41) (ci := 2) (j := 10) (p := 4) (by decide +kernel) rfl (by decide +kernel) g0 (fr_2_10 g0) ?_
  refine fs_iconst (n := 0) (p := 5) (by decide +kernel) rfl kc_0 ?_
  refine fs_iload_n (k := 1) (p := 6) (by decide +kernel) rfl rfl ?_
  obtain ⟨q9, w8, h⟩ := fx_bd h
  refine fs_callV (idx := 136) (mj := 60) (ci := 6) (na := 2) (mx := 3) (p := 9) (args := [.ref 1, .int (0 : Int32), .int x1]) (rest := []) (al2 := [some (.ref 1), some (.int (0 : Int32)), some (.int x1)]) (by decide +kernel) rfl (by decide +kernel) fo_1 rfl rfl rfl rfl rfl rfl rfl (by omega) (fun d' hd' => fe_60 (by omega) w8) rfl ?_
  refine fs_istore_n (k := 2) (p := 10) (M := 3) (al' := [some (.ref x0), some (.int x1), some (.int q9.1)]) (by decide +kernel) rfl mx_28 rfl rfl ?_
  refine fs_iload_n (k := 2) (p := 11) (by decide +kernel) rfl rfl ?_
  refine fs_bipush (n := 8) (p := 13) (by decide +kernel) rfl kb_8 ?_
  by_cases c11 : (8 : Int32) ≤ q9.1
  · rw [if_pos c11] at h
    refine fs_icmp_ge_t (off := 15) (t := 28) (by decide +kernel) (by decide +kernel) c11 ?_
    refine fs_iconst (n := 1) (p := 29) (by decide +kernel) rfl kc_1 ?_
    have h := Option.some.inj h
    subst h
    exact fs_iret (by decide +kernel) rt_28
  · rw [if_neg c11] at h
    refine fs_icmp_ge_f (off := 15) (t := 28) (p := 16) (by decide +kernel) (by decide +kernel) rfl c11 ?_
    refine fs_aload_n (k := 0) (p := 17) (by decide +kernel) rfl rfl ?_
    refine fs_gfr (idx := 21) (ci := 2) (j := 2) (p := 20) (by decide +kernel) rfl (by decide +kernel) g0 (fr_2_2 g0) ?_
    refine fs_gfr (idx := 151) (ci := 7) (j := 1) (p := 23) (by decide +kernel) rfl (by decide +kernel) (fg_2_2 g0) (fr_7_1 (fg_2_2 g0)) ?_
    refine fs_iload_n (k := 2) (p := 24) (by decide +kernel) rfl rfl ?_
    obtain ⟨v12, w13, h⟩ := fx_bd h
    refine fs_iaload (p := 25) (by decide +kernel) rfl w13 ?_
    refine fs_goto (off := 4) (p := 29) (by decide +kernel) (by decide +kernel) ?_
    have h := Option.some.inj h
    subst h
    exact fs_iret (by decide +kernel) rt_28

/-! ZoneShares$Group.sortCells()V -/
theorem mx_29 : iv_mx 29 = 8 := by decide +kernel
theorem rt_29 : iv_rt 29 = none := by decide +kernel
def fm_29_97 (k_10 : Nat → Int32 → Int32 → fx_S → Option (fx_S)) (x0 : Nat) (x1 : Int32) (x2 : Int32) (x7 : Int32) (σ : fx_S) : Option (fx_S) :=
  (fx_st σ (x0 + 2) x7 x2).bind fun t1 =>
  k_10 x0 x1 (x2 + (1 : Int32)) t1
theorem fe_29_97 {z : iv_Z} {d : Nat} (hd : 3 ≤ d) {k_10 : Nat → Int32 → Int32 → fx_S → Option (fx_S)} (hk_10 : ∀ (x0 : Nat) (x1 : Int32) (x2 : Int32) (o3 : Option Value) (o5 : Option Value) (o7 : Option Value) (σ : fx_S) (q : fx_S) (g0 : fx_oc x0 2 = true), k_10 x0 x1 x2 σ = some q → fx_E z 29 d 10 [some (.ref x0), some (.int x1), some (.int x2), o3, none, o5, none, o7] [] σ none q) (x0 : Nat) (x1 : Int32) (x2 : Int32) (x7 : Int32) (o3 : Option Value) (o5 : Option Value) (σ : fx_S) (q : fx_S) (g0 : fx_oc x0 2 = true) (h : fm_29_97 k_10  x0 x1 x2 x7 σ = some q) : fx_E z 29 d 97 [some (.ref x0), some (.int x1), some (.int x2), o3, none, o5, none, some (.int x7)] [] σ none q := by
  unfold fm_29_97 at h
  refine fs_aload_n (k := 0) (p := 98) (by decide +kernel) rfl rfl ?_
  refine fs_gfr (idx := 15) (ci := 2) (j := 1) (p := 101) (by decide +kernel) rfl (by decide +kernel) g0 (fr_2_1 g0) ?_
  refine fs_iload (k := 7) (p := 103) (by decide +kernel) rfl rfl ?_
  refine fs_iload_n (k := 2) (p := 104) (by decide +kernel) rfl rfl ?_
  obtain ⟨t1, w2, h⟩ := fx_bd h
  refine fs_iastore (p := 105) (by decide +kernel) rfl w2 ?_
  refine fs_iinc (k := 2) (n := 1) (p := 108) (M := 8) (al' := [some (.ref x0), some (.int x1), some (.int (x2 + (1 : Int32))), o3, none, o5, none, some (.int x7)]) (by decide +kernel) rfl kc_1 mx_29 rfl rfl rfl ?_
  refine fs_goto (off := -98) (p := 10) (by decide +kernel) (by decide +kernel) ?_
  exact hk_10 _ _ _ _ _ _ _ _ g0 h
def fm_29_33 (k_10 : Nat → Int32 → Int32 → fx_S → Option (fx_S)) : Nat → Nat → Int32 → Int32 → Int64 → Int64 → Int32 → fx_S → Option (fx_S)
  | 0, _, _, _, _, _, _, _ => none
  | n + 1, x0, x1, x2, x3, x5, x7, σ =>
    if x7 ≤ 0 then (
      fm_29_97 k_10 x0 x1 x2 x7 σ) else (
      (fx_ld σ (x0 + 2) (x7 - (1 : Int32))).bind fun v3 =>
      (fm_28 x0 v3 σ).bind fun q7 =>
      (fx_ld q7.2 (x0 + 2) (x7 - (1 : Int32))).bind fun v9 =>
      (fm_27 x0 v9 q7.2).bind fun q12 =>
      if (x3 * (q7.1).toInt64) ≤ ((q12.1).toInt64 * x5) then (
        fm_29_97 k_10 x0 x1 x2 x7 q12.2) else (
        (fx_ld q12.2 (x0 + 2) (x7 - (1 : Int32))).bind fun v17 =>
        (fx_st q12.2 (x0 + 2) x7 v17).bind fun t19 =>
        fm_29_33 k_10 n x0 x1 x2 x3 x5 (x7 + (-1 : Int32)) t19))
theorem fe_29_33 {z : iv_Z} {d : Nat} (hd : 3 ≤ d) {k_10 : Nat → Int32 → Int32 → fx_S → Option (fx_S)} (hk_10 : ∀ (x0 : Nat) (x1 : Int32) (x2 : Int32) (o3 : Option Value) (o5 : Option Value) (o7 : Option Value) (σ : fx_S) (q : fx_S) (g0 : fx_oc x0 2 = true), k_10 x0 x1 x2 σ = some q → fx_E z 29 d 10 [some (.ref x0), some (.int x1), some (.int x2), o3, none, o5, none, o7] [] σ none q) : ∀ (n : Nat) (x0 : Nat) (x1 : Int32) (x2 : Int32) (x3 : Int64) (x5 : Int64) (x7 : Int32) (σ : fx_S) (q : fx_S) (g0 : fx_oc x0 2 = true), fm_29_33 k_10 n x0 x1 x2 x3 x5 x7 σ = some q → fx_E z 29 d 33 [some (.ref x0), some (.int x1), some (.int x2), some (.long x3), none, some (.long x5), none, some (.int x7)] [] σ none q := by
  intro n
  induction n with
  | zero =>
    intro x0 x1 x2 x3 x5 x7 σ q g0 h
    rw [fm_29_33] at h
    exact fx_no h
  | succ n ih =>
    intro x0 x1 x2 x3 x5 x7 σ q g0 h
    rw [fm_29_33] at h
    refine fs_iload (k := 7) (p := 35) (by decide +kernel) rfl rfl ?_
    by_cases c2 : x7 ≤ 0
    · rw [if_pos c2] at h
      refine fs_if_le_t (off := 62) (t := 97) (by decide +kernel) (by decide +kernel) c2 ?_
      exact fe_29_97 hd hk_10 _ _ _ _ _ _ _ _ g0 h
    · rw [if_neg c2] at h
      refine fs_if_le_f (off := 62) (t := 97) (p := 38) (by decide +kernel) (by decide +kernel) rfl c2 ?_
      refine fs_lload_n (k := 3) (p := 39) (by decide +kernel) rfl rfl ?_
      refine fs_aload_n (k := 0) (p := 40) (by decide +kernel) rfl rfl ?_
      refine fs_aload_n (k := 0) (p := 41) (by decide +kernel) rfl rfl ?_
      refine fs_gfr (idx := 15) (ci := 2) (j := 1) (p := 44) (by decide +kernel) rfl (by decide +kernel) g0 (fr_2_1 g0) ?_
      refine fs_iload (k := 7) (p := 46) (by decide +kernel) rfl rfl ?_
      refine fs_iconst (n := 1) (p := 47) (by decide +kernel) rfl kc_1 ?_
      refine fs_isub (p := 48) (by decide +kernel) rfl ?_
      obtain ⟨v3, w4, h⟩ := fx_bd h
      refine fs_iaload (p := 49) (by decide +kernel) rfl w4 ?_
      obtain ⟨q7, w6, h⟩ := fx_bd h
      refine fs_callV (idx := 157) (mj := 28) (ci := 2) (na := 1) (mx := 3) (p := 52) (args := [.ref x0, .int v3]) (rest := [.long x3]) (al2 := [some (.ref x0), some (.int v3), none]) (by decide +kernel) rfl (by decide +kernel) g0 rfl rfl rfl rfl rfl rfl rfl (by omega) (fun d' hd' => fe_28 (by omega) w6) rfl ?_
      refine fs_i2l (p := 53) (by decide +kernel) rfl ?_
      refine fs_lmul (p := 54) (by decide +kernel) rfl ?_
      refine fs_aload_n (k := 0) (p := 55) (by decide +kernel) rfl rfl ?_
      refine fs_aload_n (k := 0) (p := 56) (by decide +kernel) rfl rfl ?_
      refine fs_gfr (idx := 15) (ci := 2) (j := 1) (p := 59) (by decide +kernel) rfl (by decide +kernel) g0 (fr_2_1 g0) ?_
      refine fs_iload (k := 7) (p := 61) (by decide +kernel) rfl rfl ?_
      refine fs_iconst (n := 1) (p := 62) (by decide +kernel) rfl kc_1 ?_
      refine fs_isub (p := 63) (by decide +kernel) rfl ?_
      obtain ⟨v9, w10, h⟩ := fx_bd h
      refine fs_iaload (p := 64) (by decide +kernel) rfl w10 ?_
      obtain ⟨q12, w11, h⟩ := fx_bd h
      refine fs_callV (idx := 154) (mj := 27) (ci := 2) (na := 1) (mx := 4) (p := 67) (args := [.ref x0, .int v9]) (rest := [.long (x3 * (q7.1).toInt64)]) (al2 := [some (.ref x0), some (.int v9), none, none]) (by decide +kernel) rfl (by decide +kernel) g0 rfl rfl rfl rfl rfl rfl rfl (by omega) (fun d' hd' => fe_27 (by omega) w11) rfl ?_
      refine fs_i2l (p := 68) (by decide +kernel) rfl ?_
      refine fs_lload (k := 5) (p := 70) (by decide +kernel) rfl rfl ?_
      refine fs_lmul (p := 71) (by decide +kernel) rfl ?_
      by_cases c16 : (x3 * (q7.1).toInt64) ≤ ((q12.1).toInt64 * x5)
      · rw [if_pos c16] at h
        refine fs_lcmp_le_t (off := 25) (t := 97) (by decide +kernel) (by decide +kernel) (by decide +kernel) c16 ?_
        exact fe_29_97 hd hk_10 _ _ _ _ _ _ _ _ g0 h
      · rw [if_neg c16] at h
        refine fs_lcmp_le_f (off := 25) (t := 97) (p := 75) (by decide +kernel) (by decide +kernel) (by decide +kernel) rfl c16 ?_
        refine fs_aload_n (k := 0) (p := 76) (by decide +kernel) rfl rfl ?_
        refine fs_gfr (idx := 15) (ci := 2) (j := 1) (p := 79) (by decide +kernel) rfl (by decide +kernel) g0 (fr_2_1 g0) ?_
        refine fs_iload (k := 7) (p := 81) (by decide +kernel) rfl rfl ?_
        refine fs_aload_n (k := 0) (p := 82) (by decide +kernel) rfl rfl ?_
        refine fs_gfr (idx := 15) (ci := 2) (j := 1) (p := 85) (by decide +kernel) rfl (by decide +kernel) g0 (fr_2_1 g0) ?_
        refine fs_iload (k := 7) (p := 87) (by decide +kernel) rfl rfl ?_
        refine fs_iconst (n := 1) (p := 88) (by decide +kernel) rfl kc_1 ?_
        refine fs_isub (p := 89) (by decide +kernel) rfl ?_
        obtain ⟨v17, w18, h⟩ := fx_bd h
        refine fs_iaload (p := 90) (by decide +kernel) rfl w18 ?_
        obtain ⟨t19, w20, h⟩ := fx_bd h
        refine fs_iastore (p := 91) (by decide +kernel) rfl w20 ?_
        refine fs_iinc (k := 7) (n := -1) (p := 94) (M := 8) (al' := [some (.ref x0), some (.int x1), some (.int x2), some (.long x3), none, some (.long x5), none, some (.int (x7 + (-1 : Int32)))]) (by decide +kernel) rfl kc_m1 mx_29 rfl rfl rfl ?_
        refine fs_goto (off := -61) (p := 33) (by decide +kernel) (by decide +kernel) ?_
        exact ih _ _ _ _ _ _ _ _ g0 h
def fm_29_10 : Nat → Nat → Int32 → Int32 → fx_S → Option (fx_S)
  | 0, _, _, _, _ => none
  | n + 1, x0, x1, x2, σ =>
    if x1 ≤ x2 then (
      some σ) else (
      (fm_27 x0 x2 σ).bind fun q5 =>
      (fm_28 x0 x2 q5.2).bind fun q8 =>
      fm_29_33 (fm_29_10 n) 100000 x0 x1 x2 ((q5.1).toInt64) ((q8.1).toInt64) x2 q8.2)
theorem fe_29_10 {z : iv_Z} {d : Nat} (hd : 3 ≤ d) : ∀ (n : Nat) (x0 : Nat) (x1 : Int32) (x2 : Int32) (o3 : Option Value) (o5 : Option Value) (o7 : Option Value) (σ : fx_S) (q : fx_S) (g0 : fx_oc x0 2 = true), fm_29_10 n x0 x1 x2 σ = some q → fx_E z 29 d 10 [some (.ref x0), some (.int x1), some (.int x2), o3, none, o5, none, o7] [] σ none q := by
  intro n
  induction n with
  | zero =>
    intro x0 x1 x2 o3 o5 o7 σ q g0 h
    rw [fm_29_10] at h
    exact fx_no h
  | succ n ih =>
    intro x0 x1 x2 o3 o5 o7 σ q g0 h
    rw [fm_29_10] at h
    refine fs_iload_n (k := 2) (p := 11) (by decide +kernel) rfl rfl ?_
    refine fs_iload_n (k := 1) (p := 12) (by decide +kernel) rfl rfl ?_
    by_cases c3 : x1 ≤ x2
    · rw [if_pos c3] at h
      refine fs_icmp_ge_t (off := 99) (t := 111) (by decide +kernel) (by decide +kernel) c3 ?_
      have h := Option.some.inj h
      subst h
      exact fs_ret (by decide +kernel) rt_29
    · rw [if_neg c3] at h
      refine fs_icmp_ge_f (off := 99) (t := 111) (p := 15) (by decide +kernel) (by decide +kernel) rfl c3 ?_
      refine fs_aload_n (k := 0) (p := 16) (by decide +kernel) rfl rfl ?_
      refine fs_iload_n (k := 2) (p := 17) (by decide +kernel) rfl rfl ?_
      obtain ⟨q5, w4, h⟩ := fx_bd h
      refine fs_callV (idx := 154) (mj := 27) (ci := 2) (na := 1) (mx := 4) (p := 20) (args := [.ref x0, .int x2]) (rest := []) (al2 := [some (.ref x0), some (.int x2), none, none]) (by decide +kernel) rfl (by decide +kernel) g0 rfl rfl rfl rfl rfl rfl rfl (by omega) (fun d' hd' => fe_27 (by omega) w4) rfl ?_
      refine fs_i2l (p := 21) (by decide +kernel) rfl ?_
      refine fs_lstore_n (k := 3) (p := 22) (M := 8) (al' := [some (.ref x0), some (.int x1), some (.int x2), some (.long (q5.1).toInt64), none, o5, none, o7]) (by decide +kernel) rfl mx_29 rfl rfl ?_
      refine fs_aload_n (k := 0) (p := 23) (by decide +kernel) rfl rfl ?_
      refine fs_iload_n (k := 2) (p := 24) (by decide +kernel) rfl rfl ?_
      obtain ⟨q8, w7, h⟩ := fx_bd h
      refine fs_callV (idx := 157) (mj := 28) (ci := 2) (na := 1) (mx := 3) (p := 27) (args := [.ref x0, .int x2]) (rest := []) (al2 := [some (.ref x0), some (.int x2), none]) (by decide +kernel) rfl (by decide +kernel) g0 rfl rfl rfl rfl rfl rfl rfl (by omega) (fun d' hd' => fe_28 (by omega) w7) rfl ?_
      refine fs_i2l (p := 28) (by decide +kernel) rfl ?_
      refine fs_lstore (k := 5) (p := 30) (M := 8) (al' := [some (.ref x0), some (.int x1), some (.int x2), some (.long (q5.1).toInt64), none, some (.long (q8.1).toInt64), none, o7]) (by decide +kernel) rfl mx_29 rfl rfl ?_
      refine fs_iload_n (k := 2) (p := 31) (by decide +kernel) rfl rfl ?_
      refine fs_istore (k := 7) (p := 33) (M := 8) (al' := [some (.ref x0), some (.int x1), some (.int x2), some (.long (q5.1).toInt64), none, some (.long (q8.1).toInt64), none, some (.int x2)]) (by decide +kernel) rfl mx_29 rfl rfl ?_
      exact fe_29_33 hd ih 100000 _ _ _ _ _ _ _ _ g0 h
def fm_29 (x0 : Nat) (σ : fx_S) : Option (fx_S) :=
  if fx_oc x0 2 = true then (
  (fm_58 1 σ).bind fun q46 =>
  fm_29_10 100000 x0 q46.1 (0 : Int32) q46.2) else none
theorem fe_29 {z : iv_Z} {d : Nat} (hd : 3 ≤ d) {x0 : Nat} {σ : fx_S} {q : fx_S} (h : fm_29 x0 σ = some q) : fx_E z 29 d 0 [some (.ref x0), none, none, none, none, none, none, none] [] σ none q := by
  unfold fm_29 at h
  obtain ⟨g0, h⟩ := fx_gd h
  refine fs_aload_n (k := 0) (p := 1) (by decide +kernel) rfl rfl ?_
  refine fs_gfr (idx := 41) (ci := 2) (j := 10) (p := 4) (by decide +kernel) rfl (by decide +kernel) g0 (fr_2_10 g0) ?_
  obtain ⟨q46, w45, h⟩ := fx_bd h
  refine fs_callV (idx := 132) (mj := 58) (ci := 6) (na := 0) (mx := 1) (p := 7) (args := [.ref 1]) (rest := []) (al2 := [some (.ref 1)]) (by decide +kernel) rfl (by decide +kernel) fo_1 rfl rfl rfl rfl rfl rfl rfl (by omega) (fun d' hd' => fe_58 (by omega) w45) rfl ?_
  refine fs_istore_n (k := 1) (p := 8) (M := 8) (al' := [some (.ref x0), some (.int q46.1), none, none, none, none, none, none]) (by decide +kernel) rfl mx_29 rfl rfl ?_
  refine fs_iconst (n := 0) (p := 9) (by decide +kernel) rfl kc_0 ?_
  refine fs_istore_n (k := 2) (p := 10) (M := 8) (al' := [some (.ref x0), some (.int q46.1), some (.int (0 : Int32)), none, none, none, none, none]) (by decide +kernel) rfl mx_29 rfl rfl ?_
  exact fe_29_10 hd 100000 _ _ _ _ _ _ _ _ g0 h

/-! ZoneShares$History.keep(LZoneShares$State;)V -/
theorem mx_31 : iv_mx 31 = 2 := by decide +kernel
theorem rt_31 : iv_rt 31 = none := by decide +kernel
def fm_31 (x1 : Nat) (σ : fx_S) : Option (fx_S) :=
  if fx_oc x1 6 = true then (
  (fx_ldr 5 17 (σ.1 16 1)).bind fun v9 =>
  (fm_54 v9 x1 σ).bind fun q14 =>
  some (fx_w1 (fx_w1 q14 16 1 (((q14.1 16 1) + (1 : Int32)) - ((q14.1 16 1) + (1 : Int32)) / (8 : Int32) * (8 : Int32))) 16 2 (if (((fx_w1 q14 16 1 (((q14.1 16 1) + (1 : Int32)) - ((q14.1 16 1) + (1 : Int32)) / (8 : Int32) * (8 : Int32))).1 16 2) + (1 : Int32)) < (8 : Int32) then (((fx_w1 q14 16 1 (((q14.1 16 1) + (1 : Int32)) - ((q14.1 16 1) + (1 : Int32)) / (8 : Int32) * (8 : Int32))).1 16 2) + (1 : Int32)) else (8 : Int32)))) else none
theorem fe_31 {z : iv_Z} {d : Nat} (hd : 1 ≤ d) {x1 : Nat} {σ : fx_S} {q : fx_S} (h : fm_31 x1 σ = some q) : fx_E z 31 d 0 [some (.ref 16), some (.ref x1)] [] σ none q := by
  unfold fm_31 at h
  obtain ⟨g1, h⟩ := fx_gd h
  refine fs_aload_n (k := 0) (p := 1) (by decide +kernel) rfl rfl ?_
  refine fs_gfr (idx := 11) (ci := 3) (j := 0) (p := 4) (by decide +kernel) rfl (by decide +kernel) fo_16 (fr_a16_0) ?_
  refine fs_aload_n (k := 0) (p := 5) (by decide +kernel) rfl rfl ?_
  refine fs_gfi (idx := 18) (ci := 3) (j := 1) (p := 8) (by decide +kernel) rfl (by decide +kernel) fo_16 ?_
  obtain ⟨v9, w10, h⟩ := fx_bd h
  have g11 := fa_17 w10
  refine fs_aaload (t := 5) (p := 9) (by decide +kernel) rfl (by decide +kernel) w10 ?_
  refine fs_aload_n (k := 1) (p := 10) (by decide +kernel) rfl rfl ?_
  obtain ⟨q14, w13, h⟩ := fx_bd h
  refine fs_callV (idx := 22) (mj := 54) (ci := 6) (na := 1) (mx := 2) (p := 13) (args := [.ref v9, .ref x1]) (rest := []) (al2 := [some (.ref v9), some (.ref x1)]) (by decide +kernel) rfl (by decide +kernel) g11 rfl rfl rfl rfl rfl rfl rfl (by omega) (fun d' hd' => fe_54 (by omega) w13) rfl ?_
  refine fs_aload_n (k := 0) (p := 14) (by decide +kernel) rfl rfl ?_
  refine fs_aload_n (k := 0) (p := 15) (by decide +kernel) rfl rfl ?_
  refine fs_gfi (idx := 18) (ci := 3) (j := 1) (p := 18) (by decide +kernel) rfl (by decide +kernel) fo_16 ?_
  refine fs_iconst (n := 1) (p := 19) (by decide +kernel) rfl kc_1 ?_
  refine fs_iadd (p := 20) (by decide +kernel) rfl ?_
  refine fs_bipush (n := 8) (p := 22) (by decide +kernel) rfl kb_8 ?_
  refine fs_irem (p := 23) (by decide +kernel) rfl (by decide) ?_
  refine fs_pfi (idx := 18) (ci := 3) (j := 1) (p := 26) (by decide +kernel) rfl (by decide +kernel) (by decide +kernel) fo_16 (fx_oki _ (by decide +kernel)) ?_
  refine fs_aload_n (k := 0) (p := 27) (by decide +kernel) rfl rfl ?_
  refine fs_bipush (n := 8) (p := 29) (by decide +kernel) rfl kb_8 ?_
  refine fs_aload_n (k := 0) (p := 30) (by decide +kernel) rfl rfl ?_
  refine fs_gfi (idx := 26) (ci := 3) (j := 2) (p := 33) (by decide +kernel) rfl (by decide +kernel) fo_16 ?_
  refine fs_iconst (n := 1) (p := 34) (by decide +kernel) rfl kc_1 ?_
  refine fs_iadd (p := 35) (by decide +kernel) rfl ?_
  refine fs_min (idx := 29) (p := 38) (by decide +kernel) rfl (by decide +kernel) rfl ?_
  refine fs_pfi (idx := 26) (ci := 3) (j := 2) (p := 41) (by decide +kernel) rfl (by decide +kernel) (by decide +kernel) fo_16 (fx_oki _ (by decide +kernel)) ?_
  have h := Option.some.inj h
  subst h
  exact fs_ret (by decide +kernel) rt_31

/-! ZoneShares$History.bringBack(LZoneShares$State;)V -/
theorem mx_32 : iv_mx 32 = 2 := by decide +kernel
theorem rt_32 : iv_rt 32 = none := by decide +kernel
def fm_32 (x1 : Nat) (σ : fx_S) : Option (fx_S) :=
  if fx_oc x1 6 = true then (
  (fx_ldr 5 17 ((fx_w1 σ 16 1 ((((σ.1 16 1) + (8 : Int32)) - (1 : Int32)) - (((σ.1 16 1) + (8 : Int32)) - (1 : Int32)) / (8 : Int32) * (8 : Int32))).1 16 1)).bind fun v9 =>
  (fm_54 x1 v9 (fx_w1 σ 16 1 ((((σ.1 16 1) + (8 : Int32)) - (1 : Int32)) - (((σ.1 16 1) + (8 : Int32)) - (1 : Int32)) / (8 : Int32) * (8 : Int32)))).bind fun q14 =>
  some (fx_w1 q14 16 2 ((q14.1 16 2) - (1 : Int32)))) else none
theorem fe_32 {z : iv_Z} {d : Nat} (hd : 1 ≤ d) {x1 : Nat} {σ : fx_S} {q : fx_S} (h : fm_32 x1 σ = some q) : fx_E z 32 d 0 [some (.ref 16), some (.ref x1)] [] σ none q := by
  unfold fm_32 at h
  obtain ⟨g1, h⟩ := fx_gd h
  refine fs_aload_n (k := 0) (p := 1) (by decide +kernel) rfl rfl ?_
  refine fs_aload_n (k := 0) (p := 2) (by decide +kernel) rfl rfl ?_
  refine fs_gfi (idx := 18) (ci := 3) (j := 1) (p := 5) (by decide +kernel) rfl (by decide +kernel) fo_16 ?_
  refine fs_bipush (n := 8) (p := 7) (by decide +kernel) rfl kb_8 ?_
  refine fs_iadd (p := 8) (by decide +kernel) rfl ?_
  refine fs_iconst (n := 1) (p := 9) (by decide +kernel) rfl kc_1 ?_
  refine fs_isub (p := 10) (by decide +kernel) rfl ?_
  refine fs_bipush (n := 8) (p := 12) (by decide +kernel) rfl kb_8 ?_
  refine fs_irem (p := 13) (by decide +kernel) rfl (by decide) ?_
  refine fs_pfi (idx := 18) (ci := 3) (j := 1) (p := 16) (by decide +kernel) rfl (by decide +kernel) (by decide +kernel) fo_16 (fx_oki _ (by decide +kernel)) ?_
  refine fs_aload_n (k := 1) (p := 17) (by decide +kernel) rfl rfl ?_
  refine fs_aload_n (k := 0) (p := 18) (by decide +kernel) rfl rfl ?_
  refine fs_gfr (idx := 11) (ci := 3) (j := 0) (p := 21) (by decide +kernel) rfl (by decide +kernel) fo_16 (fr_a16_0) ?_
  refine fs_aload_n (k := 0) (p := 22) (by decide +kernel) rfl rfl ?_
  refine fs_gfi (idx := 18) (ci := 3) (j := 1) (p := 25) (by decide +kernel) rfl (by decide +kernel) fo_16 ?_
  obtain ⟨v9, w10, h⟩ := fx_bd h
  have g11 := fa_17 w10
  refine fs_aaload (t := 5) (p := 26) (by decide +kernel) rfl (by decide +kernel) w10 ?_
  obtain ⟨q14, w13, h⟩ := fx_bd h
  refine fs_callV (idx := 22) (mj := 54) (ci := 6) (na := 1) (mx := 2) (p := 29) (args := [.ref x1, .ref v9]) (rest := []) (al2 := [some (.ref x1), some (.ref v9)]) (by decide +kernel) rfl (by decide +kernel) g1 rfl rfl rfl rfl rfl rfl rfl (by omega) (fun d' hd' => fe_54 (by omega) w13) rfl ?_
  refine fs_aload_n (k := 0) (p := 30) (by decide +kernel) rfl rfl ?_
  refine fs_dup (p := 31) (by decide +kernel) rfl rfl ?_
  refine fs_gfi (idx := 26) (ci := 3) (j := 2) (p := 34) (by decide +kernel) rfl (by decide +kernel) fo_16 ?_
  refine fs_iconst (n := 1) (p := 35) (by decide +kernel) rfl kc_1 ?_
  refine fs_isub (p := 36) (by decide +kernel) rfl ?_
  refine fs_pfi (idx := 26) (ci := 3) (j := 2) (p := 39) (by decide +kernel) rfl (by decide +kernel) (by decide +kernel) fo_16 (fx_oki _ (by decide +kernel)) ?_
  have h := Option.some.inj h
  subst h
  exact fs_ret (by decide +kernel) rt_32

/-! ZoneShares$LayerText.read(LZoneShares$Tape;ILZoneShares$State;)I -/
theorem mx_34 : iv_mx 34 = 8 := by decide +kernel
theorem rt_34 : iv_rt 34 = some .int := by decide +kernel
def fm_34_153 (k_74 : Int32 → Int32 → fx_S → Option (Int32 × fx_S)) (x2 : Int32) (x4 : Int32) (σ : fx_S) : Option (Int32 × fx_S) :=
  k_74 x2 (x4 + (1 : Int32)) σ
theorem fe_34_153 {z : iv_Z} {d : Nat} (hd : 1 ≤ d) {k_74 : Int32 → Int32 → fx_S → Option (Int32 × fx_S)} (hk_74 : ∀ (x2 : Int32) (x4 : Int32) (o3 : Option Value) (o5 : Option Value) (o6 : Option Value) (o7 : Option Value) (σ : fx_S) (q : Int32 × fx_S), k_74 x2 x4 σ = some q → fx_E z 34 d 74 [some (.ref 58), some (.ref 14), some (.int x2), o3, some (.int x4), o5, o6, o7] [] σ (some (.int q.1)) q.2) (x2 : Int32) (x4 : Int32) (o3 : Option Value) (o5 : Option Value) (o6 : Option Value) (o7 : Option Value) (σ : fx_S) (q : Int32 × fx_S) (h : fm_34_153 k_74  x2 x4 σ = some q) : fx_E z 34 d 153 [some (.ref 58), some (.ref 14), some (.int x2), o3, some (.int x4), o5, o6, o7] [] σ (some (.int q.1)) q.2 := by
  unfold fm_34_153 at h
  refine fs_iinc (k := 4) (n := 1) (p := 156) (M := 8) (al' := [some (.ref 58), some (.ref 14), some (.int x2), (fx_kl o3), some (.int (x4 + (1 : Int32))), o5, o6, o7]) (by decide +kernel) rfl kc_1 mx_34 rfl rfl rfl ?_
  refine fs_goto (off := -82) (p := 74) (by decide +kernel) (by decide +kernel) ?_
  exact hk_74 _ _ _ _ _ _ _ _ h
def fm_34_118 (k_74 : Int32 → Int32 → fx_S → Option (Int32 × fx_S)) (x2 : Int32) (x4 : Int32) (x6 : Int32) (s0 : Int32) (σ : fx_S) : Option (Int32 × fx_S) :=
  if s0 = 0 then (
    if ¬ x6 = (-1 : Int32) then (
      (fm_39 x6 σ).bind fun q6 =>
      fm_34_153 k_74 x2 x4 q6) else (
      (fm_38 σ).bind fun q8 =>
      fm_34_153 k_74 x2 x4 q8)) else (
    some ((((8 : Int32) * x4) + s0), σ))
theorem fe_34_118 {z : iv_Z} {d : Nat} (hd : 1 ≤ d) {k_74 : Int32 → Int32 → fx_S → Option (Int32 × fx_S)} (hk_74 : ∀ (x2 : Int32) (x4 : Int32) (o3 : Option Value) (o5 : Option Value) (o6 : Option Value) (o7 : Option Value) (σ : fx_S) (q : Int32 × fx_S), k_74 x2 x4 σ = some q → fx_E z 34 d 74 [some (.ref 58), some (.ref 14), some (.int x2), o3, some (.int x4), o5, o6, o7] [] σ (some (.int q.1)) q.2) (x2 : Int32) (x4 : Int32) (x6 : Int32) (s0 : Int32) (o3 : Option Value) (o5 : Option Value) (o7 : Option Value) (σ : fx_S) (q : Int32 × fx_S) (h : fm_34_118 k_74  x2 x4 x6 s0 σ = some q) : fx_E z 34 d 118 [some (.ref 58), some (.ref 14), some (.int x2), o3, some (.int x4), o5, some (.int x6), o7] [.int s0] σ (some (.int q.1)) q.2 := by
  unfold fm_34_118 at h
  refine fs_istore (k := 7) (p := 120) (M := 8) (al' := [some (.ref 58), some (.ref 14), some (.int x2), o3, some (.int x4), o5, some (.int x6), some (.int s0)]) (by decide +kernel) rfl mx_34 rfl rfl ?_
  refine fs_iload (k := 7) (p := 122) (by decide +kernel) rfl rfl ?_
  by_cases c2 : s0 = 0
  · rw [if_pos c2] at h
    refine fs_if_eq_t (off := 12) (t := 134) (by decide +kernel) (by decide +kernel) c2 ?_
    refine fs_iload (k := 6) (p := 136) (by decide +kernel) rfl rfl ?_
    refine fs_iconst (n := -1) (p := 137) (by decide +kernel) rfl kc_m1 ?_
    by_cases c4 : ¬ x6 = (-1 : Int32)
    · rw [if_pos c4] at h
      refine fs_icmp_ne_t (off := 10) (t := 147) (by decide +kernel) (by decide +kernel) c4 ?_
      refine fs_aload_n (k := 0) (p := 148) (by decide +kernel) rfl rfl ?_
      refine fs_iload (k := 6) (p := 150) (by decide +kernel) rfl rfl ?_
      obtain ⟨q6, w5, h⟩ := fx_bd h
      refine fs_callV (idx := 62) (mj := 39) (ci := 4) (na := 1) (mx := 3) (p := 153) (args := [.ref 58, .int x6]) (rest := []) (al2 := [some (.ref 58), some (.int x6), none]) (by decide +kernel) rfl (by decide +kernel) fo_58 rfl rfl rfl rfl rfl rfl rfl (by omega) (fun d' hd' => fe_39 (by omega) w5) rfl ?_
      exact fe_34_153 hd hk_74 _ _ _ _ _ _ _ _ h
    · rw [if_neg c4] at h
      refine fs_icmp_ne_f (off := 10) (t := 147) (p := 140) (by decide +kernel) (by decide +kernel) rfl c4 ?_
      refine fs_aload_n (k := 0) (p := 141) (by decide +kernel) rfl rfl ?_
      obtain ⟨q8, w7, h⟩ := fx_bd h
      refine fs_callV (idx := 59) (mj := 38) (ci := 4) (na := 0) (mx := 1) (p := 144) (args := [.ref 58]) (rest := []) (al2 := [some (.ref 58)]) (by decide +kernel) rfl (by decide +kernel) fo_58 rfl rfl rfl rfl rfl rfl rfl (by omega) (fun d' hd' => fe_38 (by omega) w7) rfl ?_
      refine fs_goto (off := 9) (p := 153) (by decide +kernel) (by decide +kernel) ?_
      exact fe_34_153 hd hk_74 _ _ _ _ _ _ _ _ h
  · rw [if_neg c2] at h
    refine fs_if_eq_f (off := 12) (t := 134) (p := 125) (by decide +kernel) (by decide +kernel) rfl c2 ?_
    refine fs_bipush (n := 8) (p := 127) (by decide +kernel) rfl kb_8 ?_
    refine fs_iload (k := 4) (p := 129) (by decide +kernel) rfl rfl ?_
    refine fs_imul (p := 130) (by decide +kernel) rfl ?_
    refine fs_iload (k := 7) (p := 132) (by decide +kernel) rfl rfl ?_
    refine fs_iadd (p := 133) (by decide +kernel) rfl ?_
    have h := Option.some.inj h
    subst h
    exact fs_iret (by decide +kernel) rt_34
def fm_34_74 : Nat → Int32 → Int32 → fx_S → Option (Int32 × fx_S)
  | 0, _, _, _ => none
  | n + 1, x2, x4, σ =>
    if (σ.1 14 1) < x4 then (
      some ((-1 : Int32), σ)) else (
      (fm_83 x4 σ).bind fun q5 =>
      (fm_35 q5.1 x2 q5.2).bind fun q7 =>
      if ¬ q7.1 = (-1 : Int32) then (
        (fm_36 q7.2).bind fun q11 =>
        fm_34_118 (fm_34_74 n) x2 x4 q7.1 q11.1 q11.2) else (
        (fm_37 q5.1 q7.2).bind fun q13 =>
        fm_34_118 (fm_34_74 n) x2 x4 q7.1 q13.1 q13.2))
theorem fe_34_74 {z : iv_Z} {d : Nat} (hd : 1 ≤ d) : ∀ (n : Nat) (x2 : Int32) (x4 : Int32) (o3 : Option Value) (o5 : Option Value) (o6 : Option Value) (o7 : Option Value) (σ : fx_S) (q : Int32 × fx_S), fm_34_74 n x2 x4 σ = some q → fx_E z 34 d 74 [some (.ref 58), some (.ref 14), some (.int x2), o3, some (.int x4), o5, o6, o7] [] σ (some (.int q.1)) q.2 := by
  intro n
  induction n with
  | zero =>
    intro x2 x4 o3 o5 o6 o7 σ q  h
    rw [fm_34_74] at h
    exact fx_no h
  | succ n ih =>
    intro x2 x4 o3 o5 o6 o7 σ q  h
    rw [fm_34_74] at h
    refine fs_iload (k := 4) (p := 76) (by decide +kernel) rfl rfl ?_
    refine fs_aload_n (k := 1) (p := 77) (by decide +kernel) rfl rfl ?_
    refine fs_gfi (idx := 39) (ci := 8) (j := 1) (p := 80) (by decide +kernel) rfl (by decide +kernel) fo_14 ?_
    by_cases c3 : (σ.1 14 1) < x4
    · rw [if_pos c3] at h
      refine fs_icmp_gt_t (off := 79) (t := 159) (by decide +kernel) (by decide +kernel) c3 ?_
      refine fs_iconst (n := -1) (p := 160) (by decide +kernel) rfl kc_m1 ?_
      have h := Option.some.inj h
      subst h
      exact fs_iret (by decide +kernel) rt_34
    · rw [if_neg c3] at h
      refine fs_icmp_gt_f (off := 79) (t := 159) (p := 83) (by decide +kernel) (by decide +kernel) rfl c3 ?_
      refine fs_aload_n (k := 1) (p := 84) (by decide +kernel) rfl rfl ?_
      refine fs_iload (k := 4) (p := 86) (by decide +kernel) rfl rfl ?_
      obtain ⟨q5, w4, h⟩ := fx_bd h
      refine fs_callV (idx := 44) (mj := 83) (ci := 8) (na := 1) (mx := 2) (p := 89) (args := [.ref 14, .int x4]) (rest := []) (al2 := [some (.ref 14), some (.int x4)]) (by decide +kernel) rfl (by decide +kernel) fo_14 rfl rfl rfl rfl rfl rfl rfl (by omega) (fun d' hd' => fe_83 (by omega) w4) rfl ?_
      refine fs_istore (k := 5) (p := 91) (M := 8) (al' := [some (.ref 58), some (.ref 14), some (.int x2), o3, some (.int x4), some (.int q5.1), o6, o7]) (by decide +kernel) rfl mx_34 rfl rfl ?_
      refine fs_iload (k := 5) (p := 93) (by decide +kernel) rfl rfl ?_
      refine fs_iload_n (k := 2) (p := 94) (by decide +kernel) rfl rfl ?_
      obtain ⟨q7, w6, h⟩ := fx_bd h
      refine fs_callS (idx := 48) (mj := 35) (na := 2) (mx := 2) (p := 97) (args := [.int q5.1, .int x2]) (rest := []) (al2 := [some (.int q5.1), some (.int x2)]) (by decide +kernel) rfl (by decide +kernel) rfl rfl rfl rfl rfl rfl rfl (by omega) (fun d' hd' => fe_35 (by omega) w6) rfl ?_
      refine fs_istore (k := 6) (p := 99) (M := 8) (al' := [some (.ref 58), some (.ref 14), some (.int x2), o3, some (.int x4), some (.int q5.1), some (.int q7.1), o7]) (by decide +kernel) rfl mx_34 rfl rfl ?_
      refine fs_iload (k := 6) (p := 101) (by decide +kernel) rfl rfl ?_
      refine fs_iconst (n := -1) (p := 102) (by decide +kernel) rfl kc_m1 ?_
      by_cases c9 : ¬ q7.1 = (-1 : Int32)
      · rw [if_pos c9] at h
        refine fs_icmp_ne_t (off := 12) (t := 114) (by decide +kernel) (by decide +kernel) c9 ?_
        refine fs_aload_n (k := 0) (p := 115) (by decide +kernel) rfl rfl ?_
        obtain ⟨q11, w10, h⟩ := fx_bd h
        refine fs_callV (idx := 55) (mj := 36) (ci := 4) (na := 0) (mx := 1) (p := 118) (args := [.ref 58]) (rest := []) (al2 := [some (.ref 58)]) (by decide +kernel) rfl (by decide +kernel) fo_58 rfl rfl rfl rfl rfl rfl rfl (by omega) (fun d' hd' => fe_36 (by omega) w10) rfl ?_
        exact fe_34_118 hd ih _ _ _ _ _ _ _ _ _ h
      · rw [if_neg c9] at h
        refine fs_icmp_ne_f (off := 12) (t := 114) (p := 105) (by decide +kernel) (by decide +kernel) rfl c9 ?_
        refine fs_aload_n (k := 0) (p := 106) (by decide +kernel) rfl rfl ?_
        refine fs_iload (k := 5) (p := 108) (by decide +kernel) rfl rfl ?_
        obtain ⟨q13, w12, h⟩ := fx_bd h
        refine fs_callV (idx := 52) (mj := 37) (ci := 4) (na := 1) (mx := 2) (p := 111) (args := [.ref 58, .int q5.1]) (rest := []) (al2 := [some (.ref 58), some (.int q5.1)]) (by decide +kernel) rfl (by decide +kernel) fo_58 rfl rfl rfl rfl rfl rfl rfl (by omega) (fun d' hd' => fe_37 (by omega) w12) rfl ?_
        refine fs_goto (off := 7) (p := 118) (by decide +kernel) (by decide +kernel) ?_
        exact fe_34_118 hd ih _ _ _ _ _ _ _ _ _ h
def fm_34_58 (x2 : Int32) (s1 : Int32) (σ : fx_S) : Option (Int32 × fx_S) :=
  fm_34_74 100000 x2 (0 : Int32) (fx_w1 (fx_w1 (fx_w1 σ 58 4 s1) 58 1 (0 : Int32)) 58 3 (0 : Int32))
theorem fe_34_58 {z : iv_Z} {d : Nat} (hd : 1 ≤ d) (x2 : Int32) (s1 : Int32) (o3 : Option Value) (σ : fx_S) (q : Int32 × fx_S) (h : fm_34_58  x2 s1 σ = some q) : fx_E z 34 d 58 [some (.ref 58), some (.ref 14), some (.int x2), o3, none, none, none, none] [.int s1, .ref 58] σ (some (.int q.1)) q.2 := by
  unfold fm_34_58 at h
  refine fs_pfi (idx := 32) (ci := 4) (j := 4) (p := 61) (by decide +kernel) rfl (by decide +kernel) (by decide +kernel) fo_58 (fx_oki _ (by decide +kernel)) ?_
  refine fs_aload_n (k := 0) (p := 62) (by decide +kernel) rfl rfl ?_
  refine fs_iconst (n := 0) (p := 63) (by decide +kernel) rfl kc_0 ?_
  refine fs_pfi (idx := 35) (ci := 4) (j := 1) (p := 66) (by decide +kernel) rfl (by decide +kernel) (by decide +kernel) fo_58 (fx_oki _ (by decide +kernel)) ?_
  refine fs_aload_n (k := 0) (p := 67) (by decide +kernel) rfl rfl ?_
  refine fs_iconst (n := 0) (p := 68) (by decide +kernel) rfl kc_0 ?_
  refine fs_pfi (idx := 36) (ci := 4) (j := 3) (p := 71) (by decide +kernel) rfl (by decide +kernel) (by decide +kernel) fo_58 (fx_oki _ (by decide +kernel)) ?_
  refine fs_iconst (n := 0) (p := 72) (by decide +kernel) rfl kc_0 ?_
  refine fs_istore (k := 4) (p := 74) (M := 8) (al' := [some (.ref 58), some (.ref 14), some (.int x2), (fx_kl o3), some (.int (0 : Int32)), none, none, none]) (by decide +kernel) rfl mx_34 rfl rfl ?_
  exact fe_34_74 hd 100000 _ _ _ _ _ _ _ _ h
def fm_34_38 (x2 : Int32) (x3 : Nat) (s1 : Int32) (σ : fx_S) : Option (Int32 × fx_S) :=
  if ((fx_w1 σ 58 2 s1).1 58 6) = 0 then (
    fm_34_58 x2 (8 : Int32) (fx_w1 σ 58 2 s1)) else (
    fm_34_58 x2 ((fx_w1 σ 58 2 s1).1 x3 4) (fx_w1 σ 58 2 s1))
theorem fe_34_38 {z : iv_Z} {d : Nat} (hd : 1 ≤ d) (x2 : Int32) (x3 : Nat) (s1 : Int32) (σ : fx_S) (q : Int32 × fx_S) (g3 : fx_oc x3 6 = true) (h : fm_34_38  x2 x3 s1 σ = some q) : fx_E z 34 d 38 [some (.ref 58), some (.ref 14), some (.int x2), some (.ref x3), none, none, none, none] [.int s1, .ref 58] σ (some (.int q.1)) q.2 := by
  unfold fm_34_38 at h
  refine fs_pfi (idx := 28) (ci := 4) (j := 2) (p := 41) (by decide +kernel) rfl (by decide +kernel) (by decide +kernel) fo_58 (fx_oki _ (by decide +kernel)) ?_
  refine fs_aload_n (k := 0) (p := 42) (by decide +kernel) rfl rfl ?_
  refine fs_aload_n (k := 0) (p := 43) (by decide +kernel) rfl rfl ?_
  refine fs_gfi (idx := 15) (ci := 4) (j := 6) (p := 46) (by decide +kernel) rfl (by decide +kernel) fo_58 ?_
  by_cases c2 : ((fx_w1 σ 58 2 s1).1 58 6) = 0
  · rw [if_pos c2] at h
    refine fs_if_eq_t (off := 10) (t := 56) (by decide +kernel) (by decide +kernel) c2 ?_
    refine fs_bipush (n := 8) (p := 58) (by decide +kernel) rfl kb_8 ?_
    exact fe_34_58 hd _ _ _ _ _ h
  · rw [if_neg c2] at h
    refine fs_if_eq_f (off := 10) (t := 56) (p := 49) (by decide +kernel) (by decide +kernel) rfl c2 ?_
    refine fs_aload_n (k := 3) (p := 50) (by decide +kernel) rfl rfl ?_
    refine fs_gfi (idx := 29) (ci := 6) (j := 4) (p := 53) (by decide +kernel) rfl (by decide +kernel) g3 ?_
    refine fs_goto (off := 5) (p := 58) (by decide +kernel) (by decide +kernel) ?_
    exact fe_34_58 hd _ _ _ _ _ h
def fm_34_10 (x2 : Int32) (x3 : Nat) (s1 : Int32) (σ : fx_S) : Option (Int32 × fx_S) :=
  if s1 = 0 ∨ s1 = 1 then (
  if ((fx_w1 σ 58 6 s1).1 58 6) = 0 ∨ ((fx_w1 σ 58 6 s1).1 58 6) = 1 then (
  if ((fx_w1 (fx_w1 σ 58 6 s1) 58 5 ((fx_w1 σ 58 6 s1).1 58 6)).1 58 6) = 0 then (
    fm_34_38 x2 x3 (12 : Int32) (fx_w1 (fx_w1 σ 58 6 s1) 58 5 ((fx_w1 σ 58 6 s1).1 58 6))) else (
    fm_34_38 x2 x3 ((fx_w1 (fx_w1 σ 58 6 s1) 58 5 ((fx_w1 σ 58 6 s1).1 58 6)).1 x3 5) (fx_w1 (fx_w1 σ 58 6 s1) 58 5 ((fx_w1 σ 58 6 s1).1 58 6)))) else none) else none
theorem fe_34_10 {z : iv_Z} {d : Nat} (hd : 1 ≤ d) (x2 : Int32) (x3 : Nat) (s1 : Int32) (σ : fx_S) (q : Int32 × fx_S) (g3 : fx_oc x3 6 = true) (h : fm_34_10  x2 x3 s1 σ = some q) : fx_E z 34 d 10 [some (.ref 58), some (.ref 14), some (.int x2), some (.ref x3), none, none, none, none] [.int s1, .ref 58] σ (some (.int q.1)) q.2 := by
  unfold fm_34_10 at h
  obtain ⟨z1, h⟩ := fx_gd h
  refine fs_pfi (idx := 15) (ci := 4) (j := 6) (p := 13) (by decide +kernel) rfl (by decide +kernel) (by decide +kernel) fo_58 (fx_okd z1 (by decide +kernel)) ?_
  refine fs_aload_n (k := 0) (p := 14) (by decide +kernel) rfl rfl ?_
  refine fs_aload_n (k := 0) (p := 15) (by decide +kernel) rfl rfl ?_
  refine fs_gfi (idx := 15) (ci := 4) (j := 6) (p := 18) (by decide +kernel) rfl (by decide +kernel) fo_58 ?_
  obtain ⟨z3, h⟩ := fx_gd h
  refine fs_pfi (idx := 19) (ci := 4) (j := 5) (p := 21) (by decide +kernel) rfl (by decide +kernel) (by decide +kernel) fo_58 (fx_okd z3 (by decide +kernel)) ?_
  refine fs_aload_n (k := 0) (p := 22) (by decide +kernel) rfl rfl ?_
  refine fs_aload_n (k := 0) (p := 23) (by decide +kernel) rfl rfl ?_
  refine fs_gfi (idx := 15) (ci := 4) (j := 6) (p := 26) (by decide +kernel) rfl (by decide +kernel) fo_58 ?_
  by_cases c6 : ((fx_w1 (fx_w1 σ 58 6 s1) 58 5 ((fx_w1 σ 58 6 s1).1 58 6)).1 58 6) = 0
  · rw [if_pos c6] at h
    refine fs_if_eq_t (off := 10) (t := 36) (by decide +kernel) (by decide +kernel) c6 ?_
    refine fs_bipush (n := 12) (p := 38) (by decide +kernel) rfl kb_12 ?_
    exact fe_34_38 hd _ _ _ _ _ g3 h
  · rw [if_neg c6] at h
    refine fs_if_eq_f (off := 10) (t := 36) (p := 29) (by decide +kernel) (by decide +kernel) rfl c6 ?_
    refine fs_aload_n (k := 3) (p := 30) (by decide +kernel) rfl rfl ?_
    refine fs_gfi (idx := 22) (ci := 6) (j := 5) (p := 33) (by decide +kernel) rfl (by decide +kernel) g3 ?_
    refine fs_goto (off := 5) (p := 38) (by decide +kernel) (by decide +kernel) ?_
    exact fe_34_38 hd _ _ _ _ _ g3 h
def fm_34 (x2 : Int32) (x3 : Nat) (σ : fx_S) : Option (Int32 × fx_S) :=
  if fx_oc x3 6 = true then (
  if x2 = 0 then (
    fm_34_10 x2 x3 (0 : Int32) σ) else (
    fm_34_10 x2 x3 (1 : Int32) σ)) else none
theorem fe_34 {z : iv_Z} {d : Nat} (hd : 1 ≤ d) {x2 : Int32} {x3 : Nat} {σ : fx_S} {q : Int32 × fx_S} (h : fm_34 x2 x3 σ = some q) : fx_E z 34 d 0 [some (.ref 58), some (.ref 14), some (.int x2), some (.ref x3), none, none, none, none] [] σ (some (.int q.1)) q.2 := by
  unfold fm_34 at h
  obtain ⟨g3, h⟩ := fx_gd h
  refine fs_aload_n (k := 0) (p := 1) (by decide +kernel) rfl rfl ?_
  refine fs_iload_n (k := 2) (p := 2) (by decide +kernel) rfl rfl ?_
  by_cases c54 : x2 = 0
  · rw [if_pos c54] at h
    refine fs_if_eq_t (off := 7) (t := 9) (by decide +kernel) (by decide +kernel) c54 ?_
    refine fs_iconst (n := 0) (p := 10) (by decide +kernel) rfl kc_0 ?_
    exact fe_34_10 hd _ _ _ _ _ g3 h
  · rw [if_neg c54] at h
    refine fs_if_eq_f (off := 7) (t := 9) (p := 5) (by decide +kernel) (by decide +kernel) rfl c54 ?_
    refine fs_iconst (n := 1) (p := 6) (by decide +kernel) rfl kc_1 ?_
    refine fs_goto (off := 4) (p := 10) (by decide +kernel) (by decide +kernel) ?_
    exact fe_34_10 hd _ _ _ _ _ g3 h

/-! ZoneShares$Rounder.findWay(II)Z -/
theorem mx_46 : iv_mx 46 = 5 := by decide +kernel
theorem rt_46 : iv_rt 46 = some .boolean := by decide +kernel
def fm_46_92 (x2 : Int32) (σ : fx_S) : Option (Bool × fx_S) :=
  (fx_ld σ 12 x2).bind fun v1 =>
  if v1 = (-1 : Int32) then (
    some (false, σ)) else (
    some (true, σ))
theorem fe_46_92 {z : iv_Z} {d : Nat} (hd : 2 ≤ d) (x2 : Int32) (o1 : Option Value) (o3 : Option Value) (o4 : Option Value) (σ : fx_S) (q : Bool × fx_S) (h : fm_46_92  x2 σ = some q) : fx_E z 46 d 92 [some (.ref 6), o1, some (.int x2), o3, o4] [] σ (some (.int (fx_b q.1))) q.2 := by
  unfold fm_46_92 at h
  refine fs_aload_n (k := 0) (p := 93) (by decide +kernel) rfl rfl ?_
  refine fs_gfr (idx := 27) (ci := 5) (j := 5) (p := 96) (by decide +kernel) rfl (by decide +kernel) fo_6 (fr_a6_5) ?_
  refine fs_iload_n (k := 2) (p := 97) (by decide +kernel) rfl rfl ?_
  obtain ⟨v1, w2, h⟩ := fx_bd h
  refine fs_iaload (p := 98) (by decide +kernel) rfl w2 ?_
  refine fs_iconst (n := -1) (p := 99) (by decide +kernel) rfl kc_m1 ?_
  by_cases c5 : v1 = (-1 : Int32)
  · rw [if_pos c5] at h
    refine fs_icmp_eq_t (off := 7) (t := 106) (by decide +kernel) (by decide +kernel) c5 ?_
    refine fs_iconst (n := 0) (p := 107) (by decide +kernel) rfl kc_0 ?_
    have h := Option.some.inj h
    subst h
    exact fs_zret (b := false) (by decide +kernel) rt_46
  · rw [if_neg c5] at h
    refine fs_icmp_eq_f (off := 7) (t := 106) (p := 102) (by decide +kernel) (by decide +kernel) rfl c5 ?_
    refine fs_iconst (n := 1) (p := 103) (by decide +kernel) rfl kc_1 ?_
    refine fs_goto (off := 4) (p := 107) (by decide +kernel) (by decide +kernel) ?_
    have h := Option.some.inj h
    subst h
    exact fs_zret (b := true) (by decide +kernel) rt_46
def fm_46_86 (k_21 : Int32 → Int32 → fx_S → Option (Bool × fx_S)) (x2 : Int32) (x3 : Int32) (σ : fx_S) : Option (Bool × fx_S) :=
  k_21 x2 (x3 + (1 : Int32)) σ
theorem fe_46_86 {z : iv_Z} {d : Nat} (hd : 2 ≤ d) {k_21 : Int32 → Int32 → fx_S → Option (Bool × fx_S)} (hk_21 : ∀ (x2 : Int32) (x3 : Int32) (o1 : Option Value) (o4 : Option Value) (σ : fx_S) (q : Bool × fx_S), k_21 x2 x3 σ = some q → fx_E z 46 d 21 [some (.ref 6), o1, some (.int x2), some (.int x3), o4] [] σ (some (.int (fx_b q.1))) q.2) (x2 : Int32) (x3 : Int32) (o1 : Option Value) (o4 : Option Value) (σ : fx_S) (q : Bool × fx_S) (h : fm_46_86 k_21  x2 x3 σ = some q) : fx_E z 46 d 86 [some (.ref 6), o1, some (.int x2), some (.int x3), o4] [] σ (some (.int (fx_b q.1))) q.2 := by
  unfold fm_46_86 at h
  refine fs_iinc (k := 3) (n := 1) (p := 89) (M := 5) (al' := [some (.ref 6), o1, some (.int x2), some (.int (x3 + (1 : Int32))), o4]) (by decide +kernel) rfl kc_1 mx_46 rfl rfl rfl ?_
  refine fs_goto (off := -68) (p := 21) (by decide +kernel) (by decide +kernel) ?_
  exact hk_21 _ _ _ _ _ _ h
def fm_46_21 : Nat → Int32 → Int32 → fx_S → Option (Bool × fx_S)
  | 0, _, _, _ => none
  | n + 1, x2, x3, σ =>
    if (σ.1 6 7) ≤ x3 then (
      fm_46_92 x2 σ) else (
      (fx_ld σ 12 x2).bind fun v4 =>
      if ¬ v4 = (-1 : Int32) then (
        fm_46_92 x2 σ) else (
        (fx_ld σ 13 x3).bind fun v9 =>
        if (8 : Int32) ≤ v9 then (
          if (17 : Int32) ≤ v9 then (
            (fm_50 σ).bind fun q16 =>
            fm_46_86 (fm_46_21 n) x2 x3 q16) else (
            (fm_49 (v9 - (8 : Int32)) σ).bind fun q18 =>
            fm_46_86 (fm_46_21 n) x2 x3 q18)) else (
          (fm_48 v9 σ).bind fun q20 =>
          fm_46_86 (fm_46_21 n) x2 x3 q20)))
theorem fe_46_21 {z : iv_Z} {d : Nat} (hd : 2 ≤ d) : ∀ (n : Nat) (x2 : Int32) (x3 : Int32) (o1 : Option Value) (o4 : Option Value) (σ : fx_S) (q : Bool × fx_S), fm_46_21 n x2 x3 σ = some q → fx_E z 46 d 21 [some (.ref 6), o1, some (.int x2), some (.int x3), o4] [] σ (some (.int (fx_b q.1))) q.2 := by
  intro n
  induction n with
  | zero =>
    intro x2 x3 o1 o4 σ q  h
    rw [fm_46_21] at h
    exact fx_no h
  | succ n ih =>
    intro x2 x3 o1 o4 σ q  h
    rw [fm_46_21] at h
    refine fs_iload_n (k := 3) (p := 22) (by decide +kernel) rfl rfl ?_
    refine fs_aload_n (k := 0) (p := 23) (by decide +kernel) rfl rfl ?_
    refine fs_gfi (idx := 90) (ci := 5) (j := 7) (p := 26) (by decide +kernel) rfl (by decide +kernel) fo_6 ?_
    by_cases c3 : (σ.1 6 7) ≤ x3
    · rw [if_pos c3] at h
      refine fs_icmp_ge_t (off := 66) (t := 92) (by decide +kernel) (by decide +kernel) c3 ?_
      exact fe_46_92 hd _ _ _ _ _ _ h
    · rw [if_neg c3] at h
      refine fs_icmp_ge_f (off := 66) (t := 92) (p := 29) (by decide +kernel) (by decide +kernel) rfl c3 ?_
      refine fs_aload_n (k := 0) (p := 30) (by decide +kernel) rfl rfl ?_
      refine fs_gfr (idx := 27) (ci := 5) (j := 5) (p := 33) (by decide +kernel) rfl (by decide +kernel) fo_6 (fr_a6_5) ?_
      refine fs_iload_n (k := 2) (p := 34) (by decide +kernel) rfl rfl ?_
      obtain ⟨v4, w5, h⟩ := fx_bd h
      refine fs_iaload (p := 35) (by decide +kernel) rfl w5 ?_
      refine fs_iconst (n := -1) (p := 36) (by decide +kernel) rfl kc_m1 ?_
      by_cases c8 : ¬ v4 = (-1 : Int32)
      · rw [if_pos c8] at h
        refine fs_icmp_ne_t (off := 56) (t := 92) (by decide +kernel) (by decide +kernel) c8 ?_
        exact fe_46_92 hd _ _ _ _ _ _ h
      · rw [if_neg c8] at h
        refine fs_icmp_ne_f (off := 56) (t := 92) (p := 39) (by decide +kernel) (by decide +kernel) rfl c8 ?_
        refine fs_aload_n (k := 0) (p := 40) (by decide +kernel) rfl rfl ?_
        refine fs_gfr (idx := 30) (ci := 5) (j := 6) (p := 43) (by decide +kernel) rfl (by decide +kernel) fo_6 (fr_a6_6) ?_
        refine fs_iload_n (k := 3) (p := 44) (by decide +kernel) rfl rfl ?_
        obtain ⟨v9, w10, h⟩ := fx_bd h
        refine fs_iaload (p := 45) (by decide +kernel) rfl w10 ?_
        refine fs_istore (k := 4) (p := 47) (M := 5) (al' := [some (.ref 6), o1, some (.int x2), some (.int x3), some (.int v9)]) (by decide +kernel) rfl mx_46 rfl rfl ?_
        refine fs_iload (k := 4) (p := 49) (by decide +kernel) rfl rfl ?_
        refine fs_bipush (n := 8) (p := 51) (by decide +kernel) rfl kb_8 ?_
        by_cases c13 : (8 : Int32) ≤ v9
        · rw [if_pos c13] at h
          refine fs_icmp_ge_t (off := 12) (t := 63) (by decide +kernel) (by decide +kernel) c13 ?_
          refine fs_iload (k := 4) (p := 65) (by decide +kernel) rfl rfl ?_
          refine fs_bipush (n := 17) (p := 67) (by decide +kernel) rfl kb_17 ?_
          by_cases c14 : (17 : Int32) ≤ v9
          · rw [if_pos c14] at h
            refine fs_icmp_ge_t (off := 15) (t := 82) (by decide +kernel) (by decide +kernel) c14 ?_
            refine fs_aload_n (k := 0) (p := 83) (by decide +kernel) rfl rfl ?_
            obtain ⟨q16, w15, h⟩ := fx_bd h
            refine fs_callV (idx := 103) (mj := 50) (ci := 5) (na := 0) (mx := 2) (p := 86) (args := [.ref 6]) (rest := []) (al2 := [some (.ref 6), none]) (by decide +kernel) rfl (by decide +kernel) fo_6 rfl rfl rfl rfl rfl rfl rfl (by omega) (fun d' hd' => fe_50 (by omega) w15) rfl ?_
            exact fe_46_86 hd ih _ _ _ _ _ _ h
          · rw [if_neg c14] at h
            refine fs_icmp_ge_f (off := 15) (t := 82) (p := 70) (by decide +kernel) (by decide +kernel) rfl c14 ?_
            refine fs_aload_n (k := 0) (p := 71) (by decide +kernel) rfl rfl ?_
            refine fs_iload (k := 4) (p := 73) (by decide +kernel) rfl rfl ?_
            refine fs_bipush (n := 8) (p := 75) (by decide +kernel) rfl kb_8 ?_
            refine fs_isub (p := 76) (by decide +kernel) rfl ?_
            obtain ⟨q18, w17, h⟩ := fx_bd h
            refine fs_callV (idx := 100) (mj := 49) (ci := 5) (na := 1) (mx := 4) (p := 79) (args := [.ref 6, .int (v9 - (8 : Int32))]) (rest := []) (al2 := [some (.ref 6), some (.int (v9 - (8 : Int32))), none, none]) (by decide +kernel) rfl (by decide +kernel) fo_6 rfl rfl rfl rfl rfl rfl rfl (by omega) (fun d' hd' => fe_49 (by omega) w17) rfl ?_
            refine fs_goto (off := 7) (p := 86) (by decide +kernel) (by decide +kernel) ?_
            exact fe_46_86 hd ih _ _ _ _ _ _ h
        · rw [if_neg c13] at h
          refine fs_icmp_ge_f (off := 12) (t := 63) (p := 54) (by decide +kernel) (by decide +kernel) rfl c13 ?_
          refine fs_aload_n (k := 0) (p := 55) (by decide +kernel) rfl rfl ?_
          refine fs_iload (k := 4) (p := 57) (by decide +kernel) rfl rfl ?_
          obtain ⟨q20, w19, h⟩ := fx_bd h
          refine fs_callV (idx := 97) (mj := 48) (ci := 5) (na := 1) (mx := 4) (p := 60) (args := [.ref 6, .int v9]) (rest := []) (al2 := [some (.ref 6), some (.int v9), none, none]) (by decide +kernel) rfl (by decide +kernel) fo_6 rfl rfl rfl rfl rfl rfl rfl (by omega) (fun d' hd' => fe_48 (by omega) w19) rfl ?_
          refine fs_goto (off := 26) (p := 86) (by decide +kernel) (by decide +kernel) ?_
          exact fe_46_86 hd ih _ _ _ _ _ _ h
def fm_46 (x1 : Int32) (x2 : Int32) (σ : fx_S) : Option (Bool × fx_S) :=
  (fm_235 12 (-1 : Int32) σ).bind fun q56 =>
  (fm_47 x1 x1 (fx_w1 q56 6 7 (0 : Int32))).bind fun q58 =>
  fm_46_21 100000 x2 (0 : Int32) q58
theorem fe_46 {z : iv_Z} {d : Nat} (hd : 2 ≤ d) {x1 : Int32} {x2 : Int32} {σ : fx_S} {q : Bool × fx_S} (h : fm_46 x1 x2 σ = some q) : fx_E z 46 d 0 [some (.ref 6), some (.int x1), some (.int x2), none, none] [] σ (some (.int (fx_b q.1))) q.2 := by
  unfold fm_46 at h
  refine fs_aload_n (k := 0) (p := 1) (by decide +kernel) rfl rfl ?_
  refine fs_gfr (idx := 27) (ci := 5) (j := 5) (p := 4) (by decide +kernel) rfl (by decide +kernel) fo_6 (fr_a6_5) ?_
  refine fs_iconst (n := -1) (p := 5) (by decide +kernel) rfl kc_m1 ?_
  obtain ⟨q56, w55, h⟩ := fx_bd h
  refine fs_callS (idx := 84) (mj := 235) (na := 2) (mx := 4) (p := 8) (args := [.ref 12, .int (-1 : Int32)]) (rest := []) (al2 := [some (.ref 12), some (.int (-1 : Int32)), none, none]) (by decide +kernel) rfl (by decide +kernel) rfl rfl rfl rfl rfl rfl rfl (by omega) (fun d' hd' => fe_235 (by omega) w55) rfl ?_
  refine fs_aload_n (k := 0) (p := 9) (by decide +kernel) rfl rfl ?_
  refine fs_iconst (n := 0) (p := 10) (by decide +kernel) rfl kc_0 ?_
  refine fs_pfi (idx := 90) (ci := 5) (j := 7) (p := 13) (by decide +kernel) rfl (by decide +kernel) (by decide +kernel) fo_6 (fx_oki _ (by decide +kernel)) ?_
  refine fs_aload_n (k := 0) (p := 14) (by decide +kernel) rfl rfl ?_
  refine fs_iload_n (k := 1) (p := 15) (by decide +kernel) rfl rfl ?_
  refine fs_iload_n (k := 1) (p := 16) (by decide +kernel) rfl rfl ?_
  obtain ⟨q58, w57, h⟩ := fx_bd h
  refine fs_callV (idx := 94) (mj := 47) (ci := 5) (na := 2) (mx := 3) (p := 19) (args := [.ref 6, .int x1, .int x1]) (rest := []) (al2 := [some (.ref 6), some (.int x1), some (.int x1)]) (by decide +kernel) rfl (by decide +kernel) fo_6 rfl rfl rfl rfl rfl rfl rfl (by omega) (fun d' hd' => fe_47 (by omega) w57) rfl ?_
  refine fs_iconst (n := 0) (p := 20) (by decide +kernel) rfl kc_0 ?_
  refine fs_istore_n (k := 3) (p := 21) (M := 5) (al' := [some (.ref 6), some (.int x1), some (.int x2), some (.int (0 : Int32)), none]) (by decide +kernel) rfl mx_46 rfl rfl ?_
  exact fe_46_21 hd 100000 _ _ _ _ _ _ h

/-! ZoneShares$Rounder.turnWay(II)V -/
theorem mx_51 : iv_mx 51 = 5 := by decide +kernel
theorem rt_51 : iv_rt 51 = none := by decide +kernel
def fm_51_5 : Nat → Int32 → Int32 → Int32 → fx_S → Option (fx_S)
  | 0, _, _, _, _ => none
  | n + 1, x1, x3, x4, σ =>
    if (18 : Int32) ≤ x4 then (
      some σ) else (
      if x3 = x1 then (
        some σ) else (
        (fx_ld σ 12 x3).bind fun v6 =>
        (fm_52 v6 x3 σ).bind fun q10 =>
        (fx_ld q10 12 x3).bind fun v11 =>
        fm_51_5 n x1 v11 (x4 + (1 : Int32)) q10))
theorem fe_51_5 {z : iv_Z} {d : Nat} (hd : 1 ≤ d) : ∀ (n : Nat) (x1 : Int32) (x3 : Int32) (x4 : Int32) (o2 : Option Value) (σ : fx_S) (q : fx_S), fm_51_5 n x1 x3 x4 σ = some q → fx_E z 51 d 5 [some (.ref 6), some (.int x1), o2, some (.int x3), some (.int x4)] [] σ none q := by
  intro n
  induction n with
  | zero =>
    intro x1 x3 x4 o2 σ q  h
    rw [fm_51_5] at h
    exact fx_no h
  | succ n ih =>
    intro x1 x3 x4 o2 σ q  h
    rw [fm_51_5] at h
    refine fs_iload (k := 4) (p := 7) (by decide +kernel) rfl rfl ?_
    refine fs_bipush (n := 18) (p := 9) (by decide +kernel) rfl kb_18 ?_
    by_cases c2 : (18 : Int32) ≤ x4
    · rw [if_pos c2] at h
      refine fs_icmp_ge_t (off := 32) (t := 41) (by decide +kernel) (by decide +kernel) c2 ?_
      have h := Option.some.inj h
      subst h
      exact fs_ret (by decide +kernel) rt_51
    · rw [if_neg c2] at h
      refine fs_icmp_ge_f (off := 32) (t := 41) (p := 12) (by decide +kernel) (by decide +kernel) rfl c2 ?_
      refine fs_iload_n (k := 3) (p := 13) (by decide +kernel) rfl rfl ?_
      refine fs_iload_n (k := 1) (p := 14) (by decide +kernel) rfl rfl ?_
      by_cases c5 : x3 = x1
      · rw [if_pos c5] at h
        refine fs_icmp_eq_t (off := 27) (t := 41) (by decide +kernel) (by decide +kernel) c5 ?_
        have h := Option.some.inj h
        subst h
        exact fs_ret (by decide +kernel) rt_51
      · rw [if_neg c5] at h
        refine fs_icmp_eq_f (off := 27) (t := 41) (p := 17) (by decide +kernel) (by decide +kernel) rfl c5 ?_
        refine fs_aload_n (k := 0) (p := 18) (by decide +kernel) rfl rfl ?_
        refine fs_aload_n (k := 0) (p := 19) (by decide +kernel) rfl rfl ?_
        refine fs_gfr (idx := 27) (ci := 5) (j := 5) (p := 22) (by decide +kernel) rfl (by decide +kernel) fo_6 (fr_a6_5) ?_
        refine fs_iload_n (k := 3) (p := 23) (by decide +kernel) rfl rfl ?_
        obtain ⟨v6, w7, h⟩ := fx_bd h
        refine fs_iaload (p := 24) (by decide +kernel) rfl w7 ?_
        refine fs_iload_n (k := 3) (p := 25) (by decide +kernel) rfl rfl ?_
        obtain ⟨q10, w9, h⟩ := fx_bd h
        refine fs_callV (idx := 106) (mj := 52) (ci := 5) (na := 2) (mx := 3) (p := 28) (args := [.ref 6, .int v6, .int x3]) (rest := []) (al2 := [some (.ref 6), some (.int v6), some (.int x3)]) (by decide +kernel) rfl (by decide +kernel) fo_6 rfl rfl rfl rfl rfl rfl rfl (by omega) (fun d' hd' => fe_52 (by omega) w9) rfl ?_
        refine fs_aload_n (k := 0) (p := 29) (by decide +kernel) rfl rfl ?_
        refine fs_gfr (idx := 27) (ci := 5) (j := 5) (p := 32) (by decide +kernel) rfl (by decide +kernel) fo_6 (fr_a6_5) ?_
        refine fs_iload_n (k := 3) (p := 33) (by decide +kernel) rfl rfl ?_
        obtain ⟨v11, w12, h⟩ := fx_bd h
        refine fs_iaload (p := 34) (by decide +kernel) rfl w12 ?_
        refine fs_istore_n (k := 3) (p := 35) (M := 5) (al' := [some (.ref 6), some (.int x1), (fx_kl o2), some (.int v11), some (.int x4)]) (by decide +kernel) rfl mx_51 rfl rfl ?_
        refine fs_iinc (k := 4) (n := 1) (p := 38) (M := 5) (al' := [some (.ref 6), some (.int x1), (fx_kl o2), some (.int v11), some (.int (x4 + (1 : Int32)))]) (by decide +kernel) rfl kc_1 mx_51 rfl rfl rfl ?_
        refine fs_goto (off := -33) (p := 5) (by decide +kernel) (by decide +kernel) ?_
        exact ih _ _ _ _ _ _ h
def fm_51 (x1 : Int32) (x2 : Int32) (σ : fx_S) : Option (fx_S) :=
  fm_51_5 100000 x1 x2 (0 : Int32) σ
theorem fe_51 {z : iv_Z} {d : Nat} (hd : 1 ≤ d) {x1 : Int32} {x2 : Int32} {σ : fx_S} {q : fx_S} (h : fm_51 x1 x2 σ = some q) : fx_E z 51 d 0 [some (.ref 6), some (.int x1), some (.int x2), none, none] [] σ none q := by
  unfold fm_51 at h
  refine fs_iload_n (k := 2) (p := 1) (by decide +kernel) rfl rfl ?_
  refine fs_istore_n (k := 3) (p := 2) (M := 5) (al' := [some (.ref 6), some (.int x1), some (.int x2), some (.int x2), none]) (by decide +kernel) rfl mx_51 rfl rfl ?_
  refine fs_iconst (n := 0) (p := 3) (by decide +kernel) rfl kc_0 ?_
  refine fs_istore (k := 4) (p := 5) (M := 5) (al' := [some (.ref 6), some (.int x1), some (.int x2), some (.int x2), some (.int (0 : Int32))]) (by decide +kernel) rfl mx_51 rfl rfl ?_
  exact fe_51_5 hd 100000 _ _ _ _ _ _ h

/-! ZoneShares$Table.clear()V -/
theorem mx_68 : iv_mx 68 = 1 := by decide +kernel
theorem rt_68 : iv_rt 68 = none := by decide +kernel
def fm_68 (x0 : Nat) (σ : fx_S) : Option (fx_S) :=
  if fx_oc x0 7 = true then (
  (fm_235 (x0 + 1) (0 : Int32) σ).bind fun q8 =>
  (fm_235 (x0 + 4) (0 : Int32) q8).bind fun q10 =>
  (fm_235 (x0 + 5) (0 : Int32) q10).bind fun q12 =>
  some q12) else none
theorem fe_68 {z : iv_Z} {d : Nat} (hd : 1 ≤ d) {x0 : Nat} {σ : fx_S} {q : fx_S} (h : fm_68 x0 σ = some q) : fx_E z 68 d 0 [some (.ref x0)] [] σ none q := by
  unfold fm_68 at h
  obtain ⟨g0, h⟩ := fx_gd h
  refine fs_aload_n (k := 0) (p := 1) (by decide +kernel) rfl rfl ?_
  refine fs_gfr (idx := 9) (ci := 7) (j := 0) (p := 4) (by decide +kernel) rfl (by decide +kernel) g0 (fr_7_0 g0) ?_
  refine fs_iconst (n := 0) (p := 5) (by decide +kernel) rfl kc_0 ?_
  obtain ⟨q8, w7, h⟩ := fx_bd h
  refine fs_callS (idx := 36) (mj := 235) (na := 2) (mx := 4) (p := 8) (args := [.ref (x0 + 1), .int (0 : Int32)]) (rest := []) (al2 := [some (.ref (x0 + 1)), some (.int (0 : Int32)), none, none]) (by decide +kernel) rfl (by decide +kernel) rfl rfl rfl rfl rfl rfl rfl (by omega) (fun d' hd' => fe_235 (by omega) w7) rfl ?_
  refine fs_aload_n (k := 0) (p := 9) (by decide +kernel) rfl rfl ?_
  refine fs_gfr (idx := 21) (ci := 7) (j := 3) (p := 12) (by decide +kernel) rfl (by decide +kernel) g0 (fr_7_3 g0) ?_
  refine fs_iconst (n := 0) (p := 13) (by decide +kernel) rfl kc_0 ?_
  obtain ⟨q10, w9, h⟩ := fx_bd h
  refine fs_callS (idx := 36) (mj := 235) (na := 2) (mx := 4) (p := 16) (args := [.ref (x0 + 4), .int (0 : Int32)]) (rest := []) (al2 := [some (.ref (x0 + 4)), some (.int (0 : Int32)), none, none]) (by decide +kernel) rfl (by decide +kernel) rfl rfl rfl rfl rfl rfl rfl (by omega) (fun d' hd' => fe_235 (by omega) w9) rfl ?_
  refine fs_aload_n (k := 0) (p := 17) (by decide +kernel) rfl rfl ?_
  refine fs_gfr (idx := 24) (ci := 7) (j := 4) (p := 20) (by decide +kernel) rfl (by decide +kernel) g0 (fr_7_4 g0) ?_
  refine fs_iconst (n := 0) (p := 21) (by decide +kernel) rfl kc_0 ?_
  obtain ⟨q12, w11, h⟩ := fx_bd h
  refine fs_callS (idx := 36) (mj := 235) (na := 2) (mx := 4) (p := 24) (args := [.ref (x0 + 5), .int (0 : Int32)]) (rest := []) (al2 := [some (.ref (x0 + 5)), some (.int (0 : Int32)), none, none]) (by decide +kernel) rfl (by decide +kernel) rfl rfl rfl rfl rfl rfl rfl (by omega) (fun d' hd' => fe_235 (by omega) w11) rfl ?_
  have h := Option.some.inj h
  subst h
  exact fs_ret (by decide +kernel) rt_68

/-! ZoneShares$Table.cut()V -/
theorem mx_70 : iv_mx 70 = 3 := by decide +kernel
theorem rt_70 : iv_rt 70 = none := by decide +kernel
def fm_70_57 (k_2 : Nat → Int32 → fx_S → Option (fx_S)) (x0 : Nat) (x1 : Int32) (σ : fx_S) : Option (fx_S) :=
  (fm_72 (x0 + 4) x1 σ).bind fun q2 =>
  (fx_st q2.2 (x0 + 2) x1 q2.1).bind fun t3 =>
  (fx_ld t3 (x0 + 2) x1).bind fun v6 =>
  (fm_71 x0 x1 v6 t3).bind fun q9 =>
  k_2 x0 (x1 + (1 : Int32)) q9
theorem fe_70_57 {z : iv_Z} {d : Nat} (hd : 1 ≤ d) {k_2 : Nat → Int32 → fx_S → Option (fx_S)} (hk_2 : ∀ (x0 : Nat) (x1 : Int32) (o2 : Option Value) (σ : fx_S) (q : fx_S) (g0 : fx_oc x0 7 = true), k_2 x0 x1 σ = some q → fx_E z 70 d 2 [some (.ref x0), some (.int x1), o2] [] σ none q) (x0 : Nat) (x1 : Int32) (o2 : Option Value) (σ : fx_S) (q : fx_S) (g0 : fx_oc x0 7 = true) (h : fm_70_57 k_2  x0 x1 σ = some q) : fx_E z 70 d 57 [some (.ref x0), some (.int x1), o2] [] σ none q := by
  unfold fm_70_57 at h
  refine fs_aload_n (k := 0) (p := 58) (by decide +kernel) rfl rfl ?_
  refine fs_gfr (idx := 15) (ci := 7) (j := 1) (p := 61) (by decide +kernel) rfl (by decide +kernel) g0 (fr_7_1 g0) ?_
  refine fs_iload_n (k := 1) (p := 62) (by decide +kernel) rfl rfl ?_
  refine fs_aload_n (k := 0) (p := 63) (by decide +kernel) rfl rfl ?_
  refine fs_gfr (idx := 21) (ci := 7) (j := 3) (p := 66) (by decide +kernel) rfl (by decide +kernel) g0 (fr_7_3 g0) ?_
  refine fs_iload_n (k := 1) (p := 67) (by decide +kernel) rfl rfl ?_
  obtain ⟨q2, w1, h⟩ := fx_bd h
  refine fs_callS (idx := 42) (mj := 72) (na := 2) (mx := 4) (p := 70) (args := [.ref (x0 + 4), .int x1]) (rest := [.int x1, .ref (x0 + 2)]) (al2 := [some (.ref (x0 + 4)), some (.int x1), none, none]) (by decide +kernel) rfl (by decide +kernel) rfl rfl rfl rfl rfl rfl rfl (by omega) (fun d' hd' => fe_72 (by omega) w1) rfl ?_
  obtain ⟨t3, w4, h⟩ := fx_bd h
  refine fs_iastore (p := 71) (by decide +kernel) rfl w4 ?_
  refine fs_aload_n (k := 0) (p := 72) (by decide +kernel) rfl rfl ?_
  refine fs_iload_n (k := 1) (p := 73) (by decide +kernel) rfl rfl ?_
  refine fs_aload_n (k := 0) (p := 74) (by decide +kernel) rfl rfl ?_
  refine fs_gfr (idx := 15) (ci := 7) (j := 1) (p := 77) (by decide +kernel) rfl (by decide +kernel) g0 (fr_7_1 g0) ?_
  refine fs_iload_n (k := 1) (p := 78) (by decide +kernel) rfl rfl ?_
  obtain ⟨v6, w7, h⟩ := fx_bd h
  refine fs_iaload (p := 79) (by decide +kernel) rfl w7 ?_
  obtain ⟨q9, w8, h⟩ := fx_bd h
  refine fs_callV (idx := 52) (mj := 71) (ci := 7) (na := 2) (mx := 6) (p := 82) (args := [.ref x0, .int x1, .int v6]) (rest := []) (al2 := [some (.ref x0), some (.int x1), some (.int v6), none, none, none]) (by decide +kernel) rfl (by decide +kernel) g0 rfl rfl rfl rfl rfl rfl rfl (by omega) (fun d' hd' => fe_71 (by omega) w8) rfl ?_
  refine fs_iinc (k := 1) (n := 1) (p := 85) (M := 3) (al' := [some (.ref x0), some (.int (x1 + (1 : Int32))), o2]) (by decide +kernel) rfl kc_1 mx_70 rfl rfl rfl ?_
  refine fs_goto (off := -83) (p := 2) (by decide +kernel) (by decide +kernel) ?_
  exact hk_2 _ _ _ _ _ g0 h
def fm_70_31 (k_2 : Nat → Int32 → fx_S → Option (fx_S)) (x0 : Nat) (x1 : Int32) (x2 : Int32) (s0 : Nat) (s1 : Int32) (s2 : Int32) (σ : fx_S) : Option (fx_S) :=
  (fx_st σ s0 s1 s2).bind fun t1 =>
  if ¬ x2 = 0 then (
    fm_70_57 k_2 x0 x1 t1) else (
    (fx_cpy t1 (x0 + 5) (x1 * (9 : Int32)) (x0 + 4) (x1 * (9 : Int32)) (9 : Int32)).bind fun t7 =>
    fm_70_57 k_2 x0 x1 t7)
theorem fe_70_31 {z : iv_Z} {d : Nat} (hd : 1 ≤ d) {k_2 : Nat → Int32 → fx_S → Option (fx_S)} (hk_2 : ∀ (x0 : Nat) (x1 : Int32) (o2 : Option Value) (σ : fx_S) (q : fx_S) (g0 : fx_oc x0 7 = true), k_2 x0 x1 σ = some q → fx_E z 70 d 2 [some (.ref x0), some (.int x1), o2] [] σ none q) (x0 : Nat) (x1 : Int32) (x2 : Int32) (s0 : Nat) (s1 : Int32) (s2 : Int32) (σ : fx_S) (q : fx_S) (g0 : fx_oc x0 7 = true) (h : fm_70_31 k_2  x0 x1 x2 s0 s1 s2 σ = some q) : fx_E z 70 d 31 [some (.ref x0), some (.int x1), some (.int x2)] [.int s2, .int s1, .ref s0] σ none q := by
  unfold fm_70_31 at h
  obtain ⟨t1, w2, h⟩ := fx_bd h
  refine fs_iastore (p := 32) (by decide +kernel) rfl w2 ?_
  refine fs_iload_n (k := 2) (p := 33) (by decide +kernel) rfl rfl ?_
  by_cases c6 : ¬ x2 = 0
  · rw [if_pos c6] at h
    refine fs_if_ne_t (off := 24) (t := 57) (by decide +kernel) (by decide +kernel) c6 ?_
    exact fe_70_57 hd hk_2 _ _ _ _ _ g0 h
  · rw [if_neg c6] at h
    refine fs_if_ne_f (off := 24) (t := 57) (p := 36) (by decide +kernel) (by decide +kernel) rfl c6 ?_
    refine fs_aload_n (k := 0) (p := 37) (by decide +kernel) rfl rfl ?_
    refine fs_gfr (idx := 24) (ci := 7) (j := 4) (p := 40) (by decide +kernel) rfl (by decide +kernel) g0 (fr_7_4 g0) ?_
    refine fs_iload_n (k := 1) (p := 41) (by decide +kernel) rfl rfl ?_
    refine fs_bipush (n := 9) (p := 43) (by decide +kernel) rfl kb_9 ?_
    refine fs_imul (p := 44) (by decide +kernel) rfl ?_
    refine fs_aload_n (k := 0) (p := 45) (by decide +kernel) rfl rfl ?_
    refine fs_gfr (idx := 21) (ci := 7) (j := 3) (p := 48) (by decide +kernel) rfl (by decide +kernel) g0 (fr_7_3 g0) ?_
    refine fs_iload_n (k := 1) (p := 49) (by decide +kernel) rfl rfl ?_
    refine fs_bipush (n := 9) (p := 51) (by decide +kernel) rfl kb_9 ?_
    refine fs_imul (p := 52) (by decide +kernel) rfl ?_
    refine fs_bipush (n := 9) (p := 54) (by decide +kernel) rfl kb_9 ?_
    obtain ⟨t7, w8, h⟩ := fx_bd h
    refine fs_cpy (idx := 46) (p := 57) (by decide +kernel) rfl (by decide +kernel) rfl w8 ?_
    exact fe_70_57 hd hk_2 _ _ _ _ _ g0 h
def fm_70_2 : Nat → Nat → Int32 → fx_S → Option (fx_S)
  | 0, _, _, _ => none
  | n + 1, x0, x1, σ =>
    if (8 : Int32) ≤ x1 then (
      some σ) else (
      (fm_72 (x0 + 4) x1 σ).bind fun q4 =>
      if ¬ q4.1 = 0 then (
        fm_70_31 (fm_70_2 n) x0 x1 q4.1 (x0 + 3) x1 (0 : Int32) q4.2) else (
        fm_70_31 (fm_70_2 n) x0 x1 q4.1 (x0 + 3) x1 (1 : Int32) q4.2))
theorem fe_70_2 {z : iv_Z} {d : Nat} (hd : 1 ≤ d) : ∀ (n : Nat) (x0 : Nat) (x1 : Int32) (o2 : Option Value) (σ : fx_S) (q : fx_S) (g0 : fx_oc x0 7 = true), fm_70_2 n x0 x1 σ = some q → fx_E z 70 d 2 [some (.ref x0), some (.int x1), o2] [] σ none q := by
  intro n
  induction n with
  | zero =>
    intro x0 x1 o2 σ q g0 h
    rw [fm_70_2] at h
    exact fx_no h
  | succ n ih =>
    intro x0 x1 o2 σ q g0 h
    rw [fm_70_2] at h
    refine fs_iload_n (k := 1) (p := 3) (by decide +kernel) rfl rfl ?_
    refine fs_bipush (n := 8) (p := 5) (by decide +kernel) rfl kb_8 ?_
    by_cases c2 : (8 : Int32) ≤ x1
    · rw [if_pos c2] at h
      refine fs_icmp_ge_t (off := 83) (t := 88) (by decide +kernel) (by decide +kernel) c2 ?_
      have h := Option.some.inj h
      subst h
      exact fs_ret (by decide +kernel) rt_70
    · rw [if_neg c2] at h
      refine fs_icmp_ge_f (off := 83) (t := 88) (p := 8) (by decide +kernel) (by decide +kernel) rfl c2 ?_
      refine fs_aload_n (k := 0) (p := 9) (by decide +kernel) rfl rfl ?_
      refine fs_gfr (idx := 21) (ci := 7) (j := 3) (p := 12) (by decide +kernel) rfl (by decide +kernel) g0 (fr_7_3 g0) ?_
      refine fs_iload_n (k := 1) (p := 13) (by decide +kernel) rfl rfl ?_
      obtain ⟨q4, w3, h⟩ := fx_bd h
      refine fs_callS (idx := 42) (mj := 72) (na := 2) (mx := 4) (p := 16) (args := [.ref (x0 + 4), .int x1]) (rest := []) (al2 := [some (.ref (x0 + 4)), some (.int x1), none, none]) (by decide +kernel) rfl (by decide +kernel) rfl rfl rfl rfl rfl rfl rfl (by omega) (fun d' hd' => fe_72 (by omega) w3) rfl ?_
      refine fs_istore_n (k := 2) (p := 17) (M := 3) (al' := [some (.ref x0), some (.int x1), some (.int q4.1)]) (by decide +kernel) rfl mx_70 rfl rfl ?_
      refine fs_aload_n (k := 0) (p := 18) (by decide +kernel) rfl rfl ?_
      refine fs_gfr (idx := 18) (ci := 7) (j := 2) (p := 21) (by decide +kernel) rfl (by decide +kernel) g0 (fr_7_2 g0) ?_
      refine fs_iload_n (k := 1) (p := 22) (by decide +kernel) rfl rfl ?_
      refine fs_iload_n (k := 2) (p := 23) (by decide +kernel) rfl rfl ?_
      by_cases c6 : ¬ q4.1 = 0
      · rw [if_pos c6] at h
        refine fs_if_ne_t (off := 7) (t := 30) (by decide +kernel) (by decide +kernel) c6 ?_
        refine fs_iconst (n := 0) (p := 31) (by decide +kernel) rfl kc_0 ?_
        exact fe_70_31 hd ih _ _ _ _ _ _ _ _ g0 h
      · rw [if_neg c6] at h
        refine fs_if_ne_f (off := 7) (t := 30) (p := 26) (by decide +kernel) (by decide +kernel) rfl c6 ?_
        refine fs_iconst (n := 1) (p := 27) (by decide +kernel) rfl kc_1 ?_
        refine fs_goto (off := 4) (p := 31) (by decide +kernel) (by decide +kernel) ?_
        exact fe_70_31 hd ih _ _ _ _ _ _ _ _ g0 h
def fm_70 (x0 : Nat) (σ : fx_S) : Option (fx_S) :=
  if fx_oc x0 7 = true then (
  fm_70_2 100000 x0 (0 : Int32) σ) else none
theorem fe_70 {z : iv_Z} {d : Nat} (hd : 1 ≤ d) {x0 : Nat} {σ : fx_S} {q : fx_S} (h : fm_70 x0 σ = some q) : fx_E z 70 d 0 [some (.ref x0), none, none] [] σ none q := by
  unfold fm_70 at h
  obtain ⟨g0, h⟩ := fx_gd h
  refine fs_iconst (n := 0) (p := 1) (by decide +kernel) rfl kc_0 ?_
  refine fs_istore_n (k := 1) (p := 2) (M := 3) (al' := [some (.ref x0), some (.int (0 : Int32)), none]) (by decide +kernel) rfl mx_70 rfl rfl ?_
  exact fe_70_2 hd 100000 _ _ _ _ _ g0 h

/-! ZoneShares$Table.giveByRests()V -/
theorem mx_74 : iv_mx 74 = 4 := by decide +kernel
theorem rt_74 : iv_rt 74 = none := by decide +kernel
def fm_74_38 (k_2 : Nat → Int32 → fx_S → Option (fx_S)) (x0 : Nat) (x1 : Int32) (σ : fx_S) : Option (fx_S) :=
  k_2 x0 (x1 + (1 : Int32)) σ
theorem fe_74_38 {z : iv_Z} {d : Nat} (hd : 2 ≤ d) {k_2 : Nat → Int32 → fx_S → Option (fx_S)} (hk_2 : ∀ (x0 : Nat) (x1 : Int32) (o2 : Option Value) (o3 : Option Value) (σ : fx_S) (q : fx_S) (g0 : fx_oc x0 7 = true), k_2 x0 x1 σ = some q → fx_E z 74 d 2 [some (.ref x0), some (.int x1), o2, o3] [] σ none q) (x0 : Nat) (x1 : Int32) (o2 : Option Value) (o3 : Option Value) (σ : fx_S) (q : fx_S) (g0 : fx_oc x0 7 = true) (h : fm_74_38 k_2  x0 x1 σ = some q) : fx_E z 74 d 38 [some (.ref x0), some (.int x1), o2, o3] [] σ none q := by
  unfold fm_74_38 at h
  refine fs_iinc (k := 1) (n := 1) (p := 41) (M := 4) (al' := [some (.ref x0), some (.int (x1 + (1 : Int32))), o2, o3]) (by decide +kernel) rfl kc_1 mx_74 rfl rfl rfl ?_
  refine fs_goto (off := -39) (p := 2) (by decide +kernel) (by decide +kernel) ?_
  exact hk_2 _ _ _ _ _ _ g0 h
def fm_74_16 (k_2 : Nat → Int32 → fx_S → Option (fx_S)) : Nat → Nat → Int32 → Int32 → Int32 → fx_S → Option (fx_S)
  | 0, _, _, _, _, _ => none
  | n + 1, x0, x1, x2, x3, σ =>
    if (9 : Int32) ≤ x3 then (
      fm_74_38 k_2 x0 x1 σ) else (
      if x2 ≤ x3 then (
        fm_74_38 k_2 x0 x1 σ) else (
        (fm_75 x0 x1 σ).bind fun q6 =>
        fm_74_16 k_2 n x0 x1 x2 (x3 + (1 : Int32)) q6))
theorem fe_74_16 {z : iv_Z} {d : Nat} (hd : 2 ≤ d) {k_2 : Nat → Int32 → fx_S → Option (fx_S)} (hk_2 : ∀ (x0 : Nat) (x1 : Int32) (o2 : Option Value) (o3 : Option Value) (σ : fx_S) (q : fx_S) (g0 : fx_oc x0 7 = true), k_2 x0 x1 σ = some q → fx_E z 74 d 2 [some (.ref x0), some (.int x1), o2, o3] [] σ none q) : ∀ (n : Nat) (x0 : Nat) (x1 : Int32) (x2 : Int32) (x3 : Int32) (σ : fx_S) (q : fx_S) (g0 : fx_oc x0 7 = true), fm_74_16 k_2 n x0 x1 x2 x3 σ = some q → fx_E z 74 d 16 [some (.ref x0), some (.int x1), some (.int x2), some (.int x3)] [] σ none q := by
  intro n
  induction n with
  | zero =>
    intro x0 x1 x2 x3 σ q g0 h
    rw [fm_74_16] at h
    exact fx_no h
  | succ n ih =>
    intro x0 x1 x2 x3 σ q g0 h
    rw [fm_74_16] at h
    refine fs_iload_n (k := 3) (p := 17) (by decide +kernel) rfl rfl ?_
    refine fs_bipush (n := 9) (p := 19) (by decide +kernel) rfl kb_9 ?_
    by_cases c2 : (9 : Int32) ≤ x3
    · rw [if_pos c2] at h
      refine fs_icmp_ge_t (off := 19) (t := 38) (by decide +kernel) (by decide +kernel) c2 ?_
      exact fe_74_38 hd hk_2 _ _ _ _ _ _ g0 h
    · rw [if_neg c2] at h
      refine fs_icmp_ge_f (off := 19) (t := 38) (p := 22) (by decide +kernel) (by decide +kernel) rfl c2 ?_
      refine fs_iload_n (k := 3) (p := 23) (by decide +kernel) rfl rfl ?_
      refine fs_iload_n (k := 2) (p := 24) (by decide +kernel) rfl rfl ?_
      by_cases c4 : x2 ≤ x3
      · rw [if_pos c4] at h
        refine fs_icmp_ge_t (off := 14) (t := 38) (by decide +kernel) (by decide +kernel) c4 ?_
        exact fe_74_38 hd hk_2 _ _ _ _ _ _ g0 h
      · rw [if_neg c4] at h
        refine fs_icmp_ge_f (off := 14) (t := 38) (p := 27) (by decide +kernel) (by decide +kernel) rfl c4 ?_
        refine fs_aload_n (k := 0) (p := 28) (by decide +kernel) rfl rfl ?_
        refine fs_iload_n (k := 1) (p := 29) (by decide +kernel) rfl rfl ?_
        obtain ⟨q6, w5, h⟩ := fx_bd h
        refine fs_callV (idx := 60) (mj := 75) (ci := 7) (na := 1) (mx := 5) (p := 32) (args := [.ref x0, .int x1]) (rest := []) (al2 := [some (.ref x0), some (.int x1), none, none, none]) (by decide +kernel) rfl (by decide +kernel) g0 rfl rfl rfl rfl rfl rfl rfl (by omega) (fun d' hd' => fe_75 (by omega) w5) rfl ?_
        refine fs_iinc (k := 3) (n := 1) (p := 35) (M := 4) (al' := [some (.ref x0), some (.int x1), some (.int x2), some (.int (x3 + (1 : Int32)))]) (by decide +kernel) rfl kc_1 mx_74 rfl rfl rfl ?_
        refine fs_goto (off := -19) (p := 16) (by decide +kernel) (by decide +kernel) ?_
        exact ih _ _ _ _ _ _ g0 h
def fm_74_2 : Nat → Nat → Int32 → fx_S → Option (fx_S)
  | 0, _, _, _ => none
  | n + 1, x0, x1, σ =>
    if (8 : Int32) ≤ x1 then (
      some σ) else (
      (fm_73 x0 x1 σ).bind fun q4 =>
      fm_74_16 (fm_74_2 n) 100000 x0 x1 q4.1 (0 : Int32) q4.2)
theorem fe_74_2 {z : iv_Z} {d : Nat} (hd : 2 ≤ d) : ∀ (n : Nat) (x0 : Nat) (x1 : Int32) (o2 : Option Value) (o3 : Option Value) (σ : fx_S) (q : fx_S) (g0 : fx_oc x0 7 = true), fm_74_2 n x0 x1 σ = some q → fx_E z 74 d 2 [some (.ref x0), some (.int x1), o2, o3] [] σ none q := by
  intro n
  induction n with
  | zero =>
    intro x0 x1 o2 o3 σ q g0 h
    rw [fm_74_2] at h
    exact fx_no h
  | succ n ih =>
    intro x0 x1 o2 o3 σ q g0 h
    rw [fm_74_2] at h
    refine fs_iload_n (k := 1) (p := 3) (by decide +kernel) rfl rfl ?_
    refine fs_bipush (n := 8) (p := 5) (by decide +kernel) rfl kb_8 ?_
    by_cases c2 : (8 : Int32) ≤ x1
    · rw [if_pos c2] at h
      refine fs_icmp_ge_t (off := 39) (t := 44) (by decide +kernel) (by decide +kernel) c2 ?_
      have h := Option.some.inj h
      subst h
      exact fs_ret (by decide +kernel) rt_74
    · rw [if_neg c2] at h
      refine fs_icmp_ge_f (off := 39) (t := 44) (p := 8) (by decide +kernel) (by decide +kernel) rfl c2 ?_
      refine fs_aload_n (k := 0) (p := 9) (by decide +kernel) rfl rfl ?_
      refine fs_iload_n (k := 1) (p := 10) (by decide +kernel) rfl rfl ?_
      obtain ⟨q4, w3, h⟩ := fx_bd h
      refine fs_callV (idx := 56) (mj := 73) (ci := 7) (na := 1) (mx := 2) (p := 13) (args := [.ref x0, .int x1]) (rest := []) (al2 := [some (.ref x0), some (.int x1)]) (by decide +kernel) rfl (by decide +kernel) g0 rfl rfl rfl rfl rfl rfl rfl (by omega) (fun d' hd' => fe_73 (by omega) w3) rfl ?_
      refine fs_istore_n (k := 2) (p := 14) (M := 4) (al' := [some (.ref x0), some (.int x1), some (.int q4.1), o3]) (by decide +kernel) rfl mx_74 rfl rfl ?_
      refine fs_iconst (n := 0) (p := 15) (by decide +kernel) rfl kc_0 ?_
      refine fs_istore_n (k := 3) (p := 16) (M := 4) (al' := [some (.ref x0), some (.int x1), some (.int q4.1), some (.int (0 : Int32))]) (by decide +kernel) rfl mx_74 rfl rfl ?_
      exact fe_74_16 hd ih 100000 _ _ _ _ _ _ g0 h
def fm_74 (x0 : Nat) (σ : fx_S) : Option (fx_S) :=
  if fx_oc x0 7 = true then (
  fm_74_2 100000 x0 (0 : Int32) σ) else none
theorem fe_74 {z : iv_Z} {d : Nat} (hd : 2 ≤ d) {x0 : Nat} {σ : fx_S} {q : fx_S} (h : fm_74 x0 σ = some q) : fx_E z 74 d 0 [some (.ref x0), none, none, none] [] σ none q := by
  unfold fm_74 at h
  obtain ⟨g0, h⟩ := fx_gd h
  refine fs_iconst (n := 0) (p := 1) (by decide +kernel) rfl kc_0 ?_
  refine fs_istore_n (k := 1) (p := 2) (M := 4) (al' := [some (.ref x0), some (.int (0 : Int32)), none, none]) (by decide +kernel) rfl mx_74 rfl rfl ?_
  exact fe_74_2 hd 100000 _ _ _ _ _ _ g0 h

/-! ZoneShares$Table.common()J -/
theorem mx_78 : iv_mx 78 = 6 := by decide +kernel
theorem rt_78 : iv_rt 78 = some .long := by decide +kernel
def fm_78_52 (k_4 : Nat → Int64 → Int32 → fx_S → Option (Int64 × fx_S)) (x0 : Nat) (x1 : Int64) (x3 : Int32) (σ : fx_S) : Option (Int64 × fx_S) :=
  k_4 x0 x1 (x3 + (1 : Int32)) σ
theorem fe_78_52 {z : iv_Z} {d : Nat} (hd : 1 ≤ d) {k_4 : Nat → Int64 → Int32 → fx_S → Option (Int64 × fx_S)} (hk_4 : ∀ (x0 : Nat) (x1 : Int64) (x3 : Int32) (o4 : Option Value) (σ : fx_S) (q : Int64 × fx_S) (g0 : fx_oc x0 7 = true), k_4 x0 x1 x3 σ = some q → fx_E z 78 d 4 [some (.ref x0), some (.long x1), none, some (.int x3), o4, none] [] σ (some (.long q.1)) q.2) (x0 : Nat) (x1 : Int64) (x3 : Int32) (o4 : Option Value) (σ : fx_S) (q : Int64 × fx_S) (g0 : fx_oc x0 7 = true) (h : fm_78_52 k_4  x0 x1 x3 σ = some q) : fx_E z 78 d 52 [some (.ref x0), some (.long x1), none, some (.int x3), o4, none] [] σ (some (.long q.1)) q.2 := by
  unfold fm_78_52 at h
  refine fs_iinc (k := 3) (n := 1) (p := 55) (M := 6) (al' := [some (.ref x0), some (.long x1), none, some (.int (x3 + (1 : Int32))), o4, none]) (by decide +kernel) rfl kc_1 mx_78 rfl rfl rfl ?_
  refine fs_goto (off := -51) (p := 4) (by decide +kernel) (by decide +kernel) ?_
  exact hk_4 _ _ _ _ _ _ g0 h
def fm_78_4 : Nat → Nat → Int64 → Int32 → fx_S → Option (Int64 × fx_S)
  | 0, _, _, _, _ => none
  | n + 1, x0, x1, x3, σ =>
    if (8 : Int32) ≤ x3 then (
      some (x1, σ)) else (
      (fx_ld σ (x0 + 2) x3).bind fun v3 =>
      (fm_128 x1 (v3).toInt64 σ).bind fun q8 =>
      (fx_ld q8.2 (x0 + 2) x3).bind fun v9 =>
      if v9 ≤ 0 then (
        fm_78_52 (fm_78_4 n) x0 x1 x3 q8.2) else (
        if q8.1 ≤ (0 : Int64) then (
          fm_78_52 (fm_78_4 n) x0 x1 x3 q8.2) else (
          if ¬ q8.1 = 0 then (
          (fx_ld q8.2 (x0 + 2) x3).bind fun v17 =>
          fm_78_52 (fm_78_4 n) x0 ((x1 / q8.1) * (v17).toInt64) x3 q8.2) else none)))
theorem fe_78_4 {z : iv_Z} {d : Nat} (hd : 1 ≤ d) : ∀ (n : Nat) (x0 : Nat) (x1 : Int64) (x3 : Int32) (o4 : Option Value) (σ : fx_S) (q : Int64 × fx_S) (g0 : fx_oc x0 7 = true), fm_78_4 n x0 x1 x3 σ = some q → fx_E z 78 d 4 [some (.ref x0), some (.long x1), none, some (.int x3), o4, none] [] σ (some (.long q.1)) q.2 := by
  intro n
  induction n with
  | zero =>
    intro x0 x1 x3 o4 σ q g0 h
    rw [fm_78_4] at h
    exact fx_no h
  | succ n ih =>
    intro x0 x1 x3 o4 σ q g0 h
    rw [fm_78_4] at h
    refine fs_iload_n (k := 3) (p := 5) (by decide +kernel) rfl rfl ?_
    refine fs_bipush (n := 8) (p := 7) (by decide +kernel) rfl kb_8 ?_
    by_cases c2 : (8 : Int32) ≤ x3
    · rw [if_pos c2] at h
      refine fs_icmp_ge_t (off := 51) (t := 58) (by decide +kernel) (by decide +kernel) c2 ?_
      refine fs_lload_n (k := 1) (p := 59) (by decide +kernel) rfl rfl ?_
      have h := Option.some.inj h
      subst h
      exact fs_lret (by decide +kernel) rt_78
    · rw [if_neg c2] at h
      refine fs_icmp_ge_f (off := 51) (t := 58) (p := 10) (by decide +kernel) (by decide +kernel) rfl c2 ?_
      refine fs_lload_n (k := 1) (p := 11) (by decide +kernel) rfl rfl ?_
      refine fs_aload_n (k := 0) (p := 12) (by decide +kernel) rfl rfl ?_
      refine fs_gfr (idx := 15) (ci := 7) (j := 1) (p := 15) (by decide +kernel) rfl (by decide +kernel) g0 (fr_7_1 g0) ?_
      refine fs_iload_n (k := 3) (p := 16) (by decide +kernel) rfl rfl ?_
      obtain ⟨v3, w4, h⟩ := fx_bd h
      refine fs_iaload (p := 17) (by decide +kernel) rfl w4 ?_
      refine fs_i2l (p := 18) (by decide +kernel) rfl ?_
      obtain ⟨q8, w7, h⟩ := fx_bd h
      refine fs_callS (idx := 64) (mj := 128) (na := 2) (mx := 11) (p := 21) (args := [.long x1, .long (v3).toInt64]) (rest := []) (al2 := [some (.long x1), none, some (.long (v3).toInt64), none, none, none, none, none, none, none, none]) (by decide +kernel) rfl (by decide +kernel) rfl rfl rfl rfl rfl rfl rfl (by omega) (fun d' hd' => fe_128 (by omega) w7) rfl ?_
      refine fs_lstore (k := 4) (p := 23) (M := 6) (al' := [some (.ref x0), some (.long x1), none, some (.int x3), some (.long q8.1), none]) (by decide +kernel) rfl mx_78 rfl rfl ?_
      refine fs_aload_n (k := 0) (p := 24) (by decide +kernel) rfl rfl ?_
      refine fs_gfr (idx := 15) (ci := 7) (j := 1) (p := 27) (by decide +kernel) rfl (by decide +kernel) g0 (fr_7_1 g0) ?_
      refine fs_iload_n (k := 3) (p := 28) (by decide +kernel) rfl rfl ?_
      obtain ⟨v9, w10, h⟩ := fx_bd h
      refine fs_iaload (p := 29) (by decide +kernel) rfl w10 ?_
      by_cases c12 : v9 ≤ 0
      · rw [if_pos c12] at h
        refine fs_if_le_t (off := 23) (t := 52) (by decide +kernel) (by decide +kernel) c12 ?_
        exact fe_78_52 hd ih _ _ _ _ _ _ g0 h
      · rw [if_neg c12] at h
        refine fs_if_le_f (off := 23) (t := 52) (p := 32) (by decide +kernel) (by decide +kernel) rfl c12 ?_
        refine fs_lload (k := 4) (p := 34) (by decide +kernel) rfl rfl ?_
        refine fs_lconst (n := 0) (p := 35) (by decide +kernel) rfl kl_0 ?_
        by_cases c14 : q8.1 ≤ (0 : Int64)
        · rw [if_pos c14] at h
          refine fs_lcmp_le_t (off := 16) (t := 52) (by decide +kernel) (by decide +kernel) (by decide +kernel) c14 ?_
          exact fe_78_52 hd ih _ _ _ _ _ _ g0 h
        · rw [if_neg c14] at h
          refine fs_lcmp_le_f (off := 16) (t := 52) (p := 39) (by decide +kernel) (by decide +kernel) (by decide +kernel) rfl c14 ?_
          refine fs_lload_n (k := 1) (p := 40) (by decide +kernel) rfl rfl ?_
          refine fs_lload (k := 4) (p := 42) (by decide +kernel) rfl rfl ?_
          obtain ⟨z16, h⟩ := fx_gd h
          refine fs_ldiv (p := 43) (by decide +kernel) rfl z16 ?_
          refine fs_aload_n (k := 0) (p := 44) (by decide +kernel) rfl rfl ?_
          refine fs_gfr (idx := 15) (ci := 7) (j := 1) (p := 47) (by decide +kernel) rfl (by decide +kernel) g0 (fr_7_1 g0) ?_
          refine fs_iload_n (k := 3) (p := 48) (by decide +kernel) rfl rfl ?_
          obtain ⟨v17, w18, h⟩ := fx_bd h
          refine fs_iaload (p := 49) (by decide +kernel) rfl w18 ?_
          refine fs_i2l (p := 50) (by decide +kernel) rfl ?_
          refine fs_lmul (p := 51) (by decide +kernel) rfl ?_
          refine fs_lstore_n (k := 1) (p := 52) (M := 6) (al' := [some (.ref x0), some (.long ((x1 / q8.1) * (v17).toInt64)), none, some (.int x3), some (.long q8.1), none]) (by decide +kernel) rfl mx_78 rfl rfl ?_
          exact fe_78_52 hd ih _ _ _ _ _ _ g0 h
def fm_78 (x0 : Nat) (σ : fx_S) : Option (Int64 × fx_S) :=
  if fx_oc x0 7 = true then (
  fm_78_4 100000 x0 (1 : Int64) (0 : Int32) σ) else none
theorem fe_78 {z : iv_Z} {d : Nat} (hd : 1 ≤ d) {x0 : Nat} {σ : fx_S} {q : Int64 × fx_S} (h : fm_78 x0 σ = some q) : fx_E z 78 d 0 [some (.ref x0), none, none, none, none, none] [] σ (some (.long q.1)) q.2 := by
  unfold fm_78 at h
  obtain ⟨g0, h⟩ := fx_gd h
  refine fs_lconst (n := 1) (p := 1) (by decide +kernel) rfl kl_1 ?_
  refine fs_lstore_n (k := 1) (p := 2) (M := 6) (al' := [some (.ref x0), some (.long (1 : Int64)), none, none, none, none]) (by decide +kernel) rfl mx_78 rfl rfl ?_
  refine fs_iconst (n := 0) (p := 3) (by decide +kernel) rfl kc_0 ?_
  refine fs_istore_n (k := 3) (p := 4) (M := 6) (al' := [some (.ref x0), some (.long (1 : Int64)), none, some (.int (0 : Int32)), none, none]) (by decide +kernel) rfl mx_78 rfl rfl ?_
  exact fe_78_4 hd 100000 _ _ _ _ _ _ g0 h

/-! ZoneShares.undo()I -/
theorem mx_94 : iv_mx 94 = 1 := by decide +kernel
theorem rt_94 : iv_rt 94 = some .int := by decide +kernel
def fm_94 (σ : fx_S) : Option (Int32 × fx_S) :=
  if ¬ (σ.1 16 2) = 0 then (
    (fm_120 σ).bind fun q10 =>
    (fm_32 1 q10).bind fun q12 =>
    some ((q12.1 16 2), q12)) else (
    some ((-1 : Int32), σ))
theorem fe_94 {z : iv_Z} {d : Nat} (hd : 2 ≤ d) {σ : fx_S} {q : Int32 × fx_S} (h : fm_94 σ = some q) : fx_E z 94 d 0 [some (.ref 0)] [] σ (some (.int q.1)) q.2 := by
  unfold fm_94 at h
  refine fs_aload_n (k := 0) (p := 1) (by decide +kernel) rfl rfl ?_
  refine fs_gfr (idx := 29) (ci := 9) (j := 2) (p := 4) (by decide +kernel) rfl (by decide +kernel) fo_0 (fr_a0_2) ?_
  refine fs_gfi (idx := 160) (ci := 3) (j := 2) (p := 7) (by decide +kernel) rfl (by decide +kernel) fo_16 ?_
  by_cases c8 : ¬ (σ.1 16 2) = 0
  · rw [if_pos c8] at h
    refine fs_if_ne_t (off := 5) (t := 12) (by decide +kernel) (by decide +kernel) c8 ?_
    refine fs_aload_n (k := 0) (p := 13) (by decide +kernel) rfl rfl ?_
    obtain ⟨q10, w9, h⟩ := fx_bd h
    refine fs_callV (idx := 163) (mj := 120) (ci := 9) (na := 0) (mx := 2) (p := 16) (args := [.ref 0]) (rest := []) (al2 := [some (.ref 0), none]) (by decide +kernel) rfl (by decide +kernel) fo_0 rfl rfl rfl rfl rfl rfl rfl (by omega) (fun d' hd' => fe_120 (by omega) w9) rfl ?_
    refine fs_aload_n (k := 0) (p := 17) (by decide +kernel) rfl rfl ?_
    refine fs_gfr (idx := 29) (ci := 9) (j := 2) (p := 20) (by decide +kernel) rfl (by decide +kernel) fo_0 (fr_a0_2) ?_
    refine fs_aload_n (k := 0) (p := 21) (by decide +kernel) rfl rfl ?_
    refine fs_gfr (idx := 13) (ci := 9) (j := 1) (p := 24) (by decide +kernel) rfl (by decide +kernel) fo_0 (fr_a0_1) ?_
    obtain ⟨q12, w11, h⟩ := fx_bd h
    refine fs_callV (idx := 166) (mj := 32) (ci := 3) (na := 1) (mx := 2) (p := 27) (args := [.ref 16, .ref 1]) (rest := []) (al2 := [some (.ref 16), some (.ref 1)]) (by decide +kernel) rfl (by decide +kernel) fo_16 rfl rfl rfl rfl rfl rfl rfl (by omega) (fun d' hd' => fe_32 (by omega) w11) rfl ?_
    refine fs_aload_n (k := 0) (p := 28) (by decide +kernel) rfl rfl ?_
    refine fs_gfr (idx := 29) (ci := 9) (j := 2) (p := 31) (by decide +kernel) rfl (by decide +kernel) fo_0 (fr_a0_2) ?_
    refine fs_gfi (idx := 160) (ci := 3) (j := 2) (p := 34) (by decide +kernel) rfl (by decide +kernel) fo_16 ?_
    have h := Option.some.inj h
    subst h
    exact fs_iret (by decide +kernel) rt_94
  · rw [if_neg c8] at h
    refine fs_if_ne_f (off := 5) (t := 12) (p := 10) (by decide +kernel) (by decide +kernel) rfl c8 ?_
    refine fs_iconst (n := -1) (p := 11) (by decide +kernel) rfl kc_m1 ?_
    have h := Option.some.inj h
    subst h
    exact fs_iret (by decide +kernel) rt_94

/-! ZoneShares.weight(II)I -/
theorem mx_112 : iv_mx 112 = 3 := by decide +kernel
theorem rt_112 : iv_rt 112 = some .int := by decide +kernel
def fm_112 (x1 : Int32) (x2 : Int32) (σ : fx_S) : Option (Int32 × fx_S) :=
  (fm_114 x1 σ).bind fun q11 =>
  if (fx_b q11.1) = 0 then (
    some ((-1 : Int32), q11.2)) else (
    (fm_116 x2 q11.2).bind fun q14 =>
    if (fx_b q14.1) = 0 then (
      some ((-1 : Int32), q14.2)) else (
      (fx_ld q14.2 4 ((x1 * (4 : Int32)) + x2)).bind fun v16 =>
      some (v16, q14.2)))
theorem fe_112 {z : iv_Z} {d : Nat} (hd : 1 ≤ d) {x1 : Int32} {x2 : Int32} {σ : fx_S} {q : Int32 × fx_S} (h : fm_112 x1 x2 σ = some q) : fx_E z 112 d 0 [some (.ref 0), some (.int x1), some (.int x2)] [] σ (some (.int q.1)) q.2 := by
  unfold fm_112 at h
  refine fs_iload_n (k := 1) (p := 1) (by decide +kernel) rfl rfl ?_
  obtain ⟨q11, w10, h⟩ := fx_bd h
  refine fs_callS (idx := 94) (mj := 114) (na := 1) (mx := 1) (p := 4) (args := [.int x1]) (rest := []) (al2 := [some (.int x1)]) (by decide +kernel) rfl (by decide +kernel) rfl rfl rfl rfl rfl rfl rfl (by omega) (fun d' hd' => fe_114 (by omega) w10) rfl ?_
  by_cases c12 : (fx_b q11.1) = 0
  · rw [if_pos c12] at h
    refine fs_if_eq_t (off := 26) (t := 30) (by decide +kernel) (by decide +kernel) c12 ?_
    refine fs_iconst (n := -1) (p := 31) (by decide +kernel) rfl kc_m1 ?_
    have h := Option.some.inj h
    subst h
    exact fs_iret (by decide +kernel) rt_112
  · rw [if_neg c12] at h
    refine fs_if_eq_f (off := 26) (t := 30) (p := 7) (by decide +kernel) (by decide +kernel) rfl c12 ?_
    refine fs_iload_n (k := 2) (p := 8) (by decide +kernel) rfl rfl ?_
    obtain ⟨q14, w13, h⟩ := fx_bd h
    refine fs_callS (idx := 116) (mj := 116) (na := 1) (mx := 1) (p := 11) (args := [.int x2]) (rest := []) (al2 := [some (.int x2)]) (by decide +kernel) rfl (by decide +kernel) rfl rfl rfl rfl rfl rfl rfl (by omega) (fun d' hd' => fe_116 (by omega) w13) rfl ?_
    by_cases c15 : (fx_b q14.1) = 0
    · rw [if_pos c15] at h
      refine fs_if_eq_t (off := 19) (t := 30) (by decide +kernel) (by decide +kernel) c15 ?_
      refine fs_iconst (n := -1) (p := 31) (by decide +kernel) rfl kc_m1 ?_
      have h := Option.some.inj h
      subst h
      exact fs_iret (by decide +kernel) rt_112
    · rw [if_neg c15] at h
      refine fs_if_eq_f (off := 19) (t := 30) (p := 14) (by decide +kernel) (by decide +kernel) rfl c15 ?_
      refine fs_aload_n (k := 0) (p := 15) (by decide +kernel) rfl rfl ?_
      refine fs_gfr (idx := 13) (ci := 9) (j := 1) (p := 18) (by decide +kernel) rfl (by decide +kernel) fo_0 (fr_a0_1) ?_
      refine fs_gfr (idx := 119) (ci := 6) (j := 2) (p := 21) (by decide +kernel) rfl (by decide +kernel) fo_1 (fr_a1_2) ?_
      refine fs_iload_n (k := 1) (p := 22) (by decide +kernel) rfl rfl ?_
      refine fs_iconst (n := 4) (p := 23) (by decide +kernel) rfl kc_4 ?_
      refine fs_imul (p := 24) (by decide +kernel) rfl ?_
      refine fs_iload_n (k := 2) (p := 25) (by decide +kernel) rfl rfl ?_
      refine fs_iadd (p := 26) (by decide +kernel) rfl ?_
      obtain ⟨v16, w17, h⟩ := fx_bd h
      refine fs_iaload (p := 27) (by decide +kernel) rfl w17 ?_
      refine fs_goto (off := 4) (p := 31) (by decide +kernel) (by decide +kernel) ?_
      have h := Option.some.inj h
      subst h
      exact fs_iret (by decide +kernel) rt_112

/-! ZoneShares.districtOf(I)I -/
theorem mx_113 : iv_mx 113 = 2 := by decide +kernel
theorem rt_113 : iv_rt 113 = some .int := by decide +kernel
def fm_113 (x1 : Int32) (σ : fx_S) : Option (Int32 × fx_S) :=
  (fm_115 x1 σ).bind fun q8 =>
  if (fx_b q8.1) = 0 then (
    some ((-1 : Int32), q8.2)) else (
    (fx_ld q8.2 5 x1).bind fun v10 =>
    some (v10, q8.2))
theorem fe_113 {z : iv_Z} {d : Nat} (hd : 1 ≤ d) {x1 : Int32} {σ : fx_S} {q : Int32 × fx_S} (h : fm_113 x1 σ = some q) : fx_E z 113 d 0 [some (.ref 0), some (.int x1)] [] σ (some (.int q.1)) q.2 := by
  unfold fm_113 at h
  refine fs_iload_n (k := 1) (p := 1) (by decide +kernel) rfl rfl ?_
  obtain ⟨q8, w7, h⟩ := fx_bd h
  refine fs_callS (idx := 128) (mj := 115) (na := 1) (mx := 1) (p := 4) (args := [.int x1]) (rest := []) (al2 := [some (.int x1)]) (by decide +kernel) rfl (by decide +kernel) rfl rfl rfl rfl rfl rfl rfl (by omega) (fun d' hd' => fe_115 (by omega) w7) rfl ?_
  by_cases c9 : (fx_b q8.1) = 0
  · rw [if_pos c9] at h
    refine fs_if_eq_t (off := 15) (t := 19) (by decide +kernel) (by decide +kernel) c9 ?_
    refine fs_iconst (n := -1) (p := 20) (by decide +kernel) rfl kc_m1 ?_
    have h := Option.some.inj h
    subst h
    exact fs_iret (by decide +kernel) rt_113
  · rw [if_neg c9] at h
    refine fs_if_eq_f (off := 15) (t := 19) (p := 7) (by decide +kernel) (by decide +kernel) rfl c9 ?_
    refine fs_aload_n (k := 0) (p := 8) (by decide +kernel) rfl rfl ?_
    refine fs_gfr (idx := 13) (ci := 9) (j := 1) (p := 11) (by decide +kernel) rfl (by decide +kernel) fo_0 (fr_a0_1) ?_
    refine fs_gfr (idx := 134) (ci := 6) (j := 3) (p := 14) (by decide +kernel) rfl (by decide +kernel) fo_1 (fr_a1_3) ?_
    refine fs_iload_n (k := 1) (p := 15) (by decide +kernel) rfl rfl ?_
    obtain ⟨v10, w11, h⟩ := fx_bd h
    refine fs_iaload (p := 16) (by decide +kernel) rfl w11 ?_
    refine fs_goto (off := 4) (p := 20) (by decide +kernel) (by decide +kernel) ?_
    have h := Option.some.inj h
    subst h
    exact fs_iret (by decide +kernel) rt_113

/-! ZoneShares.startAct()V -/
theorem mx_119 : iv_mx 119 = 1 := by decide +kernel
theorem rt_119 : iv_rt 119 = none := by decide +kernel
def fm_119 (σ : fx_S) : Option (fx_S) :=
  (fm_31 1 σ).bind fun q6 =>
  (fm_120 q6).bind fun q8 =>
  some q8
theorem fe_119 {z : iv_Z} {d : Nat} (hd : 2 ≤ d) {σ : fx_S} {q : fx_S} (h : fm_119 σ = some q) : fx_E z 119 d 0 [some (.ref 0)] [] σ none q := by
  unfold fm_119 at h
  refine fs_aload_n (k := 0) (p := 1) (by decide +kernel) rfl rfl ?_
  refine fs_gfr (idx := 29) (ci := 9) (j := 2) (p := 4) (by decide +kernel) rfl (by decide +kernel) fo_0 (fr_a0_2) ?_
  refine fs_aload_n (k := 0) (p := 5) (by decide +kernel) rfl rfl ?_
  refine fs_gfr (idx := 13) (ci := 9) (j := 1) (p := 8) (by decide +kernel) rfl (by decide +kernel) fo_0 (fr_a0_1) ?_
  obtain ⟨q6, w5, h⟩ := fx_bd h
  refine fs_callV (idx := 310) (mj := 31) (ci := 3) (na := 1) (mx := 2) (p := 11) (args := [.ref 16, .ref 1]) (rest := []) (al2 := [some (.ref 16), some (.ref 1)]) (by decide +kernel) rfl (by decide +kernel) fo_16 rfl rfl rfl rfl rfl rfl rfl (by omega) (fun d' hd' => fe_31 (by omega) w5) rfl ?_
  refine fs_aload_n (k := 0) (p := 12) (by decide +kernel) rfl rfl ?_
  obtain ⟨q8, w7, h⟩ := fx_bd h
  refine fs_callV (idx := 163) (mj := 120) (ci := 9) (na := 0) (mx := 2) (p := 15) (args := [.ref 0]) (rest := []) (al2 := [some (.ref 0), none]) (by decide +kernel) rfl (by decide +kernel) fo_0 rfl rfl rfl rfl rfl rfl rfl (by omega) (fun d' hd' => fe_120 (by omega) w7) rfl ?_
  have h := Option.some.inj h
  subst h
  exact fs_ret (by decide +kernel) rt_119

/-! ZoneShares.liesApart(II)Z -/
theorem mx_125 : iv_mx 125 = 5 := by decide +kernel
theorem rt_125 : iv_rt 125 = some .boolean := by decide +kernel
def fm_125_52 : Nat → Int32 → Int32 → Int32 → fx_S → Option (Bool × fx_S)
  | 0, _, _, _, _ => none
  | n + 1, x1, x3, x4, σ =>
    if (8 : Int32) ≤ x4 then (
      some (false, σ)) else (
      if ¬ x3 = ((1 : Int32) <<< (x4 &&& 31)) then (
        fm_125_52 n x1 x3 (x4 + (1 : Int32)) σ) else (
        (fm_62 1 (1 : Int32) x4 σ).bind fun q7 =>
        (fm_62 1 (0 : Int32) x1 q7.2).bind fun q9 =>
        if ¬ q7.1 = q9.1 then (
          some (false, q9.2)) else (
          some (true, q9.2))))
theorem fe_125_52 {z : iv_Z} {d : Nat} (hd : 2 ≤ d) : ∀ (n : Nat) (x1 : Int32) (x3 : Int32) (x4 : Int32) (o2 : Option Value) (σ : fx_S) (q : Bool × fx_S), fm_125_52 n x1 x3 x4 σ = some q → fx_E z 125 d 52 [some (.ref 0), some (.int x1), o2, some (.int x3), some (.int x4)] [] σ (some (.int (fx_b q.1))) q.2 := by
  intro n
  induction n with
  | zero =>
    intro x1 x3 x4 o2 σ q  h
    rw [fm_125_52] at h
    exact fx_no h
  | succ n ih =>
    intro x1 x3 x4 o2 σ q  h
    rw [fm_125_52] at h
    refine fs_iload (k := 4) (p := 54) (by decide +kernel) rfl rfl ?_
    refine fs_bipush (n := 8) (p := 56) (by decide +kernel) rfl kb_8 ?_
    by_cases c2 : (8 : Int32) ≤ x4
    · rw [if_pos c2] at h
      refine fs_icmp_ge_t (off := 45) (t := 101) (by decide +kernel) (by decide +kernel) c2 ?_
      refine fs_iconst (n := 0) (p := 102) (by decide +kernel) rfl kc_0 ?_
      have h := Option.some.inj h
      subst h
      exact fs_zret (b := false) (by decide +kernel) rt_125
    · rw [if_neg c2] at h
      refine fs_icmp_ge_f (off := 45) (t := 101) (p := 59) (by decide +kernel) (by decide +kernel) rfl c2 ?_
      refine fs_iload_n (k := 3) (p := 60) (by decide +kernel) rfl rfl ?_
      refine fs_iconst (n := 1) (p := 61) (by decide +kernel) rfl kc_1 ?_
      refine fs_iload (k := 4) (p := 63) (by decide +kernel) rfl rfl ?_
      refine fs_ishl (p := 64) (by decide +kernel) rfl ?_
      by_cases c5 : ¬ x3 = ((1 : Int32) <<< (x4 &&& 31))
      · rw [if_pos c5] at h
        refine fs_icmp_ne_t (off := 31) (t := 95) (by decide +kernel) (by decide +kernel) c5 ?_
        refine fs_iinc (k := 4) (n := 1) (p := 98) (M := 5) (al' := [some (.ref 0), some (.int x1), o2, some (.int x3), some (.int (x4 + (1 : Int32)))]) (by decide +kernel) rfl kc_1 mx_125 rfl rfl rfl ?_
        refine fs_goto (off := -46) (p := 52) (by decide +kernel) (by decide +kernel) ?_
        exact ih _ _ _ _ _ _ h
      · rw [if_neg c5] at h
        refine fs_icmp_ne_f (off := 31) (t := 95) (p := 67) (by decide +kernel) (by decide +kernel) rfl c5 ?_
        refine fs_aload_n (k := 0) (p := 68) (by decide +kernel) rfl rfl ?_
        refine fs_gfr (idx := 13) (ci := 9) (j := 1) (p := 71) (by decide +kernel) rfl (by decide +kernel) fo_0 (fr_a0_1) ?_
        refine fs_iconst (n := 1) (p := 72) (by decide +kernel) rfl kc_1 ?_
        refine fs_iload (k := 4) (p := 74) (by decide +kernel) rfl rfl ?_
        obtain ⟨q7, w6, h⟩ := fx_bd h
        refine fs_callV (idx := 272) (mj := 62) (ci := 6) (na := 2) (mx := 6) (p := 77) (args := [.ref 1, .int (1 : Int32), .int x4]) (rest := []) (al2 := [some (.ref 1), some (.int (1 : Int32)), some (.int x4), none, none, none]) (by decide +kernel) rfl (by decide +kernel) fo_1 rfl rfl rfl rfl rfl rfl rfl (by omega) (fun d' hd' => fe_62 (by omega) w6) rfl ?_
        refine fs_aload_n (k := 0) (p := 78) (by decide +kernel) rfl rfl ?_
        refine fs_gfr (idx := 13) (ci := 9) (j := 1) (p := 81) (by decide +kernel) rfl (by decide +kernel) fo_0 (fr_a0_1) ?_
        refine fs_iconst (n := 0) (p := 82) (by decide +kernel) rfl kc_0 ?_
        refine fs_iload_n (k := 1) (p := 83) (by decide +kernel) rfl rfl ?_
        obtain ⟨q9, w8, h⟩ := fx_bd h
        refine fs_callV (idx := 272) (mj := 62) (ci := 6) (na := 2) (mx := 6) (p := 86) (args := [.ref 1, .int (0 : Int32), .int x1]) (rest := [.int q7.1]) (al2 := [some (.ref 1), some (.int (0 : Int32)), some (.int x1), none, none, none]) (by decide +kernel) rfl (by decide +kernel) fo_1 rfl rfl rfl rfl rfl rfl rfl (by omega) (fun d' hd' => fe_62 (by omega) w8) rfl ?_
        by_cases c12 : ¬ q7.1 = q9.1
        · rw [if_pos c12] at h
          refine fs_icmp_ne_t (off := 7) (t := 93) (by decide +kernel) (by decide +kernel) c12 ?_
          refine fs_iconst (n := 0) (p := 94) (by decide +kernel) rfl kc_0 ?_
          have h := Option.some.inj h
          subst h
          exact fs_zret (b := false) (by decide +kernel) rt_125
        · rw [if_neg c12] at h
          refine fs_icmp_ne_f (off := 7) (t := 93) (p := 89) (by decide +kernel) (by decide +kernel) rfl c12 ?_
          refine fs_iconst (n := 1) (p := 90) (by decide +kernel) rfl kc_1 ?_
          refine fs_goto (off := 4) (p := 94) (by decide +kernel) (by decide +kernel) ?_
          have h := Option.some.inj h
          subst h
          exact fs_zret (b := true) (by decide +kernel) rt_125
def fm_125 (x1 : Int32) (x2 : Int32) (σ : fx_S) : Option (Bool × fx_S) :=
  (fm_65 1 x1 σ).bind fun q25 =>
  if ¬ x2 = (3 : Int32) then (
    if ¬ x2 = (2 : Int32) then (
      fm_125_52 100000 x1 q25.1 (0 : Int32) q25.2) else (
      (fm_230 q25.1 q25.2).bind fun q30 =>
      if q30.1 ≤ (1 : Int32) then (
        some (false, q30.2)) else (
        some (true, q30.2)))) else (
    if ¬ ((q25.1 >>> ((8 : Int32) &&& 31)) &&& (1 : Int32)) = (1 : Int32) then (
      some (false, q25.2)) else (
      some (true, q25.2)))
theorem fe_125 {z : iv_Z} {d : Nat} (hd : 2 ≤ d) {x1 : Int32} {x2 : Int32} {σ : fx_S} {q : Bool × fx_S} (h : fm_125 x1 x2 σ = some q) : fx_E z 125 d 0 [some (.ref 0), some (.int x1), some (.int x2), none, none] [] σ (some (.int (fx_b q.1))) q.2 := by
  unfold fm_125 at h
  refine fs_aload_n (k := 0) (p := 1) (by decide +kernel) rfl rfl ?_
  refine fs_gfr (idx := 13) (ci := 9) (j := 1) (p := 4) (by decide +kernel) rfl (by decide +kernel) fo_0 (fr_a0_1) ?_
  refine fs_iload_n (k := 1) (p := 5) (by decide +kernel) rfl rfl ?_
  obtain ⟨q25, w24, h⟩ := fx_bd h
  refine fs_callV (idx := 329) (mj := 65) (ci := 6) (na := 1) (mx := 5) (p := 8) (args := [.ref 1, .int x1]) (rest := []) (al2 := [some (.ref 1), some (.int x1), none, none, none]) (by decide +kernel) rfl (by decide +kernel) fo_1 rfl rfl rfl rfl rfl rfl rfl (by omega) (fun d' hd' => fe_65 (by omega) w24) rfl ?_
  refine fs_istore_n (k := 3) (p := 9) (M := 5) (al' := [some (.ref 0), some (.int x1), some (.int x2), some (.int q25.1), none]) (by decide +kernel) rfl mx_125 rfl rfl ?_
  refine fs_iload_n (k := 2) (p := 10) (by decide +kernel) rfl rfl ?_
  refine fs_iconst (n := 3) (p := 11) (by decide +kernel) rfl kc_3 ?_
  by_cases c27 : ¬ x2 = (3 : Int32)
  · rw [if_pos c27] at h
    refine fs_icmp_ne_t (off := 19) (t := 30) (by decide +kernel) (by decide +kernel) c27 ?_
    refine fs_iload_n (k := 2) (p := 31) (by decide +kernel) rfl rfl ?_
    refine fs_iconst (n := 2) (p := 32) (by decide +kernel) rfl kc_2 ?_
    by_cases c28 : ¬ x2 = (2 : Int32)
    · rw [if_pos c28] at h
      refine fs_icmp_ne_t (off := 17) (t := 49) (by decide +kernel) (by decide +kernel) c28 ?_
      refine fs_iconst (n := 0) (p := 50) (by decide +kernel) rfl kc_0 ?_
      refine fs_istore (k := 4) (p := 52) (M := 5) (al' := [some (.ref 0), some (.int x1), some (.int x2), some (.int q25.1), some (.int (0 : Int32))]) (by decide +kernel) rfl mx_125 rfl rfl ?_
      exact fe_125_52 hd 100000 _ _ _ _ _ _ h
    · rw [if_neg c28] at h
      refine fs_icmp_ne_f (off := 17) (t := 49) (p := 35) (by decide +kernel) (by decide +kernel) rfl c28 ?_
      refine fs_iload_n (k := 3) (p := 36) (by decide +kernel) rfl rfl ?_
      obtain ⟨q30, w29, h⟩ := fx_bd h
      refine fs_callS (idx := 332) (mj := 230) (na := 1) (mx := 1) (p := 39) (args := [.int q25.1]) (rest := []) (al2 := [some (.int q25.1)]) (by decide +kernel) rfl (by decide +kernel) rfl rfl rfl rfl rfl rfl rfl (by omega) (fun d' hd' => fe_230 (by omega) w29) rfl ?_
      refine fs_iconst (n := 1) (p := 40) (by decide +kernel) rfl kc_1 ?_
      by_cases c32 : q30.1 ≤ (1 : Int32)
      · rw [if_pos c32] at h
        refine fs_icmp_le_t (off := 7) (t := 47) (by decide +kernel) (by decide +kernel) c32 ?_
        refine fs_iconst (n := 0) (p := 48) (by decide +kernel) rfl kc_0 ?_
        have h := Option.some.inj h
        subst h
        exact fs_zret (b := false) (by decide +kernel) rt_125
      · rw [if_neg c32] at h
        refine fs_icmp_le_f (off := 7) (t := 47) (p := 43) (by decide +kernel) (by decide +kernel) rfl c32 ?_
        refine fs_iconst (n := 1) (p := 44) (by decide +kernel) rfl kc_1 ?_
        refine fs_goto (off := 4) (p := 48) (by decide +kernel) (by decide +kernel) ?_
        have h := Option.some.inj h
        subst h
        exact fs_zret (b := true) (by decide +kernel) rt_125
  · rw [if_neg c27] at h
    refine fs_icmp_ne_f (off := 19) (t := 30) (p := 14) (by decide +kernel) (by decide +kernel) rfl c27 ?_
    refine fs_iload_n (k := 3) (p := 15) (by decide +kernel) rfl rfl ?_
    refine fs_bipush (n := 8) (p := 17) (by decide +kernel) rfl kb_8 ?_
    refine fs_ishr (p := 18) (by decide +kernel) rfl ?_
    refine fs_iconst (n := 1) (p := 19) (by decide +kernel) rfl kc_1 ?_
    refine fs_iand (p := 20) (by decide +kernel) rfl ?_
    refine fs_iconst (n := 1) (p := 21) (by decide +kernel) rfl kc_1 ?_
    by_cases c34 : ¬ ((q25.1 >>> ((8 : Int32) &&& 31)) &&& (1 : Int32)) = (1 : Int32)
    · rw [if_pos c34] at h
      refine fs_icmp_ne_t (off := 7) (t := 28) (by decide +kernel) (by decide +kernel) c34 ?_
      refine fs_iconst (n := 0) (p := 29) (by decide +kernel) rfl kc_0 ?_
      have h := Option.some.inj h
      subst h
      exact fs_zret (b := false) (by decide +kernel) rt_125
    · rw [if_neg c34] at h
      refine fs_icmp_ne_f (off := 7) (t := 28) (p := 24) (by decide +kernel) (by decide +kernel) rfl c34 ?_
      refine fs_iconst (n := 1) (p := 25) (by decide +kernel) rfl kc_1 ?_
      refine fs_goto (off := 4) (p := 29) (by decide +kernel) (by decide +kernel) ?_
      have h := Option.some.inj h
      subst h
      exact fs_zret (b := true) (by decide +kernel) rt_125
