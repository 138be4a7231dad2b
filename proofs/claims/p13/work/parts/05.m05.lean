section
/-! java/util/Arrays.fill([II)V -/
theorem mx_235 : iv_mx 235 = 4 := by decide +kernel
theorem rt_235 : iv_rt 235 = none := by decide +kernel
def fm_235_5 : Nat → Nat → Int32 → Int32 → Int32 → fx_S → Option (fx_S)
  | 0, _, _, _, _, _ => none
  | n + 1, x0, x1, x2, x3, σ =>
    if x3 ≤ x2 then (
      some σ) else (
      (fx_st σ x0 x2 x1).bind fun t4 =>
      fm_235_5 n x0 x1 (x2 + (1 : Int32)) x3 t4)
theorem fe_235_5 {d : Nat} (hd : 0 ≤ d) : ∀ (n : Nat) (x0 : Nat) (x1 : Int32) (x2 : Int32) (x3 : Int32) (σ : fx_S) (q : fx_S), fm_235_5 n x0 x1 x2 x3 σ = some q → fx_E none 235 d 5 [some (.ref x0), some (.int x1), some (.int x2), some (.int x3)] [] σ none q := by
  intro n
  induction n with
  | zero =>
    intro x0 x1 x2 x3 σ q  h
    rw [fm_235_5] at h
    exact fx_no h
  | succ n ih =>
    intro x0 x1 x2 x3 σ q  h
    rw [fm_235_5] at h
    refine fs_iload_n (k := 2) (p := 6) (by decide +kernel) rfl rfl ?_
    refine fs_iload_n (k := 3) (p := 7) (by decide +kernel) rfl rfl ?_
    by_cases c3 : x3 ≤ x2
    · rw [if_pos c3] at h
      refine fs_icmp_ge_t (off := 13) (t := 20) (by decide +kernel) (by decide +kernel) c3 ?_
      have h := Option.some.inj h
      subst h
      exact fs_ret (by decide +kernel) rt_235
    · rw [if_neg c3] at h
      refine fs_icmp_ge_f (off := 13) (t := 20) (p := 10) (by decide +kernel) (by decide +kernel) rfl c3 ?_
      refine fs_aload_n (k := 0) (p := 11) (by decide +kernel) rfl rfl ?_
      refine fs_iload_n (k := 2) (p := 12) (by decide +kernel) rfl rfl ?_
      refine fs_iload_n (k := 1) (p := 13) (by decide +kernel) rfl rfl ?_
      obtain ⟨t4, w5, h⟩ := fx_bd h
      refine fs_iastore (p := 14) (by decide +kernel) rfl w5 ?_
      refine fs_iinc (k := 2) (n := 1) (p := 17) (M := 4) (al' := [some (.ref x0), some (.int x1), some (.int (x2 + (1 : Int32))), some (.int x3)]) (by decide +kernel) rfl kc_1 mx_235 rfl rfl rfl ?_
      refine fs_goto (off := -12) (p := 5) (by decide +kernel) (by decide +kernel) ?_
      exact ih _ _ _ _ _ _ h
def fm_235 (x0 : Nat) (x1 : Int32) (σ : fx_S) : Option (fx_S) :=
  if fx_ok (fx_sh x0).1 x0 0 = true ∧ fx_sh x0 = (0, (fx_sh x0).2) then (
  fm_235_5 100000 x0 x1 (0 : Int32) (fx_len x0) σ) else none
theorem fe_235 {d : Nat} (hd : 0 ≤ d) {x0 : Nat} {x1 : Int32} {σ : fx_S} {q : fx_S} (h : fm_235 x0 x1 σ = some q) : fx_E none 235 d 0 [some (.ref x0), some (.int x1), none, none] [] σ none q := by
  unfold fm_235 at h
  refine fs_iconst (n := 0) (p := 1) (by decide +kernel) rfl kc_0 ?_
  refine fs_istore_n (k := 2) (p := 2) (M := 4) (al' := [some (.ref x0), some (.int x1), some (.int (0 : Int32)), none]) (by decide +kernel) rfl mx_235 rfl rfl ?_
  refine fs_aload_n (k := 0) (p := 3) (by decide +kernel) rfl rfl ?_
  obtain ⟨z11, h⟩ := fx_gd h
  refine fs_alen (p := 4) (by decide +kernel) rfl z11.1 z11.2 ?_
  refine fs_istore_n (k := 3) (p := 5) (M := 4) (al' := [some (.ref x0), some (.int x1), some (.int (0 : Int32)), some (.int (fx_len x0))]) (by decide +kernel) rfl mx_235 rfl rfl ?_
  exact fe_235_5 hd 100000 _ _ _ _ _ _ h

/-! ZoneShares$CountsText.number(LZoneShares$Tape;)I -/
theorem mx_6 : iv_mx 6 = 3 := by decide +kernel
theorem rt_6 : iv_rt 6 = some .int := by decide +kernel
def fm_6_63 (x2 : Int32) (σ : fx_S) : Option (Int32 × fx_S) :=
  some (x2, σ)
theorem fe_6_63 {d : Nat} (hd : 1 ≤ d) (x2 : Int32) (o0 : Option Value) (o1 : Option Value) (σ : fx_S) (q : Int32 × fx_S) (h : fm_6_63  x2 σ = some q) : fx_E none 6 d 63 [o0, o1, some (.int x2)] [] σ (some (.int q.1)) q.2 := by
  unfold fm_6_63 at h
  refine fs_iload_n (k := 2) (p := 64) (by decide +kernel) rfl rfl ?_
  have h := Option.some.inj h
  subst h
  exact fs_iret (by decide +kernel) rt_6
def fm_6_2 : Nat → Int32 → fx_S → Option (Int32 × fx_S)
  | 0, _, _ => none
  | n + 1, x2, σ =>
    if (σ.1 14 1) ≤ (σ.1 60 2) then (
      fm_6_63 x2 σ) else (
      (fm_83 (σ.1 60 2) σ).bind fun q5 =>
      (fm_8 q5.1 q5.2).bind fun q7 =>
      if (fx_b q7.1) = 0 then (
        fm_6_63 x2 q7.2) else (
        (fm_83 (q7.2.1 60 2) q7.2).bind fun q10 =>
        fm_6_2 n (if (((x2 * (10 : Int32)) + q10.1) - (48 : Int32)) < (10000 : Int32) then (((x2 * (10 : Int32)) + q10.1) - (48 : Int32)) else (10000 : Int32)) (fx_w1 q10.2 60 2 ((q10.2.1 60 2) + (1 : Int32)))))
theorem fe_6_2 {d : Nat} (hd : 1 ≤ d) : ∀ (n : Nat) (x2 : Int32) (σ : fx_S) (q : Int32 × fx_S), fm_6_2 n x2 σ = some q → fx_E none 6 d 2 [some (.ref 60), some (.ref 14), some (.int x2)] [] σ (some (.int q.1)) q.2 := by
  intro n
  induction n with
  | zero =>
    intro x2 σ q  h
    rw [fm_6_2] at h
    exact fx_no h
  | succ n ih =>
    intro x2 σ q  h
    rw [fm_6_2] at h
    refine fs_aload_n (k := 0) (p := 3) (by decide +kernel) rfl rfl ?_
    refine fs_gfi (idx := 25) (ci := 0) (j := 2) (p := 6) (by decide +kernel) rfl (by decide +kernel) fo_60 ?_
    refine fs_aload_n (k := 1) (p := 7) (by decide +kernel) rfl rfl ?_
    refine fs_gfi (idx := 28) (ci := 8) (j := 1) (p := 10) (by decide +kernel) rfl (by decide +kernel) fo_14 ?_
    by_cases c3 : (σ.1 14 1) ≤ (σ.1 60 2)
    · rw [if_pos c3] at h
      refine fs_icmp_ge_t (off := 53) (t := 63) (by decide +kernel) (by decide +kernel) c3 ?_
      exact fe_6_63 hd _ _ _ _ _ h
    · rw [if_neg c3] at h
      refine fs_icmp_ge_f (off := 53) (t := 63) (p := 13) (by decide +kernel) (by decide +kernel) rfl c3 ?_
      refine fs_aload_n (k := 1) (p := 14) (by decide +kernel) rfl rfl ?_
      refine fs_aload_n (k := 0) (p := 15) (by decide +kernel) rfl rfl ?_
      refine fs_gfi (idx := 25) (ci := 0) (j := 2) (p := 18) (by decide +kernel) rfl (by decide +kernel) fo_60 ?_
      obtain ⟨q5, w4, h⟩ := fx_bd h
      refine fs_callV (idx := 37) (mj := 83) (ci := 8) (na := 1) (mx := 2) (p := 21) (args := [.ref 14, .int (σ.1 60 2)]) (rest := []) (al2 := [some (.ref 14), some (.int (σ.1 60 2))]) (by decide +kernel) rfl (by decide +kernel) fo_14 rfl rfl rfl rfl rfl rfl rfl (by omega) (fun d' hd' => fe_83 (by omega) w4) rfl ?_
      obtain ⟨q7, w6, h⟩ := fx_bd h
      refine fs_callS (idx := 44) (mj := 8) (na := 1) (mx := 1) (p := 24) (args := [.int q5.1]) (rest := []) (al2 := [some (.int q5.1)]) (by decide +kernel) rfl (by decide +kernel) rfl rfl rfl rfl rfl rfl rfl (by omega) (fun d' hd' => fe_8 (by omega) w6) rfl ?_
      by_cases c8 : (fx_b q7.1) = 0
      · rw [if_pos c8] at h
        refine fs_if_eq_t (off := 39) (t := 63) (by decide +kernel) (by decide +kernel) c8 ?_
        exact fe_6_63 hd _ _ _ _ _ h
      · rw [if_neg c8] at h
        refine fs_if_eq_f (off := 39) (t := 63) (p := 27) (by decide +kernel) (by decide +kernel) rfl c8 ?_
        refine fs_sipush (n := 10000) (p := 30) (by decide +kernel) rfl ks_10000 ?_
        refine fs_iload_n (k := 2) (p := 31) (by decide +kernel) rfl rfl ?_
        refine fs_bipush (n := 10) (p := 33) (by decide +kernel) rfl kb_10 ?_
        refine fs_imul (p := 34) (by decide +kernel) rfl ?_
        refine fs_aload_n (k := 1) (p := 35) (by decide +kernel) rfl rfl ?_
        refine fs_aload_n (k := 0) (p := 36) (by decide +kernel) rfl rfl ?_
        refine fs_gfi (idx := 25) (ci := 0) (j := 2) (p := 39) (by decide +kernel) rfl (by decide +kernel) fo_60 ?_
        obtain ⟨q10, w9, h⟩ := fx_bd h
        refine fs_callV (idx := 37) (mj := 83) (ci := 8) (na := 1) (mx := 2) (p := 42) (args := [.ref 14, .int (q7.2.1 60 2)]) (rest := [.int (x2 * (10 : Int32)), .int (10000 : Int32)]) (al2 := [some (.ref 14), some (.int (q7.2.1 60 2))]) (by decide +kernel) rfl (by decide +kernel) fo_14 rfl rfl rfl rfl rfl rfl rfl (by omega) (fun d' hd' => fe_83 (by omega) w9) rfl ?_
        refine fs_iadd (p := 43) (by decide +kernel) rfl ?_
        refine fs_bipush (n := 48) (p := 45) (by decide +kernel) rfl kb_48 ?_
        refine fs_isub (p := 46) (by decide +kernel) rfl ?_
        refine fs_min (idx := 51) (p := 49) (by decide +kernel) rfl (by decide +kernel) rfl ?_
        refine fs_istore_n (k := 2) (p := 50) (M := 3) (al' := [some (.ref 60), some (.ref 14), some (.int (if (((x2 * (10 : Int32)) + q10.1) - (48 : Int32)) < (10000 : Int32) then (((x2 * (10 : Int32)) + q10.1) - (48 : Int32)) else (10000 : Int32)))]) (by decide +kernel) rfl mx_6 rfl rfl ?_
        refine fs_aload_n (k := 0) (p := 51) (by decide +kernel) rfl rfl ?_
        refine fs_dup (p := 52) (by decide +kernel) rfl rfl ?_
        refine fs_gfi (idx := 25) (ci := 0) (j := 2) (p := 55) (by decide +kernel) rfl (by decide +kernel) fo_60 ?_
        refine fs_iconst (n := 1) (p := 56) (by decide +kernel) rfl kc_1 ?_
        refine fs_iadd (p := 57) (by decide +kernel) rfl ?_
        refine fs_pfi (idx := 25) (ci := 0) (j := 2) (p := 60) (by decide +kernel) rfl (by decide +kernel) (by decide +kernel) fo_60 (fx_oki _ (by decide +kernel)) ?_
        refine fs_goto (off := -58) (p := 2) (by decide +kernel) (by decide +kernel) ?_
        exact ih _ _ _ h
def fm_6 (σ : fx_S) : Option (Int32 × fx_S) :=
  fm_6_2 100000 (0 : Int32) σ
theorem fe_6 {d : Nat} (hd : 1 ≤ d) {σ : fx_S} {q : Int32 × fx_S} (h : fm_6 σ = some q) : fx_E none 6 d 0 [some (.ref 60), some (.ref 14), none] [] σ (some (.int q.1)) q.2 := by
  unfold fm_6 at h
  refine fs_iconst (n := 0) (p := 1) (by decide +kernel) rfl kc_0 ?_
  refine fs_istore_n (k := 2) (p := 2) (M := 3) (al' := [some (.ref 60), some (.ref 14), some (.int (0 : Int32))]) (by decide +kernel) rfl mx_6 rfl rfl ?_
  exact fe_6_2 hd 100000 _ _ _ h

/-! ZoneShares$Fitter.countCells(LZoneShares$State;I)V -/
theorem mx_11 : iv_mx 11 = 6 := by decide +kernel
theorem rt_11 : iv_rt 11 = none := by decide +kernel
def fm_11_63 (k_8 : Nat → Int32 → Int32 → Int32 → fx_S → Option (fx_S)) (x1 : Nat) (x2 : Int32) (x3 : Int32) (x4 : Int32) (σ : fx_S) : Option (fx_S) :=
  k_8 x1 x2 x3 (x4 + (1 : Int32)) σ
theorem fe_11_63 {d : Nat} (hd : 1 ≤ d) {k_8 : Nat → Int32 → Int32 → Int32 → fx_S → Option (fx_S)} (hk_8 : ∀ (x1 : Nat) (x2 : Int32) (x3 : Int32) (x4 : Int32) (o5 : Option Value) (σ : fx_S) (q : fx_S) (g1 : fx_oc x1 6 = true), k_8 x1 x2 x3 x4 σ = some q → fx_E none 11 d 8 [some (.ref 62), some (.ref x1), some (.int x2), some (.int x3), some (.int x4), o5] [] σ none q) (x1 : Nat) (x2 : Int32) (x3 : Int32) (x4 : Int32) (o5 : Option Value) (σ : fx_S) (q : fx_S) (g1 : fx_oc x1 6 = true) (h : fm_11_63 k_8  x1 x2 x3 x4 σ = some q) : fx_E none 11 d 63 [some (.ref 62), some (.ref x1), some (.int x2), some (.int x3), some (.int x4), o5] [] σ none q := by
  unfold fm_11_63 at h
  refine fs_iinc (k := 4) (n := 1) (p := 66) (M := 6) (al' := [some (.ref 62), some (.ref x1), some (.int x2), some (.int x3), some (.int (x4 + (1 : Int32))), o5]) (by decide +kernel) rfl kc_1 mx_11 rfl rfl rfl ?_
  refine fs_goto (off := -58) (p := 8) (by decide +kernel) (by decide +kernel) ?_
  exact hk_8 _ _ _ _ _ _ _ g1 h
def fm_11_8 : Nat → Nat → Int32 → Int32 → Int32 → fx_S → Option (fx_S)
  | 0, _, _, _, _, _ => none
  | n + 1, x1, x2, x3, x4, σ =>
    if x3 ≤ x4 then (
      some σ) else (
      (fm_60 x1 (0 : Int32) x4 σ).bind fun q5 =>
      if ¬ q5.1 = x2 then (
        fm_11_63 (fm_11_8 n) x1 x2 x3 x4 q5.2) else (
        (fm_60 x1 (2 : Int32) x4 q5.2).bind fun q10 =>
        (fx_ld q10.2 65 (((q10.2.1 62 2) * (4 : Int32)) + q10.1)).bind fun v11 =>
        (fx_st q10.2 65 (((q10.2.1 62 2) * (4 : Int32)) + q10.1) (v11 + (1 : Int32))).bind fun t14 =>
        (fx_ld t14 66 q10.1).bind fun v16 =>
        (fx_st t14 66 q10.1 (v16 + (1 : Int32))).bind fun t19 =>
        fm_11_63 (fm_11_8 n) x1 x2 x3 x4 t19))
theorem fe_11_8 {d : Nat} (hd : 1 ≤ d) : ∀ (n : Nat) (x1 : Nat) (x2 : Int32) (x3 : Int32) (x4 : Int32) (o5 : Option Value) (σ : fx_S) (q : fx_S) (g1 : fx_oc x1 6 = true), fm_11_8 n x1 x2 x3 x4 σ = some q → fx_E none 11 d 8 [some (.ref 62), some (.ref x1), some (.int x2), some (.int x3), some (.int x4), o5] [] σ none q := by
  intro n
  induction n with
  | zero =>
    intro x1 x2 x3 x4 o5 σ q g1 h
    rw [fm_11_8] at h
    exact fx_no h
  | succ n ih =>
    intro x1 x2 x3 x4 o5 σ q g1 h
    rw [fm_11_8] at h
    refine fs_iload (k := 4) (p := 10) (by decide +kernel) rfl rfl ?_
    refine fs_iload_n (k := 3) (p := 11) (by decide +kernel) rfl rfl ?_
    by_cases c3 : x3 ≤ x4
    · rw [if_pos c3] at h
      refine fs_icmp_ge_t (off := 58) (t := 69) (by decide +kernel) (by decide +kernel) c3 ?_
      have h := Option.some.inj h
      subst h
      exact fs_ret (by decide +kernel) rt_11
    · rw [if_neg c3] at h
      refine fs_icmp_ge_f (off := 58) (t := 69) (p := 14) (by decide +kernel) (by decide +kernel) rfl c3 ?_
      refine fs_aload_n (k := 1) (p := 15) (by decide +kernel) rfl rfl ?_
      refine fs_iconst (n := 0) (p := 16) (by decide +kernel) rfl kc_0 ?_
      refine fs_iload (k := 4) (p := 18) (by decide +kernel) rfl rfl ?_
      obtain ⟨q5, w4, h⟩ := fx_bd h
      refine fs_callV (idx := 67) (mj := 60) (ci := 6) (na := 2) (mx := 3) (p := 21) (args := [.ref x1, .int (0 : Int32), .int x4]) (rest := []) (al2 := [some (.ref x1), some (.int (0 : Int32)), some (.int x4)]) (by decide +kernel) rfl (by decide +kernel) g1 rfl rfl rfl rfl rfl rfl rfl (by omega) (fun d' hd' => fe_60 (by omega) w4) rfl ?_
      refine fs_iload_n (k := 2) (p := 22) (by decide +kernel) rfl rfl ?_
      by_cases c8 : ¬ q5.1 = x2
      · rw [if_pos c8] at h
        refine fs_icmp_ne_t (off := 41) (t := 63) (by decide +kernel) (by decide +kernel) c8 ?_
        exact fe_11_63 hd ih _ _ _ _ _ _ _ g1 h
      · rw [if_neg c8] at h
        refine fs_icmp_ne_f (off := 41) (t := 63) (p := 25) (by decide +kernel) (by decide +kernel) rfl c8 ?_
        refine fs_aload_n (k := 1) (p := 26) (by decide +kernel) rfl rfl ?_
        refine fs_iconst (n := 2) (p := 27) (by decide +kernel) rfl kc_2 ?_
        refine fs_iload (k := 4) (p := 29) (by decide +kernel) rfl rfl ?_
        obtain ⟨q10, w9, h⟩ := fx_bd h
        refine fs_callV (idx := 67) (mj := 60) (ci := 6) (na := 2) (mx := 3) (p := 32) (args := [.ref x1, .int (2 : Int32), .int x4]) (rest := []) (al2 := [some (.ref x1), some (.int (2 : Int32)), some (.int x4)]) (by decide +kernel) rfl (by decide +kernel) g1 rfl rfl rfl rfl rfl rfl rfl (by omega) (fun d' hd' => fe_60 (by omega) w9) rfl ?_
        refine fs_istore (k := 5) (p := 34) (M := 6) (al' := [some (.ref 62), some (.ref x1), some (.int x2), some (.int x3), some (.int x4), some (.int q10.1)]) (by decide +kernel) rfl mx_11 rfl rfl ?_
        refine fs_aload_n (k := 0) (p := 35) (by decide +kernel) rfl rfl ?_
        refine fs_gfr (idx := 18) (ci := 1) (j := 4) (p := 38) (by decide +kernel) rfl (by decide +kernel) fo_62 (fr_a62_4) ?_
        refine fs_aload_n (k := 0) (p := 39) (by decide +kernel) rfl rfl ?_
        refine fs_gfi (idx := 36) (ci := 1) (j := 2) (p := 42) (by decide +kernel) rfl (by decide +kernel) fo_62 ?_
        refine fs_iconst (n := 4) (p := 43) (by decide +kernel) rfl kc_4 ?_
        refine fs_imul (p := 44) (by decide +kernel) rfl ?_
        refine fs_iload (k := 5) (p := 46) (by decide +kernel) rfl rfl ?_
        refine fs_iadd (p := 47) (by decide +kernel) rfl ?_
        refine fs_dup2 (p := 48) (by decide +kernel) rfl rfl rfl ?_
        obtain ⟨v11, w12, h⟩ := fx_bd h
        refine fs_iaload (p := 49) (by decide +kernel) rfl w12 ?_
        refine fs_iconst (n := 1) (p := 50) (by decide +kernel) rfl kc_1 ?_
        refine fs_iadd (p := 51) (by decide +kernel) rfl ?_
        obtain ⟨t14, w15, h⟩ := fx_bd h
        refine fs_iastore (p := 52) (by decide +kernel) rfl w15 ?_
        refine fs_aload_n (k := 0) (p := 53) (by decide +kernel) rfl rfl ?_
        refine fs_gfr (idx := 21) (ci := 1) (j := 5) (p := 56) (by decide +kernel) rfl (by decide +kernel) fo_62 (fr_a62_5) ?_
        refine fs_iload (k := 5) (p := 58) (by decide +kernel) rfl rfl ?_
        refine fs_dup2 (p := 59) (by decide +kernel) rfl rfl rfl ?_
        obtain ⟨v16, w17, h⟩ := fx_bd h
        refine fs_iaload (p := 60) (by decide +kernel) rfl w17 ?_
        refine fs_iconst (n := 1) (p := 61) (by decide +kernel) rfl kc_1 ?_
        refine fs_iadd (p := 62) (by decide +kernel) rfl ?_
        obtain ⟨t19, w20, h⟩ := fx_bd h
        refine fs_iastore (p := 63) (by decide +kernel) rfl w20 ?_
        exact fe_11_63 hd ih _ _ _ _ _ _ _ g1 h
def fm_11 (x1 : Nat) (x2 : Int32) (σ : fx_S) : Option (fx_S) :=
  if fx_oc x1 6 = true then (
  (fm_58 x1 σ).bind fun q44 =>
  fm_11_8 100000 x1 x2 q44.1 (0 : Int32) q44.2) else none
theorem fe_11 {d : Nat} (hd : 1 ≤ d) {x1 : Nat} {x2 : Int32} {σ : fx_S} {q : fx_S} (h : fm_11 x1 x2 σ = some q) : fx_E none 11 d 0 [some (.ref 62), some (.ref x1), some (.int x2), none, none, none] [] σ none q := by
  unfold fm_11 at h
  obtain ⟨g1, h⟩ := fx_gd h
  refine fs_aload_n (k := 1) (p := 1) (by decide +kernel) rfl rfl ?_
  obtain ⟨q44, w43, h⟩ := fx_bd h
  refine fs_callV (idx := 64) (mj := 58) (ci := 6) (na := 0) (mx := 1) (p := 4) (args := [.ref x1]) (rest := []) (al2 := [some (.ref x1)]) (by decide +kernel) rfl (by decide +kernel) g1 rfl rfl rfl rfl rfl rfl rfl (by omega) (fun d' hd' => fe_58 (by omega) w43) rfl ?_
  refine fs_istore_n (k := 3) (p := 5) (M := 6) (al' := [some (.ref 62), some (.ref x1), some (.int x2), some (.int q44.1), none, none]) (by decide +kernel) rfl mx_11 rfl rfl ?_
  refine fs_iconst (n := 0) (p := 6) (by decide +kernel) rfl kc_0 ?_
  refine fs_istore (k := 4) (p := 8) (M := 6) (al' := [some (.ref 62), some (.ref x1), some (.int x2), some (.int q44.1), some (.int (0 : Int32)), none]) (by decide +kernel) rfl mx_11 rfl rfl ?_
  exact fe_11_8 hd 100000 _ _ _ _ _ _ _ g1 h

/-! ZoneShares$Fitter.load([II)J -/
theorem mx_12 : iv_mx 12 = 4 := by decide +kernel
theorem rt_12 : iv_rt 12 = some .long := by decide +kernel
def fm_12_15 : Nat → Nat → Int32 → Int32 → fx_S → Option (Int64 × fx_S)
  | 0, _, _, _, _ => none
  | n + 1, x1, x2, x3, σ =>
    if (4 : Int32) ≤ x3 then (
      some ((σ.2 62 8), σ)) else (
      (fx_ld σ x1 (x2 + x3)).bind fun v3 =>
      (fm_13 x3 v3 σ).bind fun q8 =>
      fm_12_15 n x1 x2 (x3 + (1 : Int32)) q8)
theorem fe_12_15 {d : Nat} (hd : 1 ≤ d) : ∀ (n : Nat) (x1 : Nat) (x2 : Int32) (x3 : Int32) (σ : fx_S) (q : Int64 × fx_S), fm_12_15 n x1 x2 x3 σ = some q → fx_E none 12 d 15 [some (.ref 62), some (.ref x1), some (.int x2), some (.int x3)] [] σ (some (.long q.1)) q.2 := by
  intro n
  induction n with
  | zero =>
    intro x1 x2 x3 σ q  h
    rw [fm_12_15] at h
    exact fx_no h
  | succ n ih =>
    intro x1 x2 x3 σ q  h
    rw [fm_12_15] at h
    refine fs_iload_n (k := 3) (p := 16) (by decide +kernel) rfl rfl ?_
    refine fs_iconst (n := 4) (p := 17) (by decide +kernel) rfl kc_4 ?_
    by_cases c2 : (4 : Int32) ≤ x3
    · rw [if_pos c2] at h
      refine fs_icmp_ge_t (off := 19) (t := 36) (by decide +kernel) (by decide +kernel) c2 ?_
      refine fs_aload_n (k := 0) (p := 37) (by decide +kernel) rfl rfl ?_
      refine fs_gfl (idx := 70) (ci := 1) (j := 8) (p := 40) (by decide +kernel) rfl (by decide +kernel) fo_62 ?_
      have h := Option.some.inj h
      subst h
      exact fs_lret (by decide +kernel) rt_12
    · rw [if_neg c2] at h
      refine fs_icmp_ge_f (off := 19) (t := 36) (p := 20) (by decide +kernel) (by decide +kernel) rfl c2 ?_
      refine fs_aload_n (k := 0) (p := 21) (by decide +kernel) rfl rfl ?_
      refine fs_iload_n (k := 3) (p := 22) (by decide +kernel) rfl rfl ?_
      refine fs_aload_n (k := 1) (p := 23) (by decide +kernel) rfl rfl ?_
      refine fs_iload_n (k := 2) (p := 24) (by decide +kernel) rfl rfl ?_
      refine fs_iload_n (k := 3) (p := 25) (by decide +kernel) rfl rfl ?_
      refine fs_iadd (p := 26) (by decide +kernel) rfl ?_
      obtain ⟨v3, w4, h⟩ := fx_bd h
      refine fs_iaload (p := 27) (by decide +kernel) rfl w4 ?_
      obtain ⟨q8, w7, h⟩ := fx_bd h
      refine fs_callV (idx := 73) (mj := 13) (ci := 1) (na := 2) (mx := 4) (p := 30) (args := [.ref 62, .int x3, .int v3]) (rest := []) (al2 := [some (.ref 62), some (.int x3), some (.int v3), none]) (by decide +kernel) rfl (by decide +kernel) fo_62 rfl rfl rfl rfl rfl rfl rfl (by omega) (fun d' hd' => fe_13 (by omega) w7) rfl ?_
      refine fs_iinc (k := 3) (n := 1) (p := 33) (M := 4) (al' := [some (.ref 62), some (.ref x1), some (.int x2), some (.int (x3 + (1 : Int32)))]) (by decide +kernel) rfl kc_1 mx_12 rfl rfl rfl ?_
      refine fs_goto (off := -18) (p := 15) (by decide +kernel) (by decide +kernel) ?_
      exact ih _ _ _ _ _ h
def fm_12 (x1 : Nat) (x2 : Int32) (σ : fx_S) : Option (Int64 × fx_S) :=
  (fm_235 68 (0 : Int32) σ).bind fun q12 =>
  fm_12_15 100000 x1 x2 (0 : Int32) (fx_w2 q12 62 8 (0 : Int64))
theorem fe_12 {d : Nat} (hd : 1 ≤ d) {x1 : Nat} {x2 : Int32} {σ : fx_S} {q : Int64 × fx_S} (h : fm_12 x1 x2 σ = some q) : fx_E none 12 d 0 [some (.ref 62), some (.ref x1), some (.int x2), none] [] σ (some (.long q.1)) q.2 := by
  unfold fm_12 at h
  refine fs_aload_n (k := 0) (p := 1) (by decide +kernel) rfl rfl ?_
  refine fs_gfr (idx := 27) (ci := 1) (j := 7) (p := 4) (by decide +kernel) rfl (by decide +kernel) fo_62 (fr_a62_7) ?_
  refine fs_iconst (n := 0) (p := 5) (by decide +kernel) rfl kc_0 ?_
  obtain ⟨q12, w11, h⟩ := fx_bd h
  refine fs_callS (idx := 30) (mj := 235) (na := 2) (mx := 4) (p := 8) (args := [.ref 68, .int (0 : Int32)]) (rest := []) (al2 := [some (.ref 68), some (.int (0 : Int32)), none, none]) (by decide +kernel) rfl (by decide +kernel) rfl rfl rfl rfl rfl rfl rfl (by omega) (fun d' hd' => fe_235 (by omega) w11) rfl ?_
  refine fs_aload_n (k := 0) (p := 9) (by decide +kernel) rfl rfl ?_
  refine fs_lconst (n := 0) (p := 10) (by decide +kernel) rfl kl_0 ?_
  refine fs_pfl (idx := 70) (ci := 1) (j := 8) (p := 13) (by decide +kernel) rfl (by decide +kernel) (by decide +kernel) fo_62 ?_
  refine fs_iconst (n := 0) (p := 14) (by decide +kernel) rfl kc_0 ?_
  refine fs_istore_n (k := 3) (p := 15) (M := 4) (al' := [some (.ref 62), some (.ref x1), some (.int x2), some (.int (0 : Int32))]) (by decide +kernel) rfl mx_12 rfl rfl ?_
  exact fe_12_15 hd 100000 _ _ _ _ _ h

/-! ZoneShares$Fitter.findBest()V -/
theorem mx_15 : iv_mx 15 = 3 := by decide +kernel
theorem rt_15 : iv_rt 15 = none := by decide +kernel
def fm_15_107 (k_80 : Int32 → Int32 → fx_S → Option (fx_S)) (x1 : Int32) (x2 : Int32) (σ : fx_S) : Option (fx_S) :=
  (fm_17 σ).bind fun q2 =>
  k_80 x1 (x2 + (1 : Int32)) q2
theorem fe_15_107 {d : Nat} (hd : 2 ≤ d) {k_80 : Int32 → Int32 → fx_S → Option (fx_S)} (hk_80 : ∀ (x1 : Int32) (x2 : Int32) (σ : fx_S) (q : fx_S), k_80 x1 x2 σ = some q → fx_E none 15 d 80 [some (.ref 62), some (.int x1), some (.int x2)] [] σ none q) (x1 : Int32) (x2 : Int32) (σ : fx_S) (q : fx_S) (h : fm_15_107 k_80  x1 x2 σ = some q) : fx_E none 15 d 107 [some (.ref 62), some (.int x1), some (.int x2)] [] σ none q := by
  unfold fm_15_107 at h
  refine fs_aload_n (k := 0) (p := 108) (by decide +kernel) rfl rfl ?_
  obtain ⟨q2, w1, h⟩ := fx_bd h
  refine fs_callV (idx := 96) (mj := 17) (ci := 1) (na := 0) (mx := 2) (p := 111) (args := [.ref 62]) (rest := []) (al2 := [some (.ref 62), none]) (by decide +kernel) rfl (by decide +kernel) fo_62 rfl rfl rfl rfl rfl rfl rfl (by omega) (fun d' hd' => fe_17 (by omega) w1) rfl ?_
  refine fs_iinc (k := 2) (n := 1) (p := 114) (M := 3) (al' := [some (.ref 62), some (.int x1), some (.int (x2 + (1 : Int32)))]) (by decide +kernel) rfl kc_1 mx_15 rfl rfl rfl ?_
  refine fs_goto (off := -34) (p := 80) (by decide +kernel) (by decide +kernel) ?_
  exact hk_80 _ _ _ _ h
def fm_15_80 : Nat → Int32 → Int32 → fx_S → Option (fx_S)
  | 0, _, _, _ => none
  | n + 1, x1, x2, σ =>
    if x1 ≤ x2 then (
      some σ) else (
      if (σ.2 62 9) ≤ (0 : Int64) then (
        some σ) else (
        if (σ.2 62 8) ≤ (0 : Int64) then (
          fm_15_107 (fm_15_80 n) x1 x2 σ) else (
          (fm_16 σ).bind fun q9 =>
          fm_15_107 (fm_15_80 n) x1 x2 q9)))
theorem fe_15_80 {d : Nat} (hd : 2 ≤ d) : ∀ (n : Nat) (x1 : Int32) (x2 : Int32) (σ : fx_S) (q : fx_S), fm_15_80 n x1 x2 σ = some q → fx_E none 15 d 80 [some (.ref 62), some (.int x1), some (.int x2)] [] σ none q := by
  intro n
  induction n with
  | zero =>
    intro x1 x2 σ q  h
    rw [fm_15_80] at h
    exact fx_no h
  | succ n ih =>
    intro x1 x2 σ q  h
    rw [fm_15_80] at h
    refine fs_iload_n (k := 2) (p := 81) (by decide +kernel) rfl rfl ?_
    refine fs_iload_n (k := 1) (p := 82) (by decide +kernel) rfl rfl ?_
    by_cases c3 : x1 ≤ x2
    · rw [if_pos c3] at h
      refine fs_icmp_ge_t (off := 35) (t := 117) (by decide +kernel) (by decide +kernel) c3 ?_
      have h := Option.some.inj h
      subst h
      exact fs_ret (by decide +kernel) rt_15
    · rw [if_neg c3] at h
      refine fs_icmp_ge_f (off := 35) (t := 117) (p := 85) (by decide +kernel) (by decide +kernel) rfl c3 ?_
      refine fs_aload_n (k := 0) (p := 86) (by decide +kernel) rfl rfl ?_
      refine fs_gfl (idx := 90) (ci := 1) (j := 9) (p := 89) (by decide +kernel) rfl (by decide +kernel) fo_62 ?_
      refine fs_lconst (n := 0) (p := 90) (by decide +kernel) rfl kl_0 ?_
      by_cases c5 : (σ.2 62 9) ≤ (0 : Int64)
      · rw [if_pos c5] at h
        refine fs_lcmp_le_t (off := 26) (t := 117) (by decide +kernel) (by decide +kernel) (by decide +kernel) c5 ?_
        have h := Option.some.inj h
        subst h
        exact fs_ret (by decide +kernel) rt_15
      · rw [if_neg c5] at h
        refine fs_lcmp_le_f (off := 26) (t := 117) (p := 94) (by decide +kernel) (by decide +kernel) (by decide +kernel) rfl c5 ?_
        refine fs_aload_n (k := 0) (p := 95) (by decide +kernel) rfl rfl ?_
        refine fs_gfl (idx := 70) (ci := 1) (j := 8) (p := 98) (by decide +kernel) rfl (by decide +kernel) fo_62 ?_
        refine fs_lconst (n := 0) (p := 99) (by decide +kernel) rfl kl_0 ?_
        by_cases c7 : (σ.2 62 8) ≤ (0 : Int64)
        · rw [if_pos c7] at h
          refine fs_lcmp_le_t (off := 7) (t := 107) (by decide +kernel) (by decide +kernel) (by decide +kernel) c7 ?_
          exact fe_15_107 hd ih _ _ _ _ h
        · rw [if_neg c7] at h
          refine fs_lcmp_le_f (off := 7) (t := 107) (p := 103) (by decide +kernel) (by decide +kernel) (by decide +kernel) rfl c7 ?_
          refine fs_aload_n (k := 0) (p := 104) (by decide +kernel) rfl rfl ?_
          obtain ⟨q9, w8, h⟩ := fx_bd h
          refine fs_callV (idx := 93) (mj := 16) (ci := 1) (na := 0) (mx := 3) (p := 107) (args := [.ref 62]) (rest := []) (al2 := [some (.ref 62), none, none]) (by decide +kernel) rfl (by decide +kernel) fo_62 rfl rfl rfl rfl rfl rfl rfl (by omega) (fun d' hd' => fe_16 (by omega) w8) rfl ?_
          exact fe_15_107 hd ih _ _ _ _ h
def fm_15_51 (k_4 : Int32 → Int32 → fx_S → Option (fx_S)) (x1 : Int32) (x2 : Int32) (s1 : Int32) (s2 : Int32) (σ : fx_S) : Option (fx_S) :=
  (fx_st σ 67 s1 s2).bind fun t1 =>
  k_4 x1 (x2 + (1 : Int32)) t1
theorem fe_15_51 {d : Nat} (hd : 2 ≤ d) {k_4 : Int32 → Int32 → fx_S → Option (fx_S)} (hk_4 : ∀ (x1 : Int32) (x2 : Int32) (σ : fx_S) (q : fx_S), k_4 x1 x2 σ = some q → fx_E none 15 d 4 [some (.ref 62), some (.int x1), some (.int x2)] [] σ none q) (x1 : Int32) (x2 : Int32) (s1 : Int32) (s2 : Int32) (σ : fx_S) (q : fx_S) (h : fm_15_51 k_4  x1 x2 s1 s2 σ = some q) : fx_E none 15 d 51 [some (.ref 62), some (.int x1), some (.int x2)] [.int s2, .int s1, .ref 67] σ none q := by
  unfold fm_15_51 at h
  obtain ⟨t1, w2, h⟩ := fx_bd h
  refine fs_iastore (p := 52) (by decide +kernel) rfl w2 ?_
  refine fs_iinc (k := 2) (n := 1) (p := 55) (M := 3) (al' := [some (.ref 62), some (.int x1), some (.int (x2 + (1 : Int32)))]) (by decide +kernel) rfl kc_1 mx_15 rfl rfl rfl ?_
  refine fs_goto (off := -51) (p := 4) (by decide +kernel) (by decide +kernel) ?_
  exact hk_4 _ _ _ _ h
def fm_15_25 (k_4 : Int32 → Int32 → fx_S → Option (fx_S)) (x2 : Int32) (s0 : Int32) (s1 : Int32) (σ : fx_S) : Option (fx_S) :=
  (fx_ld σ 66 x2).bind fun v1 =>
  if v1 ≤ 0 then (
    (fx_ld σ 63 x2).bind fun v6 =>
    fm_15_51 k_4 (s0 * s1) x2 x2 v6 σ) else (
    fm_15_51 k_4 (s0 * s1) x2 x2 (0 : Int32) σ)
theorem fe_15_25 {d : Nat} (hd : 2 ≤ d) {k_4 : Int32 → Int32 → fx_S → Option (fx_S)} (hk_4 : ∀ (x1 : Int32) (x2 : Int32) (σ : fx_S) (q : fx_S), k_4 x1 x2 σ = some q → fx_E none 15 d 4 [some (.ref 62), some (.int x1), some (.int x2)] [] σ none q) (x2 : Int32) (s0 : Int32) (s1 : Int32) (o1 : Option Value) (σ : fx_S) (q : fx_S) (h : fm_15_25 k_4  x2 s0 s1 σ = some q) : fx_E none 15 d 25 [some (.ref 62), o1, some (.int x2)] [.int s1, .int s0] σ none q := by
  unfold fm_15_25 at h
  refine fs_imul (p := 26) (by decide +kernel) rfl ?_
  refine fs_istore_n (k := 1) (p := 27) (M := 3) (al' := [some (.ref 62), some (.int (s0 * s1)), some (.int x2)]) (by decide +kernel) rfl mx_15 rfl rfl ?_
  refine fs_aload_n (k := 0) (p := 28) (by decide +kernel) rfl rfl ?_
  refine fs_gfr (idx := 24) (ci := 1) (j := 6) (p := 31) (by decide +kernel) rfl (by decide +kernel) fo_62 (fr_a62_6) ?_
  refine fs_iload_n (k := 2) (p := 32) (by decide +kernel) rfl rfl ?_
  refine fs_aload_n (k := 0) (p := 33) (by decide +kernel) rfl rfl ?_
  refine fs_gfr (idx := 21) (ci := 1) (j := 5) (p := 36) (by decide +kernel) rfl (by decide +kernel) fo_62 (fr_a62_5) ?_
  refine fs_iload_n (k := 2) (p := 37) (by decide +kernel) rfl rfl ?_
  obtain ⟨v1, w2, h⟩ := fx_bd h
  refine fs_iaload (p := 38) (by decide +kernel) rfl w2 ?_
  by_cases c5 : v1 ≤ 0
  · rw [if_pos c5] at h
    refine fs_if_le_t (off := 7) (t := 45) (by decide +kernel) (by decide +kernel) c5 ?_
    refine fs_aload_n (k := 0) (p := 46) (by decide +kernel) rfl rfl ?_
    refine fs_gfr (idx := 9) (ci := 1) (j := 0) (p := 49) (by decide +kernel) rfl (by decide +kernel) fo_62 (fr_a62_0) ?_
    refine fs_iload_n (k := 2) (p := 50) (by decide +kernel) rfl rfl ?_
    obtain ⟨v6, w7, h⟩ := fx_bd h
    refine fs_iaload (p := 51) (by decide +kernel) rfl w7 ?_
    exact fe_15_51 hd hk_4 _ _ _ _ _ _ h
  · rw [if_neg c5] at h
    refine fs_if_le_f (off := 7) (t := 45) (p := 41) (by decide +kernel) (by decide +kernel) rfl c5 ?_
    refine fs_iconst (n := 0) (p := 42) (by decide +kernel) rfl kc_0 ?_
    refine fs_goto (off := 9) (p := 51) (by decide +kernel) (by decide +kernel) ?_
    exact fe_15_51 hd hk_4 _ _ _ _ _ _ h
def fm_15_4 : Nat → Int32 → Int32 → fx_S → Option (fx_S)
  | 0, _, _, _ => none
  | n + 1, x1, x2, σ =>
    if (4 : Int32) ≤ x2 then (
      (fm_12 67 (0 : Int32) σ).bind fun q4 =>
      fm_15_80 100000 x1 (0 : Int32) (fx_w2 (fx_w2 q4.2 62 10 (0 : Int64)) 62 9 (1 : Int64))) else (
      (fx_ld σ 66 x2).bind fun v5 =>
      if v5 ≤ 0 then (
        fm_15_25 (fm_15_4 n) x2 x1 (1 : Int32) σ) else (
        fm_15_25 (fm_15_4 n) x2 x1 (10 : Int32) σ))
theorem fe_15_4 {d : Nat} (hd : 2 ≤ d) : ∀ (n : Nat) (x1 : Int32) (x2 : Int32) (σ : fx_S) (q : fx_S), fm_15_4 n x1 x2 σ = some q → fx_E none 15 d 4 [some (.ref 62), some (.int x1), some (.int x2)] [] σ none q := by
  intro n
  induction n with
  | zero =>
    intro x1 x2 σ q  h
    rw [fm_15_4] at h
    exact fx_no h
  | succ n ih =>
    intro x1 x2 σ q  h
    rw [fm_15_4] at h
    refine fs_iload_n (k := 2) (p := 5) (by decide +kernel) rfl rfl ?_
    refine fs_iconst (n := 4) (p := 6) (by decide +kernel) rfl kc_4 ?_
    by_cases c2 : (4 : Int32) ≤ x2
    · rw [if_pos c2] at h
      refine fs_icmp_ge_t (off := 52) (t := 58) (by decide +kernel) (by decide +kernel) c2 ?_
      refine fs_aload_n (k := 0) (p := 59) (by decide +kernel) rfl rfl ?_
      refine fs_aload_n (k := 0) (p := 60) (by decide +kernel) rfl rfl ?_
      refine fs_gfr (idx := 24) (ci := 1) (j := 6) (p := 63) (by decide +kernel) rfl (by decide +kernel) fo_62 (fr_a62_6) ?_
      refine fs_iconst (n := 0) (p := 64) (by decide +kernel) rfl kc_0 ?_
      obtain ⟨q4, w3, h⟩ := fx_bd h
      refine fs_callV (idx := 83) (mj := 12) (ci := 1) (na := 2) (mx := 4) (p := 67) (args := [.ref 62, .ref 67, .int (0 : Int32)]) (rest := []) (al2 := [some (.ref 62), some (.ref 67), some (.int (0 : Int32)), none]) (by decide +kernel) rfl (by decide +kernel) fo_62 rfl rfl rfl rfl rfl rfl rfl (by omega) (fun d' hd' => fe_12 (by omega) w3) rfl ?_
      refine fs_pop2 (p := 68) (by decide +kernel) rfl rfl ?_
      refine fs_aload_n (k := 0) (p := 69) (by decide +kernel) rfl rfl ?_
      refine fs_lconst (n := 0) (p := 70) (by decide +kernel) rfl kl_0 ?_
      refine fs_pfl (idx := 87) (ci := 1) (j := 10) (p := 73) (by decide +kernel) rfl (by decide +kernel) (by decide +kernel) fo_62 ?_
      refine fs_aload_n (k := 0) (p := 74) (by decide +kernel) rfl rfl ?_
      refine fs_lconst (n := 1) (p := 75) (by decide +kernel) rfl kl_1 ?_
      refine fs_pfl (idx := 90) (ci := 1) (j := 9) (p := 78) (by decide +kernel) rfl (by decide +kernel) (by decide +kernel) fo_62 ?_
      refine fs_iconst (n := 0) (p := 79) (by decide +kernel) rfl kc_0 ?_
      refine fs_istore_n (k := 2) (p := 80) (M := 3) (al' := [some (.ref 62), some (.int x1), some (.int (0 : Int32))]) (by decide +kernel) rfl mx_15 rfl rfl ?_
      exact fe_15_80 hd 100000 _ _ _ _ h
    · rw [if_neg c2] at h
      refine fs_icmp_ge_f (off := 52) (t := 58) (p := 9) (by decide +kernel) (by decide +kernel) rfl c2 ?_
      refine fs_iload_n (k := 1) (p := 10) (by decide +kernel) rfl rfl ?_
      refine fs_aload_n (k := 0) (p := 11) (by decide +kernel) rfl rfl ?_
      refine fs_gfr (idx := 21) (ci := 1) (j := 5) (p := 14) (by decide +kernel) rfl (by decide +kernel) fo_62 (fr_a62_5) ?_
      refine fs_iload_n (k := 2) (p := 15) (by decide +kernel) rfl rfl ?_
      obtain ⟨v5, w6, h⟩ := fx_bd h
      refine fs_iaload (p := 16) (by decide +kernel) rfl w6 ?_
      by_cases c9 : v5 ≤ 0
      · rw [if_pos c9] at h
        refine fs_if_le_t (off := 8) (t := 24) (by decide +kernel) (by decide +kernel) c9 ?_
        refine fs_iconst (n := 1) (p := 25) (by decide +kernel) rfl kc_1 ?_
        exact fe_15_25 hd ih _ _ _ _ _ _ h
      · rw [if_neg c9] at h
        refine fs_if_le_f (off := 8) (t := 24) (p := 19) (by decide +kernel) (by decide +kernel) rfl c9 ?_
        refine fs_bipush (n := 10) (p := 21) (by decide +kernel) rfl kb_10 ?_
        refine fs_goto (off := 4) (p := 25) (by decide +kernel) (by decide +kernel) ?_
        exact fe_15_25 hd ih _ _ _ _ _ _ h
def fm_15 (σ : fx_S) : Option (fx_S) :=
  fm_15_4 100000 (1 : Int32) (0 : Int32) σ
theorem fe_15 {d : Nat} (hd : 2 ≤ d) {σ : fx_S} {q : fx_S} (h : fm_15 σ = some q) : fx_E none 15 d 0 [some (.ref 62), none, none] [] σ none q := by
  unfold fm_15 at h
  refine fs_iconst (n := 1) (p := 1) (by decide +kernel) rfl kc_1 ?_
  refine fs_istore_n (k := 1) (p := 2) (M := 3) (al' := [some (.ref 62), some (.int (1 : Int32)), none]) (by decide +kernel) rfl mx_15 rfl rfl ?_
  refine fs_iconst (n := 0) (p := 3) (by decide +kernel) rfl kc_0 ?_
  refine fs_istore_n (k := 2) (p := 4) (M := 3) (al' := [some (.ref 62), some (.int (1 : Int32)), some (.int (0 : Int32))]) (by decide +kernel) rfl mx_15 rfl rfl ?_
  exact fe_15_4 hd 100000 _ _ _ _ h

/-! ZoneShares$Group.topOf(I)I -/
theorem mx_27 : iv_mx 27 = 4 := by decide +kernel
theorem rt_27 : iv_rt 27 = some .int := by decide +kernel
def fm_27_47 (x0 : Nat) (x2 : Int32) (s0 : Int32) (σ : fx_S) : Option (Int32 × fx_S) :=
  (fx_ld σ (x0 + 1) x2).bind fun v1 =>
  some ((v1 * s0), σ)
theorem fe_27_47 {d : Nat} (hd : 2 ≤ d) (x0 : Nat) (x2 : Int32) (s0 : Int32) (o1 : Option Value) (σ : fx_S) (q : Int32 × fx_S) (g0 : fx_oc x0 2 = true) (h : fm_27_47  x0 x2 s0 σ = some q) : fx_E none 27 d 47 [some (.ref x0), o1, some (.int x2), none] [.int s0] σ (some (.int q.1)) q.2 := by
  unfold fm_27_47 at h
  refine fs_istore_n (k := 3) (p := 48) (M := 4) (al' := [some (.ref x0), o1, some (.int x2), some (.int s0)]) (by decide +kernel) rfl mx_27 rfl rfl ?_
  refine fs_aload_n (k := 0) (p := 49) (by decide +kernel) rfl rfl ?_
  refine fs_gfr (idx := 9) (ci := 2) (j := 0) (p := 52) (by decide +kernel) rfl (by decide +kernel) g0 (fr_2_0 g0) ?_
  refine fs_iload_n (k := 2) (p := 53) (by decide +kernel) rfl rfl ?_
  obtain ⟨v1, w2, h⟩ := fx_bd h
  refine fs_iaload (p := 54) (by decide +kernel) rfl w2 ?_
  refine fs_iload_n (k := 3) (p := 55) (by decide +kernel) rfl rfl ?_
  refine fs_imul (p := 56) (by decide +kernel) rfl ?_
  have h := Option.some.inj h
  subst h
  exact fs_iret (by decide +kernel) rt_27
def fm_27 (x0 : Nat) (x1 : Int32) (σ : fx_S) : Option (Int32 × fx_S) :=
  if fx_oc x0 2 = true then (
  (fm_60 1 (0 : Int32) x1 σ).bind fun q16 =>
  if q16.1 < (8 : Int32) then (
    (fx_ld q16.2 ((x0 + 3) + 3) q16.1).bind fun v19 =>
    if ¬ v19 = (1 : Int32) then (
      (fm_61 1 (q16.2.1 x0 9) x1 q16.2).bind fun q25 =>
      fm_27_47 x0 q16.1 q25.1 q25.2) else (
      fm_27_47 x0 q16.1 (1 : Int32) q16.2)) else (
    some ((0 : Int32), q16.2))) else none
theorem fe_27 {d : Nat} (hd : 2 ≤ d) {x0 : Nat} {x1 : Int32} {σ : fx_S} {q : Int32 × fx_S} (h : fm_27 x0 x1 σ = some q) : fx_E none 27 d 0 [some (.ref x0), some (.int x1), none, none] [] σ (some (.int q.1)) q.2 := by
  unfold fm_27 at h
  obtain ⟨g0, h⟩ := fx_gd h
  refine fs_aload_n (k := 0) (p := 1) (by decide +kernel) rfl rfl ?_
  refine fs_gfr (idx := 41) (ci := 2) (j := 10) (p := 4) (by decide +kernel) rfl (by decide +kernel) g0 (fr_2_10 g0) ?_
  refine fs_iconst (n := 0) (p := 5) (by decide +kernel) rfl kc_0 ?_
  refine fs_iload_n (k := 1) (p := 6) (by decide +kernel) rfl rfl ?_
  obtain ⟨q16, w15, h⟩ := fx_bd h
  refine fs_callV (idx := 136) (mj := 60) (ci := 6) (na := 2) (mx := 3) (p := 9) (args := [.ref 1, .int (0 : Int32), .int x1]) (rest := []) (al2 := [some (.ref 1), some (.int (0 : Int32)), some (.int x1)]) (by decide +kernel) rfl (by decide +kernel) fo_1 rfl rfl rfl rfl rfl rfl rfl (by omega) (fun d' hd' => fe_60 (by omega) w15) rfl ?_
  refine fs_istore_n (k := 2) (p := 10) (M := 4) (al' := [some (.ref x0), some (.int x1), some (.int q16.1), none]) (by decide +kernel) rfl mx_27 rfl rfl ?_
  refine fs_iload_n (k := 2) (p := 11) (by decide +kernel) rfl rfl ?_
  refine fs_bipush (n := 8) (p := 13) (by decide +kernel) rfl kb_8 ?_
  by_cases c18 : q16.1 < (8 : Int32)
  · rw [if_pos c18] at h
    refine fs_icmp_lt_t (off := 5) (t := 18) (by decide +kernel) (by decide +kernel) c18 ?_
    refine fs_aload_n (k := 0) (p := 19) (by decide +kernel) rfl rfl ?_
    refine fs_gfr (idx := 21) (ci := 2) (j := 2) (p := 22) (by decide +kernel) rfl (by decide +kernel) g0 (fr_2_2 g0) ?_
    refine fs_gfr (idx := 148) (ci := 7) (j := 2) (p := 25) (by decide +kernel) rfl (by decide +kernel) (fg_2_2 g0) (fr_7_2 (fg_2_2 g0)) ?_
    refine fs_iload_n (k := 2) (p := 26) (by decide +kernel) rfl rfl ?_
    obtain ⟨v19, w20, h⟩ := fx_bd h
    refine fs_iaload (p := 27) (by decide +kernel) rfl w20 ?_
    refine fs_iconst (n := 1) (p := 28) (by decide +kernel) rfl kc_1 ?_
    by_cases c23 : ¬ v19 = (1 : Int32)
    · rw [if_pos c23] at h
      refine fs_icmp_ne_t (off := 7) (t := 35) (by decide +kernel) (by decide +kernel) c23 ?_
      refine fs_aload_n (k := 0) (p := 36) (by decide +kernel) rfl rfl ?_
      refine fs_gfr (idx := 41) (ci := 2) (j := 10) (p := 39) (by decide +kernel) rfl (by decide +kernel) g0 (fr_2_10 g0) ?_
      refine fs_aload_n (k := 0) (p := 40) (by decide +kernel) rfl rfl ?_
      refine fs_gfi (idx := 37) (ci := 2) (j := 9) (p := 43) (by decide +kernel) rfl (by decide +kernel) g0 ?_
      refine fs_iload_n (k := 1) (p := 44) (by decide +kernel) rfl rfl ?_
      obtain ⟨q25, w24, h⟩ := fx_bd h
      refine fs_callV (idx := 139) (mj := 61) (ci := 6) (na := 2) (mx := 3) (p := 47) (args := [.ref 1, .int (q16.2.1 x0 9), .int x1]) (rest := []) (al2 := [some (.ref 1), some (.int (q16.2.1 x0 9)), some (.int x1)]) (by decide +kernel) rfl (by decide +kernel) fo_1 rfl rfl rfl rfl rfl rfl rfl (by omega) (fun d' hd' => fe_61 (by omega) w24) rfl ?_
      exact fe_27_47 hd _ _ _ _ _ _ g0 h
    · rw [if_neg c23] at h
      refine fs_icmp_ne_f (off := 7) (t := 35) (p := 31) (by decide +kernel) (by decide +kernel) rfl c23 ?_
      refine fs_iconst (n := 1) (p := 32) (by decide +kernel) rfl kc_1 ?_
      refine fs_goto (off := 15) (p := 47) (by decide +kernel) (by decide +kernel) ?_
      exact fe_27_47 hd _ _ _ _ _ _ g0 h
  · rw [if_neg c18] at h
    refine fs_icmp_lt_f (off := 5) (t := 18) (p := 16) (by decide +kernel) (by decide +kernel) rfl c18 ?_
    refine fs_iconst (n := 0) (p := 17) (by decide +kernel) rfl kc_0 ?_
    have h := Option.some.inj h
    subst h
    exact fs_iret (by decide +kernel) rt_27

/-! ZoneShares$Group.underOf(I)I -/
theorem mx_28 : iv_mx 28 = 3 := by decide +kernel
theorem rt_28 : iv_rt 28 = some .int := by decide +kernel
def fm_28 (x0 : Nat) (x1 : Int32) (σ : fx_S) : Option (Int32 × fx_S) :=
  if fx_oc x0 2 = true then (
  (fm_60 1 (0 : Int32) x1 σ).bind fun q9 =>
  if (8 : Int32) ≤ q9.1 then (
    some ((1 : Int32), q9.2)) else (
    (fx_ld q9.2 ((x0 + 3) + 2) q9.1).bind fun v12 =>
    some (v12, q9.2))) else none
theorem fe_28 {d : Nat} (hd : 1 ≤ d) {x0 : Nat} {x1 : Int32} {σ : fx_S} {q : Int32 × fx_S} (h : fm_28 x0 x1 σ = some q) : fx_E none 28 d 0 [some (.ref x0), some (.int x1), none] [] σ (some (.int q.1)) q.2 := by
  unfold fm_28 at h
  obtain ⟨g0, h⟩ := fx_gd h
  refine fs_aload_n (k := 0) (p := 1) (by decide +kernel) rfl rfl ?_
  refine fs_gfr (idx := 41) (ci := 2) (j := 10) (p := 4) (by decide +kernel) rfl (by decide +kernel) g0 (fr_2_10 g0) ?_
  refine fs_iconst (n := 0) (p := 5) (by decide +kernel) rfl kc_0 ?_
  refine fs_iload_n (k := 1) (p := 6) (by decide +kernel) rfl rfl ?_
  obtain ⟨q9, w8, h⟩ := fx_bd h
  refine fs_callV (idx := 136) (mj := 60) (ci := 6) (na := 2) (mx := 3) (p := 9) (args := [.ref 1, .int (0 : Int32), .int x1]) (rest := []) (al2 := [some (.ref 1), some (.int (0 : Int32)), some (.int x1)]) (by decide +kernel) rfl (by decide +kernel) fo_1 rfl rfl rfl rfl rfl rfl rfl (by omega) (fun d' hd' => fe_60 (by omega) w8) rfl ?_
  refine fs_istore_n (k := 2) (p := 10) (M := 3) (al' := [some (.ref x0), some (.int x1), some (.int q9.1)]) (by decide +kernel) rfl mx_28 rfl rfl ?_
  refine fs_iload_n (k := 2) (p := 11) (by decide +kernel) rfl rfl ?_
  refine fs_bipush (n := 8) (p := 13) (by decide +kernel) rfl kb_8 ?_
  by_cases c11 : (8 : Int32) ≤ q9.1
  · rw [if_pos c11] at h
    refine fs_icmp_ge_t (off := 15) (t := 28) (by decide +kernel) (by decide +kernel) c11 ?_
    refine fs_iconst (n := 1) (p := 29) (by decide +kernel) rfl kc_1 ?_
    have h := Option.some.inj h
    subst h
    exact fs_iret (by decide +kernel) rt_28
  · rw [if_neg c11] at h
    refine fs_icmp_ge_f (off := 15) (t := 28) (p := 16) (by decide +kernel) (by decide +kernel) rfl c11 ?_
    refine fs_aload_n (k := 0) (p := 17) (by decide +kernel) rfl rfl ?_
    refine fs_gfr (idx := 21) (ci := 2) (j := 2) (p := 20) (by decide +kernel) rfl (by decide +kernel) g0 (fr_2_2 g0) ?_
    refine fs_gfr (idx := 151) (ci := 7) (j := 1) (p := 23) (by decide +kernel) rfl (by decide +kernel) (fg_2_2 g0) (fr_7_1 (fg_2_2 g0)) ?_
    refine fs_iload_n (k := 2) (p := 24) (by decide +kernel) rfl rfl ?_
    obtain ⟨v12, w13, h⟩ := fx_bd h
    refine fs_iaload (p := 25) (by decide +kernel) rfl w13 ?_
    refine fs_goto (off := 4) (p := 29) (by decide +kernel) (by decide +kernel) ?_
    have h := Option.some.inj h
    subst h
    exact fs_iret (by decide +kernel) rt_28

/-! ZoneShares$Group.sortCells()V -/
theorem mx_29 : iv_mx 29 = 8 := by decide +kernel
theorem rt_29 : iv_rt 29 = none := by decide +kernel
def fm_29_97 (k_10 : Nat → Int32 → Int32 → fx_S → Option (fx_S)) (x0 : Nat) (x1 : Int32) (x2 : Int32) (x7 : Int32) (σ : fx_S) : Option (fx_S) :=
  (fx_st σ (x0 + 2) x7 x2).bind fun t1 =>
  k_10 x0 x1 (x2 + (1 : Int32)) t1
theorem fe_29_97 {d : Nat} (hd : 3 ≤ d) {k_10 : Nat → Int32 → Int32 → fx_S → Option (fx_S)} (hk_10 : ∀ (x0 : Nat) (x1 : Int32) (x2 : Int32) (o3 : Option Value) (o5 : Option Value) (o7 : Option Value) (σ : fx_S) (q : fx_S) (g0 : fx_oc x0 2 = true), k_10 x0 x1 x2 σ = some q → fx_E none 29 d 10 [some (.ref x0), some (.int x1), some (.int x2), o3, none, o5, none, o7] [] σ none q) (x0 : Nat) (x1 : Int32) (x2 : Int32) (x7 : Int32) (o3 : Option Value) (o5 : Option Value) (σ : fx_S) (q : fx_S) (g0 : fx_oc x0 2 = true) (h : fm_29_97 k_10  x0 x1 x2 x7 σ = some q) : fx_E none 29 d 97 [some (.ref x0), some (.int x1), some (.int x2), o3, none, o5, none, some (.int x7)] [] σ none q := by
  unfold fm_29_97 at h
  refine fs_aload_n (k := 0) (p := 98) (by decide +kernel) rfl rfl ?_
  refine fs_gfr (idx := 15) (ci := 2) (j := 1) (p := 101) (by decide +kernel) rfl (by decide +kernel) g0 (fr_2_1 g0) ?_
  refine fs_iload (k := 7) (p := 103) (by decide +kernel) rfl rfl ?_
  refine fs_iload_n (k := 2) (p := 104) (by decide +kernel) rfl rfl ?_
  obtain ⟨t1, w2, h⟩ := fx_bd h
  refine fs_iastore (p := 105) (by decide +kernel) rfl w2 ?_
  refine fs_iinc (k := 2) (n := 1) (p := 108) (M := 8) (al' := [some (.ref x0), some (.int x1), some (.int (x2 + (1 : Int32))), o3, none, o5, none, some (.int x7)]) (by decide +kernel) rfl kc_1 mx_29 rfl rfl rfl ?_
  refine fs_goto (off := -98) (p := 10) (by decide +kernel) (by decide +kernel) ?_
  exact hk_10 _ _ _ _ _ _ _ _ g0 h
def fm_29_33 (k_10 : Nat → Int32 → Int32 → fx_S → Option (fx_S)) : Nat → Nat → Int32 → Int32 → Int64 → Int64 → Int32 → fx_S → Option (fx_S)
  | 0, _, _, _, _, _, _, _ => none
  | n + 1, x0, x1, x2, x3, x5, x7, σ =>
    if x7 ≤ 0 then (
      fm_29_97 k_10 x0 x1 x2 x7 σ) else (
      (fx_ld σ (x0 + 2) (x7 - (1 : Int32))).bind fun v3 =>
      (fm_28 x0 v3 σ).bind fun q7 =>
      (fx_ld q7.2 (x0 + 2) (x7 - (1 : Int32))).bind fun v9 =>
      (fm_27 x0 v9 q7.2).bind fun q12 =>
      if (x3 * (q7.1).toInt64) ≤ ((q12.1).toInt64 * x5) then (
        fm_29_97 k_10 x0 x1 x2 x7 q12.2) else (
        (fx_ld q12.2 (x0 + 2) (x7 - (1 : Int32))).bind fun v17 =>
        (fx_st q12.2 (x0 + 2) x7 v17).bind fun t19 =>
        fm_29_33 k_10 n x0 x1 x2 x3 x5 (x7 + (-1 : Int32)) t19))
theorem fe_29_33 {d : Nat} (hd : 3 ≤ d) {k_10 : Nat → Int32 → Int32 → fx_S → Option (fx_S)} (hk_10 : ∀ (x0 : Nat) (x1 : Int32) (x2 : Int32) (o3 : Option Value) (o5 : Option Value) (o7 : Option Value) (σ : fx_S) (q : fx_S) (g0 : fx_oc x0 2 = true), k_10 x0 x1 x2 σ = some q → fx_E none 29 d 10 [some (.ref x0), some (.int x1), some (.int x2), o3, none, o5, none, o7] [] σ none q) : ∀ (n : Nat) (x0 : Nat) (x1 : Int32) (x2 : Int32) (x3 : Int64) (x5 : Int64) (x7 : Int32) (σ : fx_S) (q : fx_S) (g0 : fx_oc x0 2 = true), fm_29_33 k_10 n x0 x1 x2 x3 x5 x7 σ = some q → fx_E none 29 d 33 [some (.ref x0), some (.int x1), some (.int x2), some (.long x3), none, some (.long x5), none, some (.int x7)] [] σ none q := by
  intro n
  induction n with
  | zero =>
    intro x0 x1 x2 x3 x5 x7 σ q g0 h
    rw [fm_29_33] at h
    exact fx_no h
  | succ n ih =>
    intro x0 x1 x2 x3 x5 x7 σ q g0 h
    rw [fm_29_33] at h
    refine fs_iload (k := 7) (p := 35) (by decide +kernel) rfl rfl ?_
    by_cases c2 : x7 ≤ 0
    · rw [if_pos c2] at h
      refine fs_if_le_t (off := 62) (t := 97) (by decide +kernel) (by decide +kernel) c2 ?_
      exact fe_29_97 hd hk_10 _ _ _ _ _ _ _ _ g0 h
    · rw [if_neg c2] at h
      refine fs_if_le_f (off := 62) (t := 97) (p := 38) (by decide +kernel) (by decide +kernel) rfl c2 ?_
      refine fs_lload_n (k := 3) (p := 39) (by decide +kernel) rfl rfl ?_
      refine fs_aload_n (k := 0) (p := 40) (by decide +kernel) rfl rfl ?_
      refine fs_aload_n (k := 0) (p := 41) (by decide +kernel) rfl rfl ?_
      refine fs_gfr (idx := 15) (ci := 2) (j := 1) (p := 44) (by decide +kernel) rfl (by decide +kernel) g0 (fr_2_1 g0) ?_
      refine fs_iload (k := 7) (p := 46) (by decide +kernel) rfl rfl ?_
      refine fs_iconst (n := 1) (p := 47) (by decide +kernel) rfl kc_1 ?_
      refine fs_isub (p := 48) (by decide +kernel) rfl ?_
      obtain ⟨v3, w4, h⟩ := fx_bd h
      refine fs_iaload (p := 49) (by decide +kernel) rfl w4 ?_
      obtain ⟨q7, w6, h⟩ := fx_bd h
      refine fs_callV (idx := 157) (mj := 28) (ci := 2) (na := 1) (mx := 3) (p := 52) (args := [.ref x0, .int v3]) (rest := [.long x3]) (al2 := [some (.ref x0), some (.int v3), none]) (by decide +kernel) rfl (by decide +kernel) g0 rfl rfl rfl rfl rfl rfl rfl (by omega) (fun d' hd' => fe_28 (by omega) w6) rfl ?_
      refine fs_i2l (p := 53) (by decide +kernel) rfl ?_
      refine fs_lmul (p := 54) (by decide +kernel) rfl ?_
      refine fs_aload_n (k := 0) (p := 55) (by decide +kernel) rfl rfl ?_
      refine fs_aload_n (k := 0) (p := 56) (by decide +kernel) rfl rfl ?_
      refine fs_gfr (idx := 15) (ci := 2) (j := 1) (p := 59) (by decide +kernel) rfl (by decide +kernel) g0 (fr_2_1 g0) ?_
      refine fs_iload (k := 7) (p := 61) (by decide +kernel) rfl rfl ?_
      refine fs_iconst (n := 1) (p := 62) (by decide +kernel) rfl kc_1 ?_
      refine fs_isub (p := 63) (by decide +kernel) rfl ?_
      obtain ⟨v9, w10, h⟩ := fx_bd h
      refine fs_iaload (p := 64) (by decide +kernel) rfl w10 ?_
      obtain ⟨q12, w11, h⟩ := fx_bd h
      refine fs_callV (idx := 154) (mj := 27) (ci := 2) (na := 1) (mx := 4) (p := 67) (args := [.ref x0, .int v9]) (rest := [.long (x3 * (q7.1).toInt64)]) (al2 := [some (.ref x0), some (.int v9), none, none]) (by decide +kernel) rfl (by decide +kernel) g0 rfl rfl rfl rfl rfl rfl rfl (by omega) (fun d' hd' => fe_27 (by omega) w11) rfl ?_
      refine fs_i2l (p := 68) (by decide +kernel) rfl ?_
      refine fs_lload (k := 5) (p := 70) (by decide +kernel) rfl rfl ?_
      refine fs_lmul (p := 71) (by decide +kernel) rfl ?_
      by_cases c16 : (x3 * (q7.1).toInt64) ≤ ((q12.1).toInt64 * x5)
      · rw [if_pos c16] at h
        refine fs_lcmp_le_t (off := 25) (t := 97) (by decide +kernel) (by decide +kernel) (by decide +kernel) c16 ?_
        exact fe_29_97 hd hk_10 _ _ _ _ _ _ _ _ g0 h
      · rw [if_neg c16] at h
        refine fs_lcmp_le_f (off := 25) (t := 97) (p := 75) (by decide +kernel) (by decide +kernel) (by decide +kernel) rfl c16 ?_
        refine fs_aload_n (k := 0) (p := 76) (by decide +kernel) rfl rfl ?_
        refine fs_gfr (idx := 15) (ci := 2) (j := 1) (p := 79) (by decide +kernel) rfl (by decide +kernel) g0 (fr_2_1 g0) ?_
        refine fs_iload (k := 7) (p := 81) (by decide +kernel) rfl rfl ?_
        refine fs_aload_n (k := 0) (p := 82) (by decide +kernel) rfl rfl ?_
        refine fs_gfr (idx := 15) (ci := 2) (j := 1) (p := 85) (by decide +kernel) rfl (by decide +kernel) g0 (fr_2_1 g0) ?_
        refine fs_iload (k := 7) (p := 87) (by decide +kernel) rfl rfl ?_
        refine fs_iconst (n := 1) (p := 88) (by decide +kernel) rfl kc_1 ?_
        refine fs_isub (p := 89) (by decide +kernel) rfl ?_
        obtain ⟨v17, w18, h⟩ := fx_bd h
        refine fs_iaload (p := 90) (by decide +kernel) rfl w18 ?_
        obtain ⟨t19, w20, h⟩ := fx_bd h
        refine fs_iastore (p := 91) (by decide +kernel) rfl w20 ?_
        refine fs_iinc (k := 7) (n := -1) (p := 94) (M := 8) (al' := [some (.ref x0), some (.int x1), some (.int x2), some (.long x3), none, some (.long x5), none, some (.int (x7 + (-1 : Int32)))]) (by decide +kernel) rfl kc_m1 mx_29 rfl rfl rfl ?_
        refine fs_goto (off := -61) (p := 33) (by decide +kernel) (by decide +kernel) ?_
        exact ih _ _ _ _ _ _ _ _ g0 h
def fm_29_10 : Nat → Nat → Int32 → Int32 → fx_S → Option (fx_S)
  | 0, _, _, _, _ => none
  | n + 1, x0, x1, x2, σ =>
    if x1 ≤ x2 then (
      some σ) else (
      (fm_27 x0 x2 σ).bind fun q5 =>
      (fm_28 x0 x2 q5.2).bind fun q8 =>
      fm_29_33 (fm_29_10 n) 100000 x0 x1 x2 ((q5.1).toInt64) ((q8.1).toInt64) x2 q8.2)
theorem fe_29_10 {d : Nat} (hd : 3 ≤ d) : ∀ (n : Nat) (x0 : Nat) (x1 : Int32) (x2 : Int32) (o3 : Option Value) (o5 : Option Value) (o7 : Option Value) (σ : fx_S) (q : fx_S) (g0 : fx_oc x0 2 = true), fm_29_10 n x0 x1 x2 σ = some q → fx_E none 29 d 10 [some (.ref x0), some (.int x1), some (.int x2), o3, none, o5, none, o7] [] σ none q := by
  intro n
  induction n with
  | zero =>
    intro x0 x1 x2 o3 o5 o7 σ q g0 h
    rw [fm_29_10] at h
    exact fx_no h
  | succ n ih =>
    intro x0 x1 x2 o3 o5 o7 σ q g0 h
    rw [fm_29_10] at h
    refine fs_iload_n (k := 2) (p := 11) (by decide +kernel) rfl rfl ?_
    refine fs_iload_n (k := 1) (p := 12) (by decide +kernel) rfl rfl ?_
    by_cases c3 : x1 ≤ x2
    · rw [if_pos c3] at h
      refine fs_icmp_ge_t (off := 99) (t := 111) (by decide +kernel) (by decide +kernel) c3 ?_
      have h := Option.some.inj h
      subst h
      exact fs_ret (by decide +kernel) rt_29
    · rw [if_neg c3] at h
      refine fs_icmp_ge_f (off := 99) (t := 111) (p := 15) (by decide +kernel) (by decide +kernel) rfl c3 ?_
      refine fs_aload_n (k := 0) (p := 16) (by decide +kernel) rfl rfl ?_
      refine fs_iload_n (k := 2) (p := 17) (by decide +kernel) rfl rfl ?_
      obtain ⟨q5, w4, h⟩ := fx_bd h
      refine fs_callV (idx := 154) (mj := 27) (ci := 2) (na := 1) (mx := 4) (p := 20) (args := [.ref x0, .int x2]) (rest := []) (al2 := [some (.ref x0), some (.int x2), none, none]) (by decide +kernel) rfl (by decide +kernel) g0 rfl rfl rfl rfl rfl rfl rfl (by omega) (fun d' hd' => fe_27 (by omega) w4) rfl ?_
      refine fs_i2l (p := 21) (by decide +kernel) rfl ?_
      refine fs_lstore_n (k := 3) (p := 22) (M := 8) (al' := [some (.ref x0), some (.int x1), some (.int x2), some (.long (q5.1).toInt64), none, o5, none, o7]) (by decide +kernel) rfl mx_29 rfl rfl ?_
      refine fs_aload_n (k := 0) (p := 23) (by decide +kernel) rfl rfl ?_
      refine fs_iload_n (k := 2) (p := 24) (by decide +kernel) rfl rfl ?_
      obtain ⟨q8, w7, h⟩ := fx_bd h
      refine fs_callV (idx := 157) (mj := 28) (ci := 2) (na := 1) (mx := 3) (p := 27) (args := [.ref x0, .int x2]) (rest := []) (al2 := [some (.ref x0), some (.int x2), none]) (by decide +kernel) rfl (by decide +kernel) g0 rfl rfl rfl rfl rfl rfl rfl (by omega) (fun d' hd' => fe_28 (by omega) w7) rfl ?_
      refine fs_i2l (p := 28) (by decide +kernel) rfl ?_
      refine fs_lstore (k := 5) (p := 30) (M := 8) (al' := [some (.ref x0), some (.int x1), some (.int x2), some (.long (q5.1).toInt64), none, some (.long (q8.1).toInt64), none, o7]) (by decide +kernel) rfl mx_29 rfl rfl ?_
      refine fs_iload_n (k := 2) (p := 31) (by decide +kernel) rfl rfl ?_
      refine fs_istore (k := 7) (p := 33) (M := 8) (al' := [some (.ref x0), some (.int x1), some (.int x2), some (.long (q5.1).toInt64), none, some (.long (q8.1).toInt64), none, some (.int x2)]) (by decide +kernel) rfl mx_29 rfl rfl ?_
      exact fe_29_33 hd ih 100000 _ _ _ _ _ _ _ _ g0 h
def fm_29 (x0 : Nat) (σ : fx_S) : Option (fx_S) :=
  if fx_oc x0 2 = true then (
  (fm_58 1 σ).bind fun q46 =>
  fm_29_10 100000 x0 q46.1 (0 : Int32) q46.2) else none
theorem fe_29 {d : Nat} (hd : 3 ≤ d) {x0 : Nat} {σ : fx_S} {q : fx_S} (h : fm_29 x0 σ = some q) : fx_E none 29 d 0 [some (.ref x0), none, none, none, none, none, none, none] [] σ none q := by
  unfold fm_29 at h
  obtain ⟨g0, h⟩ := fx_gd h
  refine fs_aload_n (k := 0) (p := 1) (by decide +kernel) rfl rfl ?_
  refine fs_gfr (idx := 41) (ci := 2) (j := 10) (p := 4) (by decide +kernel) rfl (by decide +kernel) g0 (fr_2_10 g0) ?_
  obtain ⟨q46, w45, h⟩ := fx_bd h
  refine fs_callV (idx := 132) (mj := 58) (ci := 6) (na := 0) (mx := 1) (p := 7) (args := [.ref 1]) (rest := []) (al2 := [some (.ref 1)]) (by decide +kernel) rfl (by decide +kernel) fo_1 rfl rfl rfl rfl rfl rfl rfl (by omega) (fun d' hd' => fe_58 (by omega) w45) rfl ?_
  refine fs_istore_n (k := 1) (p := 8) (M := 8) (al' := [some (.ref x0), some (.int q46.1), none, none, none, none, none, none]) (by decide +kernel) rfl mx_29 rfl rfl ?_
  refine fs_iconst (n := 0) (p := 9) (by decide +kernel) rfl kc_0 ?_
  refine fs_istore_n (k := 2) (p := 10) (M := 8) (al' := [some (.ref x0), some (.int q46.1), some (.int (0 : Int32)), none, none, none, none, none]) (by decide +kernel) rfl mx_29 rfl rfl ?_
  exact fe_29_10 hd 100000 _ _ _ _ _ _ _ _ g0 h

/-! ZoneShares$History.keep(LZoneShares$State;)V -/
theorem mx_31 : iv_mx 31 = 2 := by decide +kernel
theorem rt_31 : iv_rt 31 = none := by decide +kernel
def fm_31 (x1 : Nat) (σ : fx_S) : Option (fx_S) :=
  if fx_oc x1 6 = true then (
  (fx_ldr 5 17 (σ.1 16 1)).bind fun v9 =>
  (fm_54 v9 x1 σ).bind fun q14 =>
  some (fx_w1 (fx_w1 q14 16 1 (((q14.1 16 1) + (1 : Int32)) - ((q14.1 16 1) + (1 : Int32)) / (8 : Int32) * (8 : Int32))) 16 2 (if (((fx_w1 q14 16 1 (((q14.1 16 1) + (1 : Int32)) - ((q14.1 16 1) + (1 : Int32)) / (8 : Int32) * (8 : Int32))).1 16 2) + (1 : Int32)) < (8 : Int32) then (((fx_w1 q14 16 1 (((q14.1 16 1) + (1 : Int32)) - ((q14.1 16 1) + (1 : Int32)) / (8 : Int32) * (8 : Int32))).1 16 2) + (1 : Int32)) else (8 : Int32)))) else none
theorem fe_31 {d : Nat} (hd : 1 ≤ d) {x1 : Nat} {σ : fx_S} {q : fx_S} (h : fm_31 x1 σ = some q) : fx_E none 31 d 0 [some (.ref 16), some (.ref x1)] [] σ none q := by
  unfold fm_31 at h
  obtain ⟨g1, h⟩ := fx_gd h
  refine fs_aload_n (k := 0) (p := 1) (by decide +kernel) rfl rfl ?_
  refine fs_gfr (idx := 11) (ci := 3) (j := 0) (p := 4) (by decide +kernel) rfl (by decide +kernel) fo_16 (fr_a16_0) ?_
  refine fs_aload_n (k := 0) (p := 5) (by decide +kernel) rfl rfl ?_
  refine fs_gfi (idx := 18) (ci := 3) (j := 1) (p := 8) (by decide +kernel) rfl (by decide +kernel) fo_16 ?_
  obtain ⟨v9, w10, h⟩ := fx_bd h
  have g11 := fa_17 w10
  refine fs_aaload (t := 5) (p := 9) (by decide +kernel) rfl (by decide +kernel) w10 ?_
  refine fs_aload_n (k := 1) (p := 10) (by decide +kernel) rfl rfl ?_
  obtain ⟨q14, w13, h⟩ := fx_bd h
  refine fs_callV (idx := 22) (mj := 54) (ci := 6) (na := 1) (mx := 2) (p := 13) (args := [.ref v9, .ref x1]) (rest := []) (al2 := [some (.ref v9), some (.ref x1)]) (by decide +kernel) rfl (by decide +kernel) g11 rfl rfl rfl rfl rfl rfl rfl (by omega) (fun d' hd' => fe_54 (by omega) w13) rfl ?_
  refine fs_aload_n (k := 0) (p := 14) (by decide +kernel) rfl rfl ?_
  refine fs_aload_n (k := 0) (p := 15) (by decide +kernel) rfl rfl ?_
  refine fs_gfi (idx := 18) (ci := 3) (j := 1) (p := 18) (by decide +kernel) rfl (by decide +kernel) fo_16 ?_
  refine fs_iconst (n := 1) (p := 19) (by decide +kernel) rfl kc_1 ?_
  refine fs_iadd (p := 20) (by decide +kernel) rfl ?_
  refine fs_bipush (n := 8) (p := 22) (by decide +kernel) rfl kb_8 ?_
  refine fs_irem (p := 23) (by decide +kernel) rfl (by decide) ?_
  refine fs_pfi (idx := 18) (ci := 3) (j := 1) (p := 26) (by decide +kernel) rfl (by decide +kernel) (by decide +kernel) fo_16 (fx_oki _ (by decide +kernel)) ?_
  refine fs_aload_n (k := 0) (p := 27) (by decide +kernel) rfl rfl ?_
  refine fs_bipush (n := 8) (p := 29) (by decide +kernel) rfl kb_8 ?_
  refine fs_aload_n (k := 0) (p := 30) (by decide +kernel) rfl rfl ?_
  refine fs_gfi (idx := 26) (ci := 3) (j := 2) (p := 33) (by decide +kernel) rfl (by decide +kernel) fo_16 ?_
  refine fs_iconst (n := 1) (p := 34) (by decide +kernel) rfl kc_1 ?_
  refine fs_iadd (p := 35) (by decide +kernel) rfl ?_
  refine fs_min (idx := 29) (p := 38) (by decide +kernel) rfl (by decide +kernel) rfl ?_
  refine fs_pfi (idx := 26) (ci := 3) (j := 2) (p := 41) (by decide +kernel) rfl (by decide +kernel) (by decide +kernel) fo_16 (fx_oki _ (by decide +kernel)) ?_
  have h := Option.some.inj h
  subst h
  exact fs_ret (by decide +kernel) rt_31

/-! ZoneShares$History.bringBack(LZoneShares$State;)V -/
theorem mx_32 : iv_mx 32 = 2 := by decide +kernel
theorem rt_32 : iv_rt 32 = none := by decide +kernel
def fm_32 (x1 : Nat) (σ : fx_S) : Option (fx_S) :=
  if fx_oc x1 6 = true then (
  (fx_ldr 5 17 ((fx_w1 σ 16 1 ((((σ.1 16 1) + (8 : Int32)) - (1 : Int32)) - (((σ.1 16 1) + (8 : Int32)) - (1 : Int32)) / (8 : Int32) * (8 : Int32))).1 16 1)).bind fun v9 =>
  (fm_54 x1 v9 (fx_w1 σ 16 1 ((((σ.1 16 1) + (8 : Int32)) - (1 : Int32)) - (((σ.1 16 1) + (8 : Int32)) - (1 : Int32)) / (8 : Int32) * (8 : Int32)))).bind fun q14 =>
  some (fx_w1 q14 16 2 ((q14.1 16 2) - (1 : Int32)))) else none
theorem fe_32 {d : Nat} (hd : 1 ≤ d) {x1 : Nat} {σ : fx_S} {q : fx_S} (h : fm_32 x1 σ = some q) : fx_E none 32 d 0 [some (.ref 16), some (.ref x1)] [] σ none q := by
  unfold fm_32 at h
  obtain ⟨g1, h⟩ := fx_gd h
  refine fs_aload_n (k := 0) (p := 1) (by decide +kernel) rfl rfl ?_
  refine fs_aload_n (k := 0) (p := 2) (by decide +kernel) rfl rfl ?_
  refine fs_gfi (idx := 18) (ci := 3) (j := 1) (p := 5) (by decide +kernel) rfl (by decide +kernel) fo_16 ?_
  refine fs_bipush (n := 8) (p := 7) (by decide +kernel) rfl kb_8 ?_
  refine fs_iadd (p := 8) (by decide +kernel) rfl ?_
  refine fs_iconst (n := 1) (p := 9) (by decide +kernel) rfl kc_1 ?_
  refine fs_isub (p := 10) (by decide +kernel) rfl ?_
  refine fs_bipush (n := 8) (p := 12) (by decide +kernel) rfl kb_8 ?_
  refine fs_irem (p := 13) (by decide +kernel) rfl (by decide) ?_
  refine fs_pfi (idx := 18) (ci := 3) (j := 1) (p := 16) (by decide +kernel) rfl (by decide +kernel) (by decide +kernel) fo_16 (fx_oki _ (by decide +kernel)) ?_
  refine fs_aload_n (k := 1) (p := 17) (by decide +kernel) rfl rfl ?_
  refine fs_aload_n (k := 0) (p := 18) (by decide +kernel) rfl rfl ?_
  refine fs_gfr (idx := 11) (ci := 3) (j := 0) (p := 21) (by decide +kernel) rfl (by decide +kernel) fo_16 (fr_a16_0) ?_
  refine fs_aload_n (k := 0) (p := 22) (by decide +kernel) rfl rfl ?_
  refine fs_gfi (idx := 18) (ci := 3) (j := 1) (p := 25) (by decide +kernel) rfl (by decide +kernel) fo_16 ?_
  obtain ⟨v9, w10, h⟩ := fx_bd h
  have g11 := fa_17 w10
  refine fs_aaload (t := 5) (p := 26) (by decide +kernel) rfl (by decide +kernel) w10 ?_
  obtain ⟨q14, w13, h⟩ := fx_bd h
  refine fs_callV (idx := 22) (mj := 54) (ci := 6) (na := 1) (mx := 2) (p := 29) (args := [.ref x1, .ref v9]) (rest := []) (al2 := [some (.ref x1), some (.ref v9)]) (by decide +kernel) rfl (by decide +kernel) g1 rfl rfl rfl rfl rfl rfl rfl (by omega) (fun d' hd' => fe_54 (by omega) w13) rfl ?_
  refine fs_aload_n (k := 0) (p := 30) (by decide +kernel) rfl rfl ?_
  refine fs_dup (p := 31) (by decide +kernel) rfl rfl ?_
  refine fs_gfi (idx := 26) (ci := 3) (j := 2) (p := 34) (by decide +kernel) rfl (by decide +kernel) fo_16 ?_
  refine fs_iconst (n := 1) (p := 35) (by decide +kernel) rfl kc_1 ?_
  refine fs_isub (p := 36) (by decide +kernel) rfl ?_
  refine fs_pfi (idx := 26) (ci := 3) (j := 2) (p := 39) (by decide +kernel) rfl (by decide +kernel) (by decide +kernel) fo_16 (fx_oki _ (by decide +kernel)) ?_
  have h := Option.some.inj h
  subst h
  exact fs_ret (by decide +kernel) rt_32

/-! ZoneShares$LayerText.read(LZoneShares$Tape;ILZoneShares$State;)I -/
theorem mx_34 : iv_mx 34 = 8 := by decide +kernel
theorem rt_34 : iv_rt 34 = some .int := by decide +kernel
def fm_34_153 (k_74 : Int32 → Int32 → fx_S → Option (Int32 × fx_S)) (x2 : Int32) (x4 : Int32) (σ : fx_S) : Option (Int32 × fx_S) :=
  k_74 x2 (x4 + (1 : Int32)) σ
theorem fe_34_153 {d : Nat} (hd : 1 ≤ d) {k_74 : Int32 → Int32 → fx_S → Option (Int32 × fx_S)} (hk_74 : ∀ (x2 : Int32) (x4 : Int32) (o3 : Option Value) (o5 : Option Value) (o6 : Option Value) (o7 : Option Value) (σ : fx_S) (q : Int32 × fx_S), k_74 x2 x4 σ = some q → fx_E none 34 d 74 [some (.ref 58), some (.ref 14), some (.int x2), o3, some (.int x4), o5, o6, o7] [] σ (some (.int q.1)) q.2) (x2 : Int32) (x4 : Int32) (o3 : Option Value) (o5 : Option Value) (o6 : Option Value) (o7 : Option Value) (σ : fx_S) (q : Int32 × fx_S) (h : fm_34_153 k_74  x2 x4 σ = some q) : fx_E none 34 d 153 [some (.ref 58), some (.ref 14), some (.int x2), o3, some (.int x4), o5, o6, o7] [] σ (some (.int q.1)) q.2 := by
  unfold fm_34_153 at h
  refine fs_iinc (k := 4) (n := 1) (p := 156) (M := 8) (al' := [some (.ref 58), some (.ref 14), some (.int x2), (fx_kl o3), some (.int (x4 + (1 : Int32))), o5, o6, o7]) (by decide +kernel) rfl kc_1 mx_34 rfl rfl rfl ?_
  refine fs_goto (off := -82) (p := 74) (by decide +kernel) (by decide +kernel) ?_
  exact hk_74 _ _ _ _ _ _ _ _ h
def fm_34_118 (k_74 : Int32 → Int32 → fx_S → Option (Int32 × fx_S)) (x2 : Int32) (x4 : Int32) (x6 : Int32) (s0 : Int32) (σ : fx_S) : Option (Int32 × fx_S) :=
  if s0 = 0 then (
    if ¬ x6 = (-1 : Int32) then (
      (fm_39 x6 σ).bind fun q6 =>
      fm_34_153 k_74 x2 x4 q6) else (
      (fm_38 σ).bind fun q8 =>
      fm_34_153 k_74 x2 x4 q8)) else (
    some ((((8 : Int32) * x4) + s0), σ))
theorem fe_34_118 {d : Nat} (hd : 1 ≤ d) {k_74 : Int32 → Int32 → fx_S → Option (Int32 × fx_S)} (hk_74 : ∀ (x2 : Int32) (x4 : Int32) (o3 : Option Value) (o5 : Option Value) (o6 : Option Value) (o7 : Option Value) (σ : fx_S) (q : Int32 × fx_S), k_74 x2 x4 σ = some q → fx_E none 34 d 74 [some (.ref 58), some (.ref 14), some (.int x2), o3, some (.int x4), o5, o6, o7] [] σ (some (.int q.1)) q.2) (x2 : Int32) (x4 : Int32) (x6 : Int32) (s0 : Int32) (o3 : Option Value) (o5 : Option Value) (o7 : Option Value) (σ : fx_S) (q : Int32 × fx_S) (h : fm_34_118 k_74  x2 x4 x6 s0 σ = some q) : fx_E none 34 d 118 [some (.ref 58), some (.ref 14), some (.int x2), o3, some (.int x4), o5, some (.int x6), o7] [.int s0] σ (some (.int q.1)) q.2 := by
  unfold fm_34_118 at h
  refine fs_istore (k := 7) (p := 120) (M := 8) (al' := [some (.ref 58), some (.ref 14), some (.int x2), o3, some (.int x4), o5, some (.int x6), some (.int s0)]) (by decide +kernel) rfl mx_34 rfl rfl ?_
  refine fs_iload (k := 7) (p := 122) (by decide +kernel) rfl rfl ?_
  by_cases c2 : s0 = 0
  · rw [if_pos c2] at h
    refine fs_if_eq_t (off := 12) (t := 134) (by decide +kernel) (by decide +kernel) c2 ?_
    refine fs_iload (k := 6) (p := 136) (by decide +kernel) rfl rfl ?_
    refine fs_iconst (n := -1) (p := 137) (by decide +kernel) rfl kc_m1 ?_
    by_cases c4 : ¬ x6 = (-1 : Int32)
    · rw [if_pos c4] at h
      refine fs_icmp_ne_t (off := 10) (t := 147) (by decide +kernel) (by decide +kernel) c4 ?_
      refine fs_aload_n (k := 0) (p := 148) (by decide +kernel) rfl rfl ?_
      refine fs_iload (k := 6) (p := 150) (by decide +kernel) rfl rfl ?_
      obtain ⟨q6, w5, h⟩ := fx_bd h
      refine fs_callV (idx := 62) (mj := 39) (ci := 4) (na := 1) (mx := 3) (p := 153) (args := [.ref 58, .int x6]) (rest := []) (al2 := [some (.ref 58), some (.int x6), none]) (by decide +kernel) rfl (by decide +kernel) fo_58 rfl rfl rfl rfl rfl rfl rfl (by omega) (fun d' hd' => fe_39 (by omega) w5) rfl ?_
      exact fe_34_153 hd hk_74 _ _ _ _ _ _ _ _ h
    · rw [if_neg c4] at h
      refine fs_icmp_ne_f (off := 10) (t := 147) (p := 140) (by decide +kernel) (by decide +kernel) rfl c4 ?_
      refine fs_aload_n (k := 0) (p := 141) (by decide +kernel) rfl rfl ?_
      obtain ⟨q8, w7, h⟩ := fx_bd h
      refine fs_callV (idx := 59) (mj := 38) (ci := 4) (na := 0) (mx := 1) (p := 144) (args := [.ref 58]) (rest := []) (al2 := [some (.ref 58)]) (by decide +kernel) rfl (by decide +kernel) fo_58 rfl rfl rfl rfl rfl rfl rfl (by omega) (fun d' hd' => fe_38 (by omega) w7) rfl ?_
      refine fs_goto (off := 9) (p := 153) (by decide +kernel) (by decide +kernel) ?_
      exact fe_34_153 hd hk_74 _ _ _ _ _ _ _ _ h
  · rw [if_neg c2] at h
    refine fs_if_eq_f (off := 12) (t := 134) (p := 125) (by decide +kernel) (by decide +kernel) rfl c2 ?_
    refine fs_bipush (n := 8) (p := 127) (by decide +kernel) rfl kb_8 ?_
    refine fs_iload (k := 4) (p := 129) (by decide +kernel) rfl rfl ?_
    refine fs_imul (p := 130) (by decide +kernel) rfl ?_
    refine fs_iload (k := 7) (p := 132) (by decide +kernel) rfl rfl ?_
    refine fs_iadd (p := 133) (by decide +kernel) rfl ?_
    have h := Option.some.inj h
    subst h
    exact fs_iret (by decide +kernel) rt_34
def fm_34_74 : Nat → Int32 → Int32 → fx_S → Option (Int32 × fx_S)
  | 0, _, _, _ => none
  | n + 1, x2, x4, σ =>
    if (σ.1 14 1) < x4 then (
      some ((-1 : Int32), σ)) else (
      (fm_83 x4 σ).bind fun q5 =>
      (fm_35 q5.1 x2 q5.2).bind fun q7 =>
      if ¬ q7.1 = (-1 : Int32) then (
        (fm_36 q7.2).bind fun q11 =>
        fm_34_118 (fm_34_74 n) x2 x4 q7.1 q11.1 q11.2) else (
        (fm_37 q5.1 q7.2).bind fun q13 =>
        fm_34_118 (fm_34_74 n) x2 x4 q7.1 q13.1 q13.2))
theorem fe_34_74 {d : Nat} (hd : 1 ≤ d) : ∀ (n : Nat) (x2 : Int32) (x4 : Int32) (o3 : Option Value) (o5 : Option Value) (o6 : Option Value) (o7 : Option Value) (σ : fx_S) (q : Int32 × fx_S), fm_34_74 n x2 x4 σ = some q → fx_E none 34 d 74 [some (.ref 58), some (.ref 14), some (.int x2), o3, some (.int x4), o5, o6, o7] [] σ (some (.int q.1)) q.2 := by
  intro n
  induction n with
  | zero =>
    intro x2 x4 o3 o5 o6 o7 σ q  h
    rw [fm_34_74] at h
    exact fx_no h
  | succ n ih =>
    intro x2 x4 o3 o5 o6 o7 σ q  h
    rw [fm_34_74] at h
    refine fs_iload (k := 4) (p := 76) (by decide +kernel) rfl rfl ?_
    refine fs_aload_n (k := 1) (p := 77) (by decide +kernel) rfl rfl ?_
    refine fs_gfi (idx := 39) (ci := 8) (j := 1) (p := 80) (by decide +kernel) rfl (by decide +kernel) fo_14 ?_
    by_cases c3 : (σ.1 14 1) < x4
    · rw [if_pos c3] at h
      refine fs_icmp_gt_t (off := 79) (t := 159) (by decide +kernel) (by decide +kernel) c3 ?_
      refine fs_iconst (n := -1) (p := 160) (by decide +kernel) rfl kc_m1 ?_
      have h := Option.some.inj h
      subst h
      exact fs_iret (by decide +kernel) rt_34
    · rw [if_neg c3] at h
      refine fs_icmp_gt_f (off := 79) (t := 159) (p := 83) (by decide +kernel) (by decide +kernel) rfl c3 ?_
      refine fs_aload_n (k := 1) (p := 84) (by decide +kernel) rfl rfl ?_
      refine fs_iload (k := 4) (p := 86) (by decide +kernel) rfl rfl ?_
      obtain ⟨q5, w4, h⟩ := fx_bd h
      refine fs_callV (idx := 44) (mj := 83) (ci := 8) (na := 1) (mx := 2) (p := 89) (args := [.ref 14, .int x4]) (rest := []) (al2 := [some (.ref 14), some (.int x4)]) (by decide +kernel) rfl (by decide +kernel) fo_14 rfl rfl rfl rfl rfl rfl rfl (by omega) (fun d' hd' => fe_83 (by omega) w4) rfl ?_
      refine fs_istore (k := 5) (p := 91) (M := 8) (al' := [some (.ref 58), some (.ref 14), some (.int x2), o3, some (.int x4), some (.int q5.1), o6, o7]) (by decide +kernel) rfl mx_34 rfl rfl ?_
      refine fs_iload (k := 5) (p := 93) (by decide +kernel) rfl rfl ?_
      refine fs_iload_n (k := 2) (p := 94) (by decide +kernel) rfl rfl ?_
      obtain ⟨q7, w6, h⟩ := fx_bd h
      refine fs_callS (idx := 48) (mj := 35) (na := 2) (mx := 2) (p := 97) (args := [.int q5.1, .int x2]) (rest := []) (al2 := [some (.int q5.1), some (.int x2)]) (by decide +kernel) rfl (by decide +kernel) rfl rfl rfl rfl rfl rfl rfl (by omega) (fun d' hd' => fe_35 (by omega) w6) rfl ?_
      refine fs_istore (k := 6) (p := 99) (M := 8) (al' := [some (.ref 58), some (.ref 14), some (.int x2), o3, some (.int x4), some (.int q5.1), some (.int q7.1), o7]) (by decide +kernel) rfl mx_34 rfl rfl ?_
      refine fs_iload (k := 6) (p := 101) (by decide +kernel) rfl rfl ?_
      refine fs_iconst (n := -1) (p := 102) (by decide +kernel) rfl kc_m1 ?_
      by_cases c9 : ¬ q7.1 = (-1 : Int32)
      · rw [if_pos c9] at h
        refine fs_icmp_ne_t (off := 12) (t := 114) (by decide +kernel) (by decide +kernel) c9 ?_
        refine fs_aload_n (k := 0) (p := 115) (by decide +kernel) rfl rfl ?_
        obtain ⟨q11, w10, h⟩ := fx_bd h
        refine fs_callV (idx := 55) (mj := 36) (ci := 4) (na := 0) (mx := 1) (p := 118) (args := [.ref 58]) (rest := []) (al2 := [some (.ref 58)]) (by decide +kernel) rfl (by decide +kernel) fo_58 rfl rfl rfl rfl rfl rfl rfl (by omega) (fun d' hd' => fe_36 (by omega) w10) rfl ?_
        exact fe_34_118 hd ih _ _ _ _ _ _ _ _ _ h
      · rw [if_neg c9] at h
        refine fs_icmp_ne_f (off := 12) (t := 114) (p := 105) (by decide +kernel) (by decide +kernel) rfl c9 ?_
        refine fs_aload_n (k := 0) (p := 106) (by decide +kernel) rfl rfl ?_
        refine fs_iload (k := 5) (p := 108) (by decide +kernel) rfl rfl ?_
        obtain ⟨q13, w12, h⟩ := fx_bd h
        refine fs_callV (idx := 52) (mj := 37) (ci := 4) (na := 1) (mx := 2) (p := 111) (args := [.ref 58, .int q5.1]) (rest := []) (al2 := [some (.ref 58), some (.int q5.1)]) (by decide +kernel) rfl (by decide +kernel) fo_58 rfl rfl rfl rfl rfl rfl rfl (by omega) (fun d' hd' => fe_37 (by omega) w12) rfl ?_
        refine fs_goto (off := 7) (p := 118) (by decide +kernel) (by decide +kernel) ?_
        exact fe_34_118 hd ih _ _ _ _ _ _ _ _ _ h
def fm_34_58 (x2 : Int32) (s1 : Int32) (σ : fx_S) : Option (Int32 × fx_S) :=
  fm_34_74 100000 x2 (0 : Int32) (fx_w1 (fx_w1 (fx_w1 σ 58 4 s1) 58 1 (0 : Int32)) 58 3 (0 : Int32))
theorem fe_34_58 {d : Nat} (hd : 1 ≤ d) (x2 : Int32) (s1 : Int32) (o3 : Option Value) (σ : fx_S) (q : Int32 × fx_S) (h : fm_34_58  x2 s1 σ = some q) : fx_E none 34 d 58 [some (.ref 58), some (.ref 14), some (.int x2), o3, none, none, none, none] [.int s1, .ref 58] σ (some (.int q.1)) q.2 := by
  unfold fm_34_58 at h
  refine fs_pfi (idx := 32) (ci := 4) (j := 4) (p := 61) (by decide +kernel) rfl (by decide +kernel) (by decide +kernel) fo_58 (fx_oki _ (by decide +kernel)) ?_
  refine fs_aload_n (k := 0) (p := 62) (by decide +kernel) rfl rfl ?_
  refine fs_iconst (n := 0) (p := 63) (by decide +kernel) rfl kc_0 ?_
  refine fs_pfi (idx := 35) (ci := 4) (j := 1) (p := 66) (by decide +kernel) rfl (by decide +kernel) (by decide +kernel) fo_58 (fx_oki _ (by decide +kernel)) ?_
  refine fs_aload_n (k := 0) (p := 67) (by decide +kernel) rfl rfl ?_
  refine fs_iconst (n := 0) (p := 68) (by decide +kernel) rfl kc_0 ?_
  refine fs_pfi (idx := 36) (ci := 4) (j := 3) (p := 71) (by decide +kernel) rfl (by decide +kernel) (by decide +kernel) fo_58 (fx_oki _ (by decide +kernel)) ?_
  refine fs_iconst (n := 0) (p := 72) (by decide +kernel) rfl kc_0 ?_
  refine fs_istore (k := 4) (p := 74) (M := 8) (al' := [some (.ref 58), some (.ref 14), some (.int x2), (fx_kl o3), some (.int (0 : Int32)), none, none, none]) (by decide +kernel) rfl mx_34 rfl rfl ?_
  exact fe_34_74 hd 100000 _ _ _ _ _ _ _ _ h
def fm_34_38 (x2 : Int32) (x3 : Nat) (s1 : Int32) (σ : fx_S) : Option (Int32 × fx_S) :=
  if ((fx_w1 σ 58 2 s1).1 58 6) = 0 then (
    fm_34_58 x2 (8 : Int32) (fx_w1 σ 58 2 s1)) else (
    fm_34_58 x2 ((fx_w1 σ 58 2 s1).1 x3 4) (fx_w1 σ 58 2 s1))
theorem fe_34_38 {d : Nat} (hd : 1 ≤ d) (x2 : Int32) (x3 : Nat) (s1 : Int32) (σ : fx_S) (q : Int32 × fx_S) (g3 : fx_oc x3 6 = true) (h : fm_34_38  x2 x3 s1 σ = some q) : fx_E none 34 d 38 [some (.ref 58), some (.ref 14), some (.int x2), some (.ref x3), none, none, none, none] [.int s1, .ref 58] σ (some (.int q.1)) q.2 := by
  unfold fm_34_38 at h
  refine fs_pfi (idx := 28) (ci := 4) (j := 2) (p := 41) (by decide +kernel) rfl (by decide +kernel) (by decide +kernel) fo_58 (fx_oki _ (by decide +kernel)) ?_
  refine fs_aload_n (k := 0) (p := 42) (by decide +kernel) rfl rfl ?_
  refine fs_aload_n (k := 0) (p := 43) (by decide +kernel) rfl rfl ?_
  refine fs_gfi (idx := 15) (ci := 4) (j := 6) (p := 46) (by decide +kernel) rfl (by decide +kernel) fo_58 ?_
  by_cases c2 : ((fx_w1 σ 58 2 s1).1 58 6) = 0
  · rw [if_pos c2] at h
    refine fs_if_eq_t (off := 10) (t := 56) (by decide +kernel) (by decide +kernel) c2 ?_
    refine fs_bipush (n := 8) (p := 58) (by decide +kernel) rfl kb_8 ?_
    exact fe_34_58 hd _ _ _ _ _ h
  · rw [if_neg c2] at h
    refine fs_if_eq_f (off := 10) (t := 56) (p := 49) (by decide +kernel) (by decide +kernel) rfl c2 ?_
    refine fs_aload_n (k := 3) (p := 50) (by decide +kernel) rfl rfl ?_
    refine fs_gfi (idx := 29) (ci := 6) (j := 4) (p := 53) (by decide +kernel) rfl (by decide +kernel) g3 ?_
    refine fs_goto (off := 5) (p := 58) (by decide +kernel) (by decide +kernel) ?_
    exact fe_34_58 hd _ _ _ _ _ h
def fm_34_10 (x2 : Int32) (x3 : Nat) (s1 : Int32) (σ : fx_S) : Option (Int32 × fx_S) :=
  if s1 = 0 ∨ s1 = 1 then (
  if ((fx_w1 σ 58 6 s1).1 58 6) = 0 ∨ ((fx_w1 σ 58 6 s1).1 58 6) = 1 then (
  if ((fx_w1 (fx_w1 σ 58 6 s1) 58 5 ((fx_w1 σ 58 6 s1).1 58 6)).1 58 6) = 0 then (
    fm_34_38 x2 x3 (12 : Int32) (fx_w1 (fx_w1 σ 58 6 s1) 58 5 ((fx_w1 σ 58 6 s1).1 58 6))) else (
    fm_34_38 x2 x3 ((fx_w1 (fx_w1 σ 58 6 s1) 58 5 ((fx_w1 σ 58 6 s1).1 58 6)).1 x3 5) (fx_w1 (fx_w1 σ 58 6 s1) 58 5 ((fx_w1 σ 58 6 s1).1 58 6)))) else none) else none
theorem fe_34_10 {d : Nat} (hd : 1 ≤ d) (x2 : Int32) (x3 : Nat) (s1 : Int32) (σ : fx_S) (q : Int32 × fx_S) (g3 : fx_oc x3 6 = true) (h : fm_34_10  x2 x3 s1 σ = some q) : fx_E none 34 d 10 [some (.ref 58), some (.ref 14), some (.int x2), some (.ref x3), none, none, none, none] [.int s1, .ref 58] σ (some (.int q.1)) q.2 := by
  unfold fm_34_10 at h
  obtain ⟨z1, h⟩ := fx_gd h
  refine fs_pfi (idx := 15) (ci := 4) (j := 6) (p := 13) (by decide +kernel) rfl (by decide +kernel) (by decide +kernel) fo_58 (fx_okd z1 (by decide +kernel)) ?_
  refine fs_aload_n (k := 0) (p := 14) (by decide +kernel) rfl rfl ?_
  refine fs_aload_n (k := 0) (p := 15) (by decide +kernel) rfl rfl ?_
  refine fs_gfi (idx := 15) (ci := 4) (j := 6) (p := 18) (by decide +kernel) rfl (by decide +kernel) fo_58 ?_
  obtain ⟨z3, h⟩ := fx_gd h
  refine fs_pfi (idx := 19) (ci := 4) (j := 5) (p := 21) (by decide +kernel) rfl (by decide +kernel) (by decide +kernel) fo_58 (fx_okd z3 (by decide +kernel)) ?_
  refine fs_aload_n (k := 0) (p := 22) (by decide +kernel) rfl rfl ?_
  refine fs_aload_n (k := 0) (p := 23) (by decide +kernel) rfl rfl ?_
  refine fs_gfi (idx := 15) (ci := 4) (j := 6) (p := 26) (by decide +kernel) rfl (by decide +kernel) fo_58 ?_
  by_cases c6 : ((fx_w1 (fx_w1 σ 58 6 s1) 58 5 ((fx_w1 σ 58 6 s1).1 58 6)).1 58 6) = 0
  · rw [if_pos c6] at h
    refine fs_if_eq_t (off := 10) (t := 36) (by decide +kernel) (by decide +kernel) c6 ?_
    refine fs_bipush (n := 12) (p := 38) (by decide +kernel) rfl kb_12 ?_
    exact fe_34_38 hd _ _ _ _ _ g3 h
  · rw [if_neg c6] at h
    refine fs_if_eq_f (off := 10) (t := 36) (p := 29) (by decide +kernel) (by decide +kernel) rfl c6 ?_
    refine fs_aload_n (k := 3) (p := 30) (by decide +kernel) rfl rfl ?_
    refine fs_gfi (idx := 22) (ci := 6) (j := 5) (p := 33) (by decide +kernel) rfl (by decide +kernel) g3 ?_
    refine fs_goto (off := 5) (p := 38) (by decide +kernel) (by decide +kernel) ?_
    exact fe_34_38 hd _ _ _ _ _ g3 h
def fm_34 (x2 : Int32) (x3 : Nat) (σ : fx_S) : Option (Int32 × fx_S) :=
  if fx_oc x3 6 = true then (
  if x2 = 0 then (
    fm_34_10 x2 x3 (0 : Int32) σ) else (
    fm_34_10 x2 x3 (1 : Int32) σ)) else none
theorem fe_34 {d : Nat} (hd : 1 ≤ d) {x2 : Int32} {x3 : Nat} {σ : fx_S} {q : Int32 × fx_S} (h : fm_34 x2 x3 σ = some q) : fx_E none 34 d 0 [some (.ref 58), some (.ref 14), some (.int x2), some (.ref x3), none, none, none, none] [] σ (some (.int q.1)) q.2 := by
  unfold fm_34 at h
  obtain ⟨g3, h⟩ := fx_gd h
  refine fs_aload_n (k := 0) (p := 1) (by decide +kernel) rfl rfl ?_
  refine fs_iload_n (k := 2) (p := 2) (by decide +kernel) rfl rfl ?_
  by_cases c54 : x2 = 0
  · rw [if_pos c54] at h
    refine fs_if_eq_t (off := 7) (t := 9) (by decide +kernel) (by decide +kernel) c54 ?_
    refine fs_iconst (n := 0) (p := 10) (by decide +kernel) rfl kc_0 ?_
    exact fe_34_10 hd _ _ _ _ _ g3 h
  · rw [if_neg c54] at h
    refine fs_if_eq_f (off := 7) (t := 9) (p := 5) (by decide +kernel) (by decide +kernel) rfl c54 ?_
    refine fs_iconst (n := 1) (p := 6) (by decide +kernel) rfl kc_1 ?_
    refine fs_goto (off := 4) (p := 10) (by decide +kernel) (by decide +kernel) ?_
    exact fe_34_10 hd _ _ _ _ _ g3 h

/-! ZoneShares$Rounder.findWay(II)Z -/
theorem mx_46 : iv_mx 46 = 5 := by decide +kernel
theorem rt_46 : iv_rt 46 = some .boolean := by decide +kernel
def fm_46_92 (x2 : Int32) (σ : fx_S) : Option (Bool × fx_S) :=
  (fx_ld σ 12 x2).bind fun v1 =>
  if v1 = (-1 : Int32) then (
    some (false, σ)) else (
    some (true, σ))
theorem fe_46_92 {d : Nat} (hd : 2 ≤ d) (x2 : Int32) (o1 : Option Value) (o3 : Option Value) (o4 : Option Value) (σ : fx_S) (q : Bool × fx_S) (h : fm_46_92  x2 σ = some q) : fx_E none 46 d 92 [some (.ref 6), o1, some (.int x2), o3, o4] [] σ (some (.int (fx_b q.1))) q.2 := by
  unfold fm_46_92 at h
  refine fs_aload_n (k := 0) (p := 93) (by decide +kernel) rfl rfl ?_
  refine fs_gfr (idx := 27) (ci := 5) (j := 5) (p := 96) (by decide +kernel) rfl (by decide +kernel) fo_6 (fr_a6_5) ?_
  refine fs_iload_n (k := 2) (p := 97) (by decide +kernel) rfl rfl ?_
  obtain ⟨v1, w2, h⟩ := fx_bd h
  refine fs_iaload (p := 98) (by decide +kernel) rfl w2 ?_
  refine fs_iconst (n := -1) (p := 99) (by decide +kernel) rfl kc_m1 ?_
  by_cases c5 : v1 = (-1 : Int32)
  · rw [if_pos c5] at h
    refine fs_icmp_eq_t (off := 7) (t := 106) (by decide +kernel) (by decide +kernel) c5 ?_
    refine fs_iconst (n := 0) (p := 107) (by decide +kernel) rfl kc_0 ?_
    have h := Option.some.inj h
    subst h
    exact fs_zret (b := false) (by decide +kernel) rt_46
  · rw [if_neg c5] at h
    refine fs_icmp_eq_f (off := 7) (t := 106) (p := 102) (by decide +kernel) (by decide +kernel) rfl c5 ?_
    refine fs_iconst (n := 1) (p := 103) (by decide +kernel) rfl kc_1 ?_
    refine fs_goto (off := 4) (p := 107) (by decide +kernel) (by decide +kernel) ?_
    have h := Option.some.inj h
    subst h
    exact fs_zret (b := true) (by decide +kernel) rt_46
def fm_46_86 (k_21 : Int32 → Int32 → fx_S → Option (Bool × fx_S)) (x2 : Int32) (x3 : Int32) (σ : fx_S) : Option (Bool × fx_S) :=
  k_21 x2 (x3 + (1 : Int32)) σ
theorem fe_46_86 {d : Nat} (hd : 2 ≤ d) {k_21 : Int32 → Int32 → fx_S → Option (Bool × fx_S)} (hk_21 : ∀ (x2 : Int32) (x3 : Int32) (o1 : Option Value) (o4 : Option Value) (σ : fx_S) (q : Bool × fx_S), k_21 x2 x3 σ = some q → fx_E none 46 d 21 [some (.ref 6), o1, some (.int x2), some (.int x3), o4] [] σ (some (.int (fx_b q.1))) q.2) (x2 : Int32) (x3 : Int32) (o1 : Option Value) (o4 : Option Value) (σ : fx_S) (q : Bool × fx_S) (h : fm_46_86 k_21  x2 x3 σ = some q) : fx_E none 46 d 86 [some (.ref 6), o1, some (.int x2), some (.int x3), o4] [] σ (some (.int (fx_b q.1))) q.2 := by
  unfold fm_46_86 at h
  refine fs_iinc (k := 3) (n := 1) (p := 89) (M := 5) (al' := [some (.ref 6), o1, some (.int x2), some (.int (x3 + (1 : Int32))), o4]) (by decide +kernel) rfl kc_1 mx_46 rfl rfl rfl ?_
  refine fs_goto (off := -68) (p := 21) (by decide +kernel) (by decide +kernel) ?_
  exact hk_21 _ _ _ _ _ _ h
def fm_46_21 : Nat → Int32 → Int32 → fx_S → Option (Bool × fx_S)
  | 0, _, _, _ => none
  | n + 1, x2, x3, σ =>
    if (σ.1 6 7) ≤ x3 then (
      fm_46_92 x2 σ) else (
      (fx_ld σ 12 x2).bind fun v4 =>
      if ¬ v4 = (-1 : Int32) then (
        fm_46_92 x2 σ) else (
        (fx_ld σ 13 x3).bind fun v9 =>
        if (8 : Int32) ≤ v9 then (
          if (17 : Int32) ≤ v9 then (
            (fm_50 σ).bind fun q16 =>
            fm_46_86 (fm_46_21 n) x2 x3 q16) else (
            (fm_49 (v9 - (8 : Int32)) σ).bind fun q18 =>
            fm_46_86 (fm_46_21 n) x2 x3 q18)) else (
          (fm_48 v9 σ).bind fun q20 =>
          fm_46_86 (fm_46_21 n) x2 x3 q20)))
theorem fe_46_21 {d : Nat} (hd : 2 ≤ d) : ∀ (n : Nat) (x2 : Int32) (x3 : Int32) (o1 : Option Value) (o4 : Option Value) (σ : fx_S) (q : Bool × fx_S), fm_46_21 n x2 x3 σ = some q → fx_E none 46 d 21 [some (.ref 6), o1, some (.int x2), some (.int x3), o4] [] σ (some (.int (fx_b q.1))) q.2 := by
  intro n
  induction n with
  | zero =>
    intro x2 x3 o1 o4 σ q  h
    rw [fm_46_21] at h
    exact fx_no h
  | succ n ih =>
    intro x2 x3 o1 o4 σ q  h
    rw [fm_46_21] at h
    refine fs_iload_n (k := 3) (p := 22) (by decide +kernel) rfl rfl ?_
    refine fs_aload_n (k := 0) (p := 23) (by decide +kernel) rfl rfl ?_
    refine fs_gfi (idx := 90) (ci := 5) (j := 7) (p := 26) (by decide +kernel) rfl (by decide +kernel) fo_6 ?_
    by_cases c3 : (σ.1 6 7) ≤ x3
    · rw [if_pos c3] at h
      refine fs_icmp_ge_t (off := 66) (t := 92) (by decide +kernel) (by decide +kernel) c3 ?_
      exact fe_46_92 hd _ _ _ _ _ _ h
    · rw [if_neg c3] at h
      refine fs_icmp_ge_f (off := 66) (t := 92) (p := 29) (by decide +kernel) (by decide +kernel) rfl c3 ?_
      refine fs_aload_n (k := 0) (p := 30) (by decide +kernel) rfl rfl ?_
      refine fs_gfr (idx := 27) (ci := 5) (j := 5) (p := 33) (by decide +kernel) rfl (by decide +kernel) fo_6 (fr_a6_5) ?_
      refine fs_iload_n (k := 2) (p := 34) (by decide +kernel) rfl rfl ?_
      obtain ⟨v4, w5, h⟩ := fx_bd h
      refine fs_iaload (p := 35) (by decide +kernel) rfl w5 ?_
      refine fs_iconst (n := -1) (p := 36) (by decide +kernel) rfl kc_m1 ?_
      by_cases c8 : ¬ v4 = (-1 : Int32)
      · rw [if_pos c8] at h
        refine fs_icmp_ne_t (off := 56) (t := 92) (by decide +kernel) (by decide +kernel) c8 ?_
        exact fe_46_92 hd _ _ _ _ _ _ h
      · rw [if_neg c8] at h
        refine fs_icmp_ne_f (off := 56) (t := 92) (p := 39) (by decide +kernel) (by decide +kernel) rfl c8 ?_
        refine fs_aload_n (k := 0) (p := 40) (by decide +kernel) rfl rfl ?_
        refine fs_gfr (idx := 30) (ci := 5) (j := 6) (p := 43) (by decide +kernel) rfl (by decide +kernel) fo_6 (fr_a6_6) ?_
        refine fs_iload_n (k := 3) (p := 44) (by decide +kernel) rfl rfl ?_
        obtain ⟨v9, w10, h⟩ := fx_bd h
        refine fs_iaload (p := 45) (by decide +kernel) rfl w10 ?_
        refine fs_istore (k := 4) (p := 47) (M := 5) (al' := [some (.ref 6), o1, some (.int x2), some (.int x3), some (.int v9)]) (by decide +kernel) rfl mx_46 rfl rfl ?_
        refine fs_iload (k := 4) (p := 49) (by decide +kernel) rfl rfl ?_
        refine fs_bipush (n := 8) (p := 51) (by decide +kernel) rfl kb_8 ?_
        by_cases c13 : (8 : Int32) ≤ v9
        · rw [if_pos c13] at h
          refine fs_icmp_ge_t (off := 12) (t := 63) (by decide +kernel) (by decide +kernel) c13 ?_
          refine fs_iload (k := 4) (p := 65) (by decide +kernel) rfl rfl ?_
          refine fs_bipush (n := 17) (p := 67) (by decide +kernel) rfl kb_17 ?_
          by_cases c14 : (17 : Int32) ≤ v9
          · rw [if_pos c14] at h
            refine fs_icmp_ge_t (off := 15) (t := 82) (by decide +kernel) (by decide +kernel) c14 ?_
            refine fs_aload_n (k := 0) (p := 83) (by decide +kernel) rfl rfl ?_
            obtain ⟨q16, w15, h⟩ := fx_bd h
            refine fs_callV (idx := 103) (mj := 50) (ci := 5) (na := 0) (mx := 2) (p := 86) (args := [.ref 6]) (rest := []) (al2 := [some (.ref 6), none]) (by decide +kernel) rfl (by decide +kernel) fo_6 rfl rfl rfl rfl rfl rfl rfl (by omega) (fun d' hd' => fe_50 (by omega) w15) rfl ?_
            exact fe_46_86 hd ih _ _ _ _ _ _ h
          · rw [if_neg c14] at h
            refine fs_icmp_ge_f (off := 15) (t := 82) (p := 70) (by decide +kernel) (by decide +kernel) rfl c14 ?_
            refine fs_aload_n (k := 0) (p := 71) (by decide +kernel) rfl rfl ?_
            refine fs_iload (k := 4) (p := 73) (by decide +kernel) rfl rfl ?_
            refine fs_bipush (n := 8) (p := 75) (by decide +kernel) rfl kb_8 ?_
            refine fs_isub (p := 76) (by decide +kernel) rfl ?_
            obtain ⟨q18, w17, h⟩ := fx_bd h
            refine fs_callV (idx := 100) (mj := 49) (ci := 5) (na := 1) (mx := 4) (p := 79) (args := [.ref 6, .int (v9 - (8 : Int32))]) (rest := []) (al2 := [some (.ref 6), some (.int (v9 - (8 : Int32))), none, none]) (by decide +kernel) rfl (by decide +kernel) fo_6 rfl rfl rfl rfl rfl rfl rfl (by omega) (fun d' hd' => fe_49 (by omega) w17) rfl ?_
            refine fs_goto (off := 7) (p := 86) (by decide +kernel) (by decide +kernel) ?_
            exact fe_46_86 hd ih _ _ _ _ _ _ h
        · rw [if_neg c13] at h
          refine fs_icmp_ge_f (off := 12) (t := 63) (p := 54) (by decide +kernel) (by decide +kernel) rfl c13 ?_
          refine fs_aload_n (k := 0) (p := 55) (by decide +kernel) rfl rfl ?_
          refine fs_iload (k := 4) (p := 57) (by decide +kernel) rfl rfl ?_
          obtain ⟨q20, w19, h⟩ := fx_bd h
          refine fs_callV (idx := 97) (mj := 48) (ci := 5) (na := 1) (mx := 4) (p := 60) (args := [.ref 6, .int v9]) (rest := []) (al2 := [some (.ref 6), some (.int v9), none, none]) (by decide +kernel) rfl (by decide +kernel) fo_6 rfl rfl rfl rfl rfl rfl rfl (by omega) (fun d' hd' => fe_48 (by omega) w19) rfl ?_
          refine fs_goto (off := 26) (p := 86) (by decide +kernel) (by decide +kernel) ?_
          exact fe_46_86 hd ih _ _ _ _ _ _ h
def fm_46 (x1 : Int32) (x2 : Int32) (σ : fx_S) : Option (Bool × fx_S) :=
  (fm_235 12 (-1 : Int32) σ).bind fun q56 =>
  (fm_47 x1 x1 (fx_w1 q56 6 7 (0 : Int32))).bind fun q58 =>
  fm_46_21 100000 x2 (0 : Int32) q58
theorem fe_46 {d : Nat} (hd : 2 ≤ d) {x1 : Int32} {x2 : Int32} {σ : fx_S} {q : Bool × fx_S} (h : fm_46 x1 x2 σ = some q) : fx_E none 46 d 0 [some (.ref 6), some (.int x1), some (.int x2), none, none] [] σ (some (.int (fx_b q.1))) q.2 := by
  unfold fm_46 at h
  refine fs_aload_n (k := 0) (p := 1) (by decide +kernel) rfl rfl ?_
  refine fs_gfr (idx := 27) (ci := 5) (j := 5) (p := 4) (by decide +kernel) rfl (by decide +kernel) fo_6 (fr_a6_5) ?_
  refine fs_iconst (n := -1) (p := 5) (by decide +kernel) rfl kc_m1 ?_
  obtain ⟨q56, w55, h⟩ := fx_bd h
  refine fs_callS (idx := 84) (mj := 235) (na := 2) (mx := 4) (p := 8) (args := [.ref 12, .int (-1 : Int32)]) (rest := []) (al2 := [some (.ref 12), some (.int (-1 : Int32)), none, none]) (by decide +kernel) rfl (by decide +kernel) rfl rfl rfl rfl rfl rfl rfl (by omega) (fun d' hd' => fe_235 (by omega) w55) rfl ?_
  refine fs_aload_n (k := 0) (p := 9) (by decide +kernel) rfl rfl ?_
  refine fs_iconst (n := 0) (p := 10) (by decide +kernel) rfl kc_0 ?_
  refine fs_pfi (idx := 90) (ci := 5) (j := 7) (p := 13) (by decide +kernel) rfl (by decide +kernel) (by decide +kernel) fo_6 (fx_oki _ (by decide +kernel)) ?_
  refine fs_aload_n (k := 0) (p := 14) (by decide +kernel) rfl rfl ?_
  refine fs_iload_n (k := 1) (p := 15) (by decide +kernel) rfl rfl ?_
  refine fs_iload_n (k := 1) (p := 16) (by decide +kernel) rfl rfl ?_
  obtain ⟨q58, w57, h⟩ := fx_bd h
  refine fs_callV (idx := 94) (mj := 47) (ci := 5) (na := 2) (mx := 3) (p := 19) (args := [.ref 6, .int x1, .int x1]) (rest := []) (al2 := [some (.ref 6), some (.int x1), some (.int x1)]) (by decide +kernel) rfl (by decide +kernel) fo_6 rfl rfl rfl rfl rfl rfl rfl (by omega) (fun d' hd' => fe_47 (by omega) w57) rfl ?_
  refine fs_iconst (n := 0) (p := 20) (by decide +kernel) rfl kc_0 ?_
  refine fs_istore_n (k := 3) (p := 21) (M := 5) (al' := [some (.ref 6), some (.int x1), some (.int x2), some (.int (0 : Int32)), none]) (by decide +kernel) rfl mx_46 rfl rfl ?_
  exact fe_46_21 hd 100000 _ _ _ _ _ _ h

/-! ZoneShares$Rounder.turnWay(II)V -/
theorem mx_51 : iv_mx 51 = 5 := by decide +kernel
theorem rt_51 : iv_rt 51 = none := by decide +kernel
def fm_51_5 : Nat → Int32 → Int32 → Int32 → fx_S → Option (fx_S)
  | 0, _, _, _, _ => none
  | n + 1, x1, x3, x4, σ =>
    if (18 : Int32) ≤ x4 then (
      some σ) else (
      if x3 = x1 then (
        some σ) else (
        (fx_ld σ 12 x3).bind fun v6 =>
        (fm_52 v6 x3 σ).bind fun q10 =>
        (fx_ld q10 12 x3).bind fun v11 =>
        fm_51_5 n x1 v11 (x4 + (1 : Int32)) q10))
theorem fe_51_5 {d : Nat} (hd : 1 ≤ d) : ∀ (n : Nat) (x1 : Int32) (x3 : Int32) (x4 : Int32) (o2 : Option Value) (σ : fx_S) (q : fx_S), fm_51_5 n x1 x3 x4 σ = some q → fx_E none 51 d 5 [some (.ref 6), some (.int x1), o2, some (.int x3), some (.int x4)] [] σ none q := by
  intro n
  induction n with
  | zero =>
    intro x1 x3 x4 o2 σ q  h
    rw [fm_51_5] at h
    exact fx_no h
  | succ n ih =>
    intro x1 x3 x4 o2 σ q  h
    rw [fm_51_5] at h
    refine fs_iload (k := 4) (p := 7) (by decide +kernel) rfl rfl ?_
    refine fs_bipush (n := 18) (p := 9) (by decide +kernel) rfl kb_18 ?_
    by_cases c2 : (18 : Int32) ≤ x4
    · rw [if_pos c2] at h
      refine fs_icmp_ge_t (off := 32) (t := 41) (by decide +kernel) (by decide +kernel) c2 ?_
      have h := Option.some.inj h
      subst h
      exact fs_ret (by decide +kernel) rt_51
    · rw [if_neg c2] at h
      refine fs_icmp_ge_f (off := 32) (t := 41) (p := 12) (by decide +kernel) (by decide +kernel) rfl c2 ?_
      refine fs_iload_n (k := 3) (p := 13) (by decide +kernel) rfl rfl ?_
      refine fs_iload_n (k := 1) (p := 14) (by decide +kernel) rfl rfl ?_
      by_cases c5 : x3 = x1
      · rw [if_pos c5] at h
        refine fs_icmp_eq_t (off := 27) (t := 41) (by decide +kernel) (by decide +kernel) c5 ?_
        have h := Option.some.inj h
        subst h
        exact fs_ret (by decide +kernel) rt_51
      · rw [if_neg c5] at h
        refine fs_icmp_eq_f (off := 27) (t := 41) (p := 17) (by decide +kernel) (by decide +kernel) rfl c5 ?_
        refine fs_aload_n (k := 0) (p := 18) (by decide +kernel) rfl rfl ?_
        refine fs_aload_n (k := 0) (p := 19) (by decide +kernel) rfl rfl ?_
        refine fs_gfr (idx := 27) (ci := 5) (j := 5) (p := 22) (by decide +kernel) rfl (by decide +kernel) fo_6 (fr_a6_5) ?_
        refine fs_iload_n (k := 3) (p := 23) (by decide +kernel) rfl rfl ?_
        obtain ⟨v6, w7, h⟩ := fx_bd h
        refine fs_iaload (p := 24) (by decide +kernel) rfl w7 ?_
        refine fs_iload_n (k := 3) (p := 25) (by decide +kernel) rfl rfl ?_
        obtain ⟨q10, w9, h⟩ := fx_bd h
        refine fs_callV (idx := 106) (mj := 52) (ci := 5) (na := 2) (mx := 3) (p := 28) (args := [.ref 6, .int v6, .int x3]) (rest := []) (al2 := [some (.ref 6), some (.int v6), some (.int x3)]) (by decide +kernel) rfl (by decide +kernel) fo_6 rfl rfl rfl rfl rfl rfl rfl (by omega) (fun d' hd' => fe_52 (by omega) w9) rfl ?_
        refine fs_aload_n (k := 0) (p := 29) (by decide +kernel) rfl rfl ?_
        refine fs_gfr (idx := 27) (ci := 5) (j := 5) (p := 32) (by decide +kernel) rfl (by decide +kernel) fo_6 (fr_a6_5) ?_
        refine fs_iload_n (k := 3) (p := 33) (by decide +kernel) rfl rfl ?_
        obtain ⟨v11, w12, h⟩ := fx_bd h
        refine fs_iaload (p := 34) (by decide +kernel) rfl w12 ?_
        refine fs_istore_n (k := 3) (p := 35) (M := 5) (al' := [some (.ref 6), some (.int x1), (fx_kl o2), some (.int v11), some (.int x4)]) (by decide +kernel) rfl mx_51 rfl rfl ?_
        refine fs_iinc (k := 4) (n := 1) (p := 38) (M := 5) (al' := [some (.ref 6), some (.int x1), (fx_kl o2), some (.int v11), some (.int (x4 + (1 : Int32)))]) (by decide +kernel) rfl kc_1 mx_51 rfl rfl rfl ?_
        refine fs_goto (off := -33) (p := 5) (by decide +kernel) (by decide +kernel) ?_
        exact ih _ _ _ _ _ _ h
def fm_51 (x1 : Int32) (x2 : Int32) (σ : fx_S) : Option (fx_S) :=
  fm_51_5 100000 x1 x2 (0 : Int32) σ
theorem fe_51 {d : Nat} (hd : 1 ≤ d) {x1 : Int32} {x2 : Int32} {σ : fx_S} {q : fx_S} (h : fm_51 x1 x2 σ = some q) : fx_E none 51 d 0 [some (.ref 6), some (.int x1), some (.int x2), none, none] [] σ none q := by
  unfold fm_51 at h
  refine fs_iload_n (k := 2) (p := 1) (by decide +kernel) rfl rfl ?_
  refine fs_istore_n (k := 3) (p := 2) (M := 5) (al' := [some (.ref 6), some (.int x1), some (.int x2), some (.int x2), none]) (by decide +kernel) rfl mx_51 rfl rfl ?_
  refine fs_iconst (n := 0) (p := 3) (by decide +kernel) rfl kc_0 ?_
  refine fs_istore (k := 4) (p := 5) (M := 5) (al' := [some (.ref 6), some (.int x1), some (.int x2), some (.int x2), some (.int (0 : Int32))]) (by decide +kernel) rfl mx_51 rfl rfl ?_
  exact fe_51_5 hd 100000 _ _ _ _ _ _ h

/-! ZoneShares$Table.clear()V -/
theorem mx_68 : iv_mx 68 = 1 := by decide +kernel
theorem rt_68 : iv_rt 68 = none := by decide +kernel
def fm_68 (x0 : Nat) (σ : fx_S) : Option (fx_S) :=
  if fx_oc x0 7 = true then (
  (fm_235 (x0 + 1) (0 : Int32) σ).bind fun q8 =>
  (fm_235 (x0 + 4) (0 : Int32) q8).bind fun q10 =>
  (fm_235 (x0 + 5) (0 : Int32) q10).bind fun q12 =>
  some q12) else none
theorem fe_68 {d : Nat} (hd : 1 ≤ d) {x0 : Nat} {σ : fx_S} {q : fx_S} (h : fm_68 x0 σ = some q) : fx_E none 68 d 0 [some (.ref x0)] [] σ none q := by
  unfold fm_68 at h
  obtain ⟨g0, h⟩ := fx_gd h
  refine fs_aload_n (k := 0) (p := 1) (by decide +kernel) rfl rfl ?_
  refine fs_gfr (idx := 9) (ci := 7) (j := 0) (p := 4) (by decide +kernel) rfl (by decide +kernel) g0 (fr_7_0 g0) ?_
  refine fs_iconst (n := 0) (p := 5) (by decide +kernel) rfl kc_0 ?_
  obtain ⟨q8, w7, h⟩ := fx_bd h
  refine fs_callS (idx := 36) (mj := 235) (na := 2) (mx := 4) (p := 8) (args := [.ref (x0 + 1), .int (0 : Int32)]) (rest := []) (al2 := [some (.ref (x0 + 1)), some (.int (0 : Int32)), none, none]) (by decide +kernel) rfl (by decide +kernel) rfl rfl rfl rfl rfl rfl rfl (by omega) (fun d' hd' => fe_235 (by omega) w7) rfl ?_
  refine fs_aload_n (k := 0) (p := 9) (by decide +kernel) rfl rfl ?_
  refine fs_gfr (idx := 21) (ci := 7) (j := 3) (p := 12) (by decide +kernel) rfl (by decide +kernel) g0 (fr_7_3 g0) ?_
  refine fs_iconst (n := 0) (p := 13) (by decide +kernel) rfl kc_0 ?_
  obtain ⟨q10, w9, h⟩ := fx_bd h
  refine fs_callS (idx := 36) (mj := 235) (na := 2) (mx := 4) (p := 16) (args := [.ref (x0 + 4), .int (0 : Int32)]) (rest := []) (al2 := [some (.ref (x0 + 4)), some (.int (0 : Int32)), none, none]) (by decide +kernel) rfl (by decide +kernel) rfl rfl rfl rfl rfl rfl rfl (by omega) (fun d' hd' => fe_235 (by omega) w9) rfl ?_
  refine fs_aload_n (k := 0) (p := 17) (by decide +kernel) rfl rfl ?_
  refine fs_gfr (idx := 24) (ci := 7) (j := 4) (p := 20) (by decide +kernel) rfl (by decide +kernel) g0 (fr_7_4 g0) ?_
  refine fs_iconst (n := 0) (p := 21) (by decide +kernel) rfl kc_0 ?_
  obtain ⟨q12, w11, h⟩ := fx_bd h
  refine fs_callS (idx := 36) (mj := 235) (na := 2) (mx := 4) (p := 24) (args := [.ref (x0 + 5), .int (0 : Int32)]) (rest := []) (al2 := [some (.ref (x0 + 5)), some (.int (0 : Int32)), none, none]) (by decide +kernel) rfl (by decide +kernel) rfl rfl rfl rfl rfl rfl rfl (by omega) (fun d' hd' => fe_235 (by omega) w11) rfl ?_
  have h := Option.some.inj h
  subst h
  exact fs_ret (by decide +kernel) rt_68

/-! ZoneShares$Table.cut()V -/
theorem mx_70 : iv_mx 70 = 3 := by decide +kernel
theorem rt_70 : iv_rt 70 = none := by decide +kernel
def fm_70_57 (k_2 : Nat → Int32 → fx_S → Option (fx_S)) (x0 : Nat) (x1 : Int32) (σ : fx_S) : Option (fx_S) :=
  (fm_72 (x0 + 4) x1 σ).bind fun q2 =>
  (fx_st q2.2 (x0 + 2) x1 q2.1).bind fun t3 =>
  (fx_ld t3 (x0 + 2) x1).bind fun v6 =>
  (fm_71 x0 x1 v6 t3).bind fun q9 =>
  k_2 x0 (x1 + (1 : Int32)) q9
theorem fe_70_57 {d : Nat} (hd : 1 ≤ d) {k_2 : Nat → Int32 → fx_S → Option (fx_S)} (hk_2 : ∀ (x0 : Nat) (x1 : Int32) (o2 : Option Value) (σ : fx_S) (q : fx_S) (g0 : fx_oc x0 7 = true), k_2 x0 x1 σ = some q → fx_E none 70 d 2 [some (.ref x0), some (.int x1), o2] [] σ none q) (x0 : Nat) (x1 : Int32) (o2 : Option Value) (σ : fx_S) (q : fx_S) (g0 : fx_oc x0 7 = true) (h : fm_70_57 k_2  x0 x1 σ = some q) : fx_E none 70 d 57 [some (.ref x0), some (.int x1), o2] [] σ none q := by
  unfold fm_70_57 at h
  refine fs_aload_n (k := 0) (p := 58) (by decide +kernel) rfl rfl ?_
  refine fs_gfr (idx := 15) (ci := 7) (j := 1) (p := 61) (by decide +kernel) rfl (by decide +kernel) g0 (fr_7_1 g0) ?_
  refine fs_iload_n (k := 1) (p := 62) (by decide +kernel) rfl rfl ?_
  refine fs_aload_n (k := 0) (p := 63) (by decide +kernel) rfl rfl ?_
  refine fs_gfr (idx := 21) (ci := 7) (j := 3) (p := 66) (by decide +kernel) rfl (by decide +kernel) g0 (fr_7_3 g0) ?_
  refine fs_iload_n (k := 1) (p := 67) (by decide +kernel) rfl rfl ?_
  obtain ⟨q2, w1, h⟩ := fx_bd h
  refine fs_callS (idx := 42) (mj := 72) (na := 2) (mx := 4) (p := 70) (args := [.ref (x0 + 4), .int x1]) (rest := [.int x1, .ref (x0 + 2)]) (al2 := [some (.ref (x0 + 4)), some (.int x1), none, none]) (by decide +kernel) rfl (by decide +kernel) rfl rfl rfl rfl rfl rfl rfl (by omega) (fun d' hd' => fe_72 (by omega) w1) rfl ?_
  obtain ⟨t3, w4, h⟩ := fx_bd h
  refine fs_iastore (p := 71) (by decide +kernel) rfl w4 ?_
  refine fs_aload_n (k := 0) (p := 72) (by decide +kernel) rfl rfl ?_
  refine fs_iload_n (k := 1) (p := 73) (by decide +kernel) rfl rfl ?_
  refine fs_aload_n (k := 0) (p := 74) (by decide +kernel) rfl rfl ?_
  refine fs_gfr (idx := 15) (ci := 7) (j := 1) (p := 77) (by decide +kernel) rfl (by decide +kernel) g0 (fr_7_1 g0) ?_
  refine fs_iload_n (k := 1) (p := 78) (by decide +kernel) rfl rfl ?_
  obtain ⟨v6, w7, h⟩ := fx_bd h
  refine fs_iaload (p := 79) (by decide +kernel) rfl w7 ?_
  obtain ⟨q9, w8, h⟩ := fx_bd h
  refine fs_callV (idx := 52) (mj := 71) (ci := 7) (na := 2) (mx := 6) (p := 82) (args := [.ref x0, .int x1, .int v6]) (rest := []) (al2 := [some (.ref x0), some (.int x1), some (.int v6), none, none, none]) (by decide +kernel) rfl (by decide +kernel) g0 rfl rfl rfl rfl rfl rfl rfl (by omega) (fun d' hd' => fe_71 (by omega) w8) rfl ?_
  refine fs_iinc (k := 1) (n := 1) (p := 85) (M := 3) (al' := [some (.ref x0), some (.int (x1 + (1 : Int32))), o2]) (by decide +kernel) rfl kc_1 mx_70 rfl rfl rfl ?_
  refine fs_goto (off := -83) (p := 2) (by decide +kernel) (by decide +kernel) ?_
  exact hk_2 _ _ _ _ _ g0 h
def fm_70_31 (k_2 : Nat → Int32 → fx_S → Option (fx_S)) (x0 : Nat) (x1 : Int32) (x2 : Int32) (s0 : Nat) (s1 : Int32) (s2 : Int32) (σ : fx_S) : Option (fx_S) :=
  (fx_st σ s0 s1 s2).bind fun t1 =>
  if ¬ x2 = 0 then (
    fm_70_57 k_2 x0 x1 t1) else (
    (fx_cpy t1 (x0 + 5) (x1 * (9 : Int32)) (x0 + 4) (x1 * (9 : Int32)) (9 : Int32)).bind fun t7 =>
    fm_70_57 k_2 x0 x1 t7)
theorem fe_70_31 {d : Nat} (hd : 1 ≤ d) {k_2 : Nat → Int32 → fx_S → Option (fx_S)} (hk_2 : ∀ (x0 : Nat) (x1 : Int32) (o2 : Option Value) (σ : fx_S) (q : fx_S) (g0 : fx_oc x0 7 = true), k_2 x0 x1 σ = some q → fx_E none 70 d 2 [some (.ref x0), some (.int x1), o2] [] σ none q) (x0 : Nat) (x1 : Int32) (x2 : Int32) (s0 : Nat) (s1 : Int32) (s2 : Int32) (σ : fx_S) (q : fx_S) (g0 : fx_oc x0 7 = true) (h : fm_70_31 k_2  x0 x1 x2 s0 s1 s2 σ = some q) : fx_E none 70 d 31 [some (.ref x0), some (.int x1), some (.int x2)] [.int s2, .int s1, .ref s0] σ none q := by
  unfold fm_70_31 at h
  obtain ⟨t1, w2, h⟩ := fx_bd h
  refine fs_iastore (p := 32) (by decide +kernel) rfl w2 ?_
  refine fs_iload_n (k := 2) (p := 33) (by decide +kernel) rfl rfl ?_
  by_cases c6 : ¬ x2 = 0
  · rw [if_pos c6] at h
    refine fs_if_ne_t (off := 24) (t := 57) (by decide +kernel) (by decide +kernel) c6 ?_
    exact fe_70_57 hd hk_2 _ _ _ _ _ g0 h
  · rw [if_neg c6] at h
    refine fs_if_ne_f (off := 24) (t := 57) (p := 36) (by decide +kernel) (by decide +kernel) rfl c6 ?_
    refine fs_aload_n (k := 0) (p := 37) (by decide +kernel) rfl rfl ?_
    refine fs_gfr (idx := 24) (ci := 7) (j := 4) (p := 40) (by decide +kernel) rfl (by decide +kernel) g0 (fr_7_4 g0) ?_
    refine fs_iload_n (k := 1) (p := 41) (by decide +kernel) rfl rfl ?_
    refine fs_bipush (n := 9) (p := 43) (by decide +kernel) rfl kb_9 ?_
    refine fs_imul (p := 44) (by decide +kernel) rfl ?_
    refine fs_aload_n (k := 0) (p := 45) (by decide +kernel) rfl rfl ?_
    refine fs_gfr (idx := 21) (ci := 7) (j := 3) (p := 48) (by decide +kernel) rfl (by decide +kernel) g0 (fr_7_3 g0) ?_
    refine fs_iload_n (k := 1) (p := 49) (by decide +kernel) rfl rfl ?_
    refine fs_bipush (n := 9) (p := 51) (by decide +kernel) rfl kb_9 ?_
    refine fs_imul (p := 52) (by decide +kernel) rfl ?_
    refine fs_bipush (n := 9) (p := 54) (by decide +kernel) rfl kb_9 ?_
    obtain ⟨t7, w8, h⟩ := fx_bd h
    refine fs_cpy (idx := 46) (p := 57) (by decide +kernel) rfl (by decide +kernel) rfl w8 ?_
    exact fe_70_57 hd hk_2 _ _ _ _ _ g0 h
def fm_70_2 : Nat → Nat → Int32 → fx_S → Option (fx_S)
  | 0, _, _, _ => none
  | n + 1, x0, x1, σ =>
    if (8 : Int32) ≤ x1 then (
      some σ) else (
      (fm_72 (x0 + 4) x1 σ).bind fun q4 =>
      if ¬ q4.1 = 0 then (
        fm_70_31 (fm_70_2 n) x0 x1 q4.1 (x0 + 3) x1 (0 : Int32) q4.2) else (
        fm_70_31 (fm_70_2 n) x0 x1 q4.1 (x0 + 3) x1 (1 : Int32) q4.2))
theorem fe_70_2 {d : Nat} (hd : 1 ≤ d) : ∀ (n : Nat) (x0 : Nat) (x1 : Int32) (o2 : Option Value) (σ : fx_S) (q : fx_S) (g0 : fx_oc x0 7 = true), fm_70_2 n x0 x1 σ = some q → fx_E none 70 d 2 [some (.ref x0), some (.int x1), o2] [] σ none q := by
  intro n
  induction n with
  | zero =>
    intro x0 x1 o2 σ q g0 h
    rw [fm_70_2] at h
    exact fx_no h
  | succ n ih =>
    intro x0 x1 o2 σ q g0 h
    rw [fm_70_2] at h
    refine fs_iload_n (k := 1) (p := 3) (by decide +kernel) rfl rfl ?_
    refine fs_bipush (n := 8) (p := 5) (by decide +kernel) rfl kb_8 ?_
    by_cases c2 : (8 : Int32) ≤ x1
    · rw [if_pos c2] at h
      refine fs_icmp_ge_t (off := 83) (t := 88) (by decide +kernel) (by decide +kernel) c2 ?_
      have h := Option.some.inj h
      subst h
      exact fs_ret (by decide +kernel) rt_70
    · rw [if_neg c2] at h
      refine fs_icmp_ge_f (off := 83) (t := 88) (p := 8) (by decide +kernel) (by decide +kernel) rfl c2 ?_
      refine fs_aload_n (k := 0) (p := 9) (by decide +kernel) rfl rfl ?_
      refine fs_gfr (idx := 21) (ci := 7) (j := 3) (p := 12) (by decide +kernel) rfl (by decide +kernel) g0 (fr_7_3 g0) ?_
      refine fs_iload_n (k := 1) (p := 13) (by decide +kernel) rfl rfl ?_
      obtain ⟨q4, w3, h⟩ := fx_bd h
      refine fs_callS (idx := 42) (mj := 72) (na := 2) (mx := 4) (p := 16) (args := [.ref (x0 + 4), .int x1]) (rest := []) (al2 := [some (.ref (x0 + 4)), some (.int x1), none, none]) (by decide +kernel) rfl (by decide +kernel) rfl rfl rfl rfl rfl rfl rfl (by omega) (fun d' hd' => fe_72 (by omega) w3) rfl ?_
      refine fs_istore_n (k := 2) (p := 17) (M := 3) (al' := [some (.ref x0), some (.int x1), some (.int q4.1)]) (by decide +kernel) rfl mx_70 rfl rfl ?_
      refine fs_aload_n (k := 0) (p := 18) (by decide +kernel) rfl rfl ?_
      refine fs_gfr (idx := 18) (ci := 7) (j := 2) (p := 21) (by decide +kernel) rfl (by decide +kernel) g0 (fr_7_2 g0) ?_
      refine fs_iload_n (k := 1) (p := 22) (by decide +kernel) rfl rfl ?_
      refine fs_iload_n (k := 2) (p := 23) (by decide +kernel) rfl rfl ?_
      by_cases c6 : ¬ q4.1 = 0
      · rw [if_pos c6] at h
        refine fs_if_ne_t (off := 7) (t := 30) (by decide +kernel) (by decide +kernel) c6 ?_
        refine fs_iconst (n := 0) (p := 31) (by decide +kernel) rfl kc_0 ?_
        exact fe_70_31 hd ih _ _ _ _ _ _ _ _ g0 h
      · rw [if_neg c6] at h
        refine fs_if_ne_f (off := 7) (t := 30) (p := 26) (by decide +kernel) (by decide +kernel) rfl c6 ?_
        refine fs_iconst (n := 1) (p := 27) (by decide +kernel) rfl kc_1 ?_
        refine fs_goto (off := 4) (p := 31) (by decide +kernel) (by decide +kernel) ?_
        exact fe_70_31 hd ih _ _ _ _ _ _ _ _ g0 h
def fm_70 (x0 : Nat) (σ : fx_S) : Option (fx_S) :=
  if fx_oc x0 7 = true then (
  fm_70_2 100000 x0 (0 : Int32) σ) else none
theorem fe_70 {d : Nat} (hd : 1 ≤ d) {x0 : Nat} {σ : fx_S} {q : fx_S} (h : fm_70 x0 σ = some q) : fx_E none 70 d 0 [some (.ref x0), none, none] [] σ none q := by
  unfold fm_70 at h
  obtain ⟨g0, h⟩ := fx_gd h
  refine fs_iconst (n := 0) (p := 1) (by decide +kernel) rfl kc_0 ?_
  refine fs_istore_n (k := 1) (p := 2) (M := 3) (al' := [some (.ref x0), some (.int (0 : Int32)), none]) (by decide +kernel) rfl mx_70 rfl rfl ?_
  exact fe_70_2 hd 100000 _ _ _ _ _ g0 h

/-! ZoneShares$Table.giveByRests()V -/
theorem mx_74 : iv_mx 74 = 4 := by decide +kernel
theorem rt_74 : iv_rt 74 = none := by decide +kernel
def fm_74_38 (k_2 : Nat → Int32 → fx_S → Option (fx_S)) (x0 : Nat) (x1 : Int32) (σ : fx_S) : Option (fx_S) :=
  k_2 x0 (x1 + (1 : Int32)) σ
theorem fe_74_38 {d : Nat} (hd : 2 ≤ d) {k_2 : Nat → Int32 → fx_S → Option (fx_S)} (hk_2 : ∀ (x0 : Nat) (x1 : Int32) (o2 : Option Value) (o3 : Option Value) (σ : fx_S) (q : fx_S) (g0 : fx_oc x0 7 = true), k_2 x0 x1 σ = some q → fx_E none 74 d 2 [some (.ref x0), some (.int x1), o2, o3] [] σ none q) (x0 : Nat) (x1 : Int32) (o2 : Option Value) (o3 : Option Value) (σ : fx_S) (q : fx_S) (g0 : fx_oc x0 7 = true) (h : fm_74_38 k_2  x0 x1 σ = some q) : fx_E none 74 d 38 [some (.ref x0), some (.int x1), o2, o3] [] σ none q := by
  unfold fm_74_38 at h
  refine fs_iinc (k := 1) (n := 1) (p := 41) (M := 4) (al' := [some (.ref x0), some (.int (x1 + (1 : Int32))), o2, o3]) (by decide +kernel) rfl kc_1 mx_74 rfl rfl rfl ?_
  refine fs_goto (off := -39) (p := 2) (by decide +kernel) (by decide +kernel) ?_
  exact hk_2 _ _ _ _ _ _ g0 h
def fm_74_16 (k_2 : Nat → Int32 → fx_S → Option (fx_S)) : Nat → Nat → Int32 → Int32 → Int32 → fx_S → Option (fx_S)
  | 0, _, _, _, _, _ => none
  | n + 1, x0, x1, x2, x3, σ =>
    if (9 : Int32) ≤ x3 then (
      fm_74_38 k_2 x0 x1 σ) else (
      if x2 ≤ x3 then (
        fm_74_38 k_2 x0 x1 σ) else (
        (fm_75 x0 x1 σ).bind fun q6 =>
        fm_74_16 k_2 n x0 x1 x2 (x3 + (1 : Int32)) q6))
theorem fe_74_16 {d : Nat} (hd : 2 ≤ d) {k_2 : Nat → Int32 → fx_S → Option (fx_S)} (hk_2 : ∀ (x0 : Nat) (x1 : Int32) (o2 : Option Value) (o3 : Option Value) (σ : fx_S) (q : fx_S) (g0 : fx_oc x0 7 = true), k_2 x0 x1 σ = some q → fx_E none 74 d 2 [some (.ref x0), some (.int x1), o2, o3] [] σ none q) : ∀ (n : Nat) (x0 : Nat) (x1 : Int32) (x2 : Int32) (x3 : Int32) (σ : fx_S) (q : fx_S) (g0 : fx_oc x0 7 = true), fm_74_16 k_2 n x0 x1 x2 x3 σ = some q → fx_E none 74 d 16 [some (.ref x0), some (.int x1), some (.int x2), some (.int x3)] [] σ none q := by
  intro n
  induction n with
  | zero =>
    intro x0 x1 x2 x3 σ q g0 h
    rw [fm_74_16] at h
    exact fx_no h
  | succ n ih =>
    intro x0 x1 x2 x3 σ q g0 h
    rw [fm_74_16] at h
    refine fs_iload_n (k := 3) (p := 17) (by decide +kernel) rfl rfl ?_
    refine fs_bipush (n := 9) (p := 19) (by decide +kernel) rfl kb_9 ?_
    by_cases c2 : (9 : Int32) ≤ x3
    · rw [if_pos c2] at h
      refine fs_icmp_ge_t (off := 19) (t := 38) (by decide +kernel) (by decide +kernel) c2 ?_
      exact fe_74_38 hd hk_2 _ _ _ _ _ _ g0 h
    · rw [if_neg c2] at h
      refine fs_icmp_ge_f (off := 19) (t := 38) (p := 22) (by decide +kernel) (by decide +kernel) rfl c2 ?_
      refine fs_iload_n (k := 3) (p := 23) (by decide +kernel) rfl rfl ?_
      refine fs_iload_n (k := 2) (p := 24) (by decide +kernel) rfl rfl ?_
      by_cases c4 : x2 ≤ x3
      · rw [if_pos c4] at h
        refine fs_icmp_ge_t (off := 14) (t := 38) (by decide +kernel) (by decide +kernel) c4 ?_
        exact fe_74_38 hd hk_2 _ _ _ _ _ _ g0 h
      · rw [if_neg c4] at h
        refine fs_icmp_ge_f (off := 14) (t := 38) (p := 27) (by decide +kernel) (by decide +kernel) rfl c4 ?_
        refine fs_aload_n (k := 0) (p := 28) (by decide +kernel) rfl rfl ?_
        refine fs_iload_n (k := 1) (p := 29) (by decide +kernel) rfl rfl ?_
        obtain ⟨q6, w5, h⟩ := fx_bd h
        refine fs_callV (idx := 60) (mj := 75) (ci := 7) (na := 1) (mx := 5) (p := 32) (args := [.ref x0, .int x1]) (rest := []) (al2 := [some (.ref x0), some (.int x1), none, none, none]) (by decide +kernel) rfl (by decide +kernel) g0 rfl rfl rfl rfl rfl rfl rfl (by omega) (fun d' hd' => fe_75 (by omega) w5) rfl ?_
        refine fs_iinc (k := 3) (n := 1) (p := 35) (M := 4) (al' := [some (.ref x0), some (.int x1), some (.int x2), some (.int (x3 + (1 : Int32)))]) (by decide +kernel) rfl kc_1 mx_74 rfl rfl rfl ?_
        refine fs_goto (off := -19) (p := 16) (by decide +kernel) (by decide +kernel) ?_
        exact ih _ _ _ _ _ _ g0 h
def fm_74_2 : Nat → Nat → Int32 → fx_S → Option (fx_S)
  | 0, _, _, _ => none
  | n + 1, x0, x1, σ =>
    if (8 : Int32) ≤ x1 then (
      some σ) else (
      (fm_73 x0 x1 σ).bind fun q4 =>
      fm_74_16 (fm_74_2 n) 100000 x0 x1 q4.1 (0 : Int32) q4.2)
theorem fe_74_2 {d : Nat} (hd : 2 ≤ d) : ∀ (n : Nat) (x0 : Nat) (x1 : Int32) (o2 : Option Value) (o3 : Option Value) (σ : fx_S) (q : fx_S) (g0 : fx_oc x0 7 = true), fm_74_2 n x0 x1 σ = some q → fx_E none 74 d 2 [some (.ref x0), some (.int x1), o2, o3] [] σ none q := by
  intro n
  induction n with
  | zero =>
    intro x0 x1 o2 o3 σ q g0 h
    rw [fm_74_2] at h
    exact fx_no h
  | succ n ih =>
    intro x0 x1 o2 o3 σ q g0 h
    rw [fm_74_2] at h
    refine fs_iload_n (k := 1) (p := 3) (by decide +kernel) rfl rfl ?_
    refine fs_bipush (n := 8) (p := 5) (by decide +kernel) rfl kb_8 ?_
    by_cases c2 : (8 : Int32) ≤ x1
    · rw [if_pos c2] at h
      refine fs_icmp_ge_t (off := 39) (t := 44) (by decide +kernel) (by decide +kernel) c2 ?_
      have h := Option.some.inj h
      subst h
      exact fs_ret (by decide +kernel) rt_74
    · rw [if_neg c2] at h
      refine fs_icmp_ge_f (off := 39) (t := 44) (p := 8) (by decide +kernel) (by decide +kernel) rfl c2 ?_
      refine fs_aload_n (k := 0) (p := 9) (by decide +kernel) rfl rfl ?_
      refine fs_iload_n (k := 1) (p := 10) (by decide +kernel) rfl rfl ?_
      obtain ⟨q4, w3, h⟩ := fx_bd h
      refine fs_callV (idx := 56) (mj := 73) (ci := 7) (na := 1) (mx := 2) (p := 13) (args := [.ref x0, .int x1]) (rest := []) (al2 := [some (.ref x0), some (.int x1)]) (by decide +kernel) rfl (by decide +kernel) g0 rfl rfl rfl rfl rfl rfl rfl (by omega) (fun d' hd' => fe_73 (by omega) w3) rfl ?_
      refine fs_istore_n (k := 2) (p := 14) (M := 4) (al' := [some (.ref x0), some (.int x1), some (.int q4.1), o3]) (by decide +kernel) rfl mx_74 rfl rfl ?_
      refine fs_iconst (n := 0) (p := 15) (by decide +kernel) rfl kc_0 ?_
      refine fs_istore_n (k := 3) (p := 16) (M := 4) (al' := [some (.ref x0), some (.int x1), some (.int q4.1), some (.int (0 : Int32))]) (by decide +kernel) rfl mx_74 rfl rfl ?_
      exact fe_74_16 hd ih 100000 _ _ _ _ _ _ g0 h
def fm_74 (x0 : Nat) (σ : fx_S) : Option (fx_S) :=
  if fx_oc x0 7 = true then (
  fm_74_2 100000 x0 (0 : Int32) σ) else none
theorem fe_74 {d : Nat} (hd : 2 ≤ d) {x0 : Nat} {σ : fx_S} {q : fx_S} (h : fm_74 x0 σ = some q) : fx_E none 74 d 0 [some (.ref x0), none, none, none] [] σ none q := by
  unfold fm_74 at h
  obtain ⟨g0, h⟩ := fx_gd h
  refine fs_iconst (n := 0) (p := 1) (by decide +kernel) rfl kc_0 ?_
  refine fs_istore_n (k := 1) (p := 2) (M := 4) (al' := [some (.ref x0), some (.int (0 : Int32)), none, none]) (by decide +kernel) rfl mx_74 rfl rfl ?_
  exact fe_74_2 hd 100000 _ _ _ _ _ _ g0 h

/-! ZoneShares$Table.common()J -/
theorem mx_78 : iv_mx 78 = 6 := by decide +kernel
theorem rt_78 : iv_rt 78 = some .long := by decide +kernel
def fm_78_52 (k_4 : Nat → Int64 → Int32 → fx_S → Option (Int64 × fx_S)) (x0 : Nat) (x1 : Int64) (x3 : Int32) (σ : fx_S) : Option (Int64 × fx_S) :=
  k_4 x0 x1 (x3 + (1 : Int32)) σ
theorem fe_78_52 {d : Nat} (hd : 1 ≤ d) {k_4 : Nat → Int64 → Int32 → fx_S → Option (Int64 × fx_S)} (hk_4 : ∀ (x0 : Nat) (x1 : Int64) (x3 : Int32) (o4 : Option Value) (σ : fx_S) (q : Int64 × fx_S) (g0 : fx_oc x0 7 = true), k_4 x0 x1 x3 σ = some q → fx_E none 78 d 4 [some (.ref x0), some (.long x1), none, some (.int x3), o4, none] [] σ (some (.long q.1)) q.2) (x0 : Nat) (x1 : Int64) (x3 : Int32) (o4 : Option Value) (σ : fx_S) (q : Int64 × fx_S) (g0 : fx_oc x0 7 = true) (h : fm_78_52 k_4  x0 x1 x3 σ = some q) : fx_E none 78 d 52 [some (.ref x0), some (.long x1), none, some (.int x3), o4, none] [] σ (some (.long q.1)) q.2 := by
  unfold fm_78_52 at h
  refine fs_iinc (k := 3) (n := 1) (p := 55) (M := 6) (al' := [some (.ref x0), some (.long x1), none, some (.int (x3 + (1 : Int32))), o4, none]) (by decide +kernel) rfl kc_1 mx_78 rfl rfl rfl ?_
  refine fs_goto (off := -51) (p := 4) (by decide +kernel) (by decide +kernel) ?_
  exact hk_4 _ _ _ _ _ _ g0 h
def fm_78_4 : Nat → Nat → Int64 → Int32 → fx_S → Option (Int64 × fx_S)
  | 0, _, _, _, _ => none
  | n + 1, x0, x1, x3, σ =>
    if (8 : Int32) ≤ x3 then (
      some (x1, σ)) else (
      (fx_ld σ (x0 + 2) x3).bind fun v3 =>
      (fm_128 x1 (v3).toInt64 σ).bind fun q8 =>
      (fx_ld q8.2 (x0 + 2) x3).bind fun v9 =>
      if v9 ≤ 0 then (
        fm_78_52 (fm_78_4 n) x0 x1 x3 q8.2) else (
        if q8.1 ≤ (0 : Int64) then (
          fm_78_52 (fm_78_4 n) x0 x1 x3 q8.2) else (
          if ¬ q8.1 = 0 then (
          (fx_ld q8.2 (x0 + 2) x3).bind fun v17 =>
          fm_78_52 (fm_78_4 n) x0 ((x1 / q8.1) * (v17).toInt64) x3 q8.2) else none)))
theorem fe_78_4 {d : Nat} (hd : 1 ≤ d) : ∀ (n : Nat) (x0 : Nat) (x1 : Int64) (x3 : Int32) (o4 : Option Value) (σ : fx_S) (q : Int64 × fx_S) (g0 : fx_oc x0 7 = true), fm_78_4 n x0 x1 x3 σ = some q → fx_E none 78 d 4 [some (.ref x0), some (.long x1), none, some (.int x3), o4, none] [] σ (some (.long q.1)) q.2 := by
  intro n
  induction n with
  | zero =>
    intro x0 x1 x3 o4 σ q g0 h
    rw [fm_78_4] at h
    exact fx_no h
  | succ n ih =>
    intro x0 x1 x3 o4 σ q g0 h
    rw [fm_78_4] at h
    refine fs_iload_n (k := 3) (p := 5) (by decide +kernel) rfl rfl ?_
    refine fs_bipush (n := 8) (p := 7) (by decide +kernel) rfl kb_8 ?_
    by_cases c2 : (8 : Int32) ≤ x3
    · rw [if_pos c2] at h
      refine fs_icmp_ge_t (off := 51) (t := 58) (by decide +kernel) (by decide +kernel) c2 ?_
      refine fs_lload_n (k := 1) (p := 59) (by decide +kernel) rfl rfl ?_
      have h := Option.some.inj h
      subst h
      exact fs_lret (by decide +kernel) rt_78
    · rw [if_neg c2] at h
      refine fs_icmp_ge_f (off := 51) (t := 58) (p := 10) (by decide +kernel) (by decide +kernel) rfl c2 ?_
      refine fs_lload_n (k := 1) (p := 11) (by decide +kernel) rfl rfl ?_
      refine fs_aload_n (k := 0) (p := 12) (by decide +kernel) rfl rfl ?_
      refine fs_gfr (idx := 15) (ci := 7) (j := 1) (p := 15) (by decide +kernel) rfl (by decide +kernel) g0 (fr_7_1 g0) ?_
      refine fs_iload_n (k := 3) (p := 16) (by decide +kernel) rfl rfl ?_
      obtain ⟨v3, w4, h⟩ := fx_bd h
      refine fs_iaload (p := 17) (by decide +kernel) rfl w4 ?_
      refine fs_i2l (p := 18) (by decide +kernel) rfl ?_
      obtain ⟨q8, w7, h⟩ := fx_bd h
      refine fs_callS (idx := 64) (mj := 128) (na := 2) (mx := 11) (p := 21) (args := [.long x1, .long (v3).toInt64]) (rest := []) (al2 := [some (.long x1), none, some (.long (v3).toInt64), none, none, none, none, none, none, none, none]) (by decide +kernel) rfl (by decide +kernel) rfl rfl rfl rfl rfl rfl rfl (by omega) (fun d' hd' => fe_128 (by omega) w7) rfl ?_
      refine fs_lstore (k := 4) (p := 23) (M := 6) (al' := [some (.ref x0), some (.long x1), none, some (.int x3), some (.long q8.1), none]) (by decide +kernel) rfl mx_78 rfl rfl ?_
      refine fs_aload_n (k := 0) (p := 24) (by decide +kernel) rfl rfl ?_
      refine fs_gfr (idx := 15) (ci := 7) (j := 1) (p := 27) (by decide +kernel) rfl (by decide +kernel) g0 (fr_7_1 g0) ?_
      refine fs_iload_n (k := 3) (p := 28) (by decide +kernel) rfl rfl ?_
      obtain ⟨v9, w10, h⟩ := fx_bd h
      refine fs_iaload (p := 29) (by decide +kernel) rfl w10 ?_
      by_cases c12 : v9 ≤ 0
      · rw [if_pos c12] at h
        refine fs_if_le_t (off := 23) (t := 52) (by decide +kernel) (by decide +kernel) c12 ?_
        exact fe_78_52 hd ih _ _ _ _ _ _ g0 h
      · rw [if_neg c12] at h
        refine fs_if_le_f (off := 23) (t := 52) (p := 32) (by decide +kernel) (by decide +kernel) rfl c12 ?_
        refine fs_lload (k := 4) (p := 34) (by decide +kernel) rfl rfl ?_
        refine fs_lconst (n := 0) (p := 35) (by decide +kernel) rfl kl_0 ?_
        by_cases c14 : q8.1 ≤ (0 : Int64)
        · rw [if_pos c14] at h
          refine fs_lcmp_le_t (off := 16) (t := 52) (by decide +kernel) (by decide +kernel) (by decide +kernel) c14 ?_
          exact fe_78_52 hd ih _ _ _ _ _ _ g0 h
        · rw [if_neg c14] at h
          refine fs_lcmp_le_f (off := 16) (t := 52) (p := 39) (by decide +kernel) (by decide +kernel) (by decide +kernel) rfl c14 ?_
          refine fs_lload_n (k := 1) (p := 40) (by decide +kernel) rfl rfl ?_
          refine fs_lload (k := 4) (p := 42) (by decide +kernel) rfl rfl ?_
          obtain ⟨z16, h⟩ := fx_gd h
          refine fs_ldiv (p := 43) (by decide +kernel) rfl z16 ?_
          refine fs_aload_n (k := 0) (p := 44) (by decide +kernel) rfl rfl ?_
          refine fs_gfr (idx := 15) (ci := 7) (j := 1) (p := 47) (by decide +kernel) rfl (by decide +kernel) g0 (fr_7_1 g0) ?_
          refine fs_iload_n (k := 3) (p := 48) (by decide +kernel) rfl rfl ?_
          obtain ⟨v17, w18, h⟩ := fx_bd h
          refine fs_iaload (p := 49) (by decide +kernel) rfl w18 ?_
          refine fs_i2l (p := 50) (by decide +kernel) rfl ?_
          refine fs_lmul (p := 51) (by decide +kernel) rfl ?_
          refine fs_lstore_n (k := 1) (p := 52) (M := 6) (al' := [some (.ref x0), some (.long ((x1 / q8.1) * (v17).toInt64)), none, some (.int x3), some (.long q8.1), none]) (by decide +kernel) rfl mx_78 rfl rfl ?_
          exact fe_78_52 hd ih _ _ _ _ _ _ g0 h
def fm_78 (x0 : Nat) (σ : fx_S) : Option (Int64 × fx_S) :=
  if fx_oc x0 7 = true then (
  fm_78_4 100000 x0 (1 : Int64) (0 : Int32) σ) else none
theorem fe_78 {d : Nat} (hd : 1 ≤ d) {x0 : Nat} {σ : fx_S} {q : Int64 × fx_S} (h : fm_78 x0 σ = some q) : fx_E none 78 d 0 [some (.ref x0), none, none, none, none, none] [] σ (some (.long q.1)) q.2 := by
  unfold fm_78 at h
  obtain ⟨g0, h⟩ := fx_gd h
  refine fs_lconst (n := 1) (p := 1) (by decide +kernel) rfl kl_1 ?_
  refine fs_lstore_n (k := 1) (p := 2) (M := 6) (al' := [some (.ref x0), some (.long (1 : Int64)), none, none, none, none]) (by decide +kernel) rfl mx_78 rfl rfl ?_
  refine fs_iconst (n := 0) (p := 3) (by decide +kernel) rfl kc_0 ?_
  refine fs_istore_n (k := 3) (p := 4) (M := 6) (al' := [some (.ref x0), some (.long (1 : Int64)), none, some (.int (0 : Int32)), none, none]) (by decide +kernel) rfl mx_78 rfl rfl ?_
  exact fe_78_4 hd 100000 _ _ _ _ _ _ g0 h

/-! ZoneShares.undo()I -/
theorem mx_94 : iv_mx 94 = 1 := by decide +kernel
theorem rt_94 : iv_rt 94 = some .int := by decide +kernel
def fm_94 (σ : fx_S) : Option (Int32 × fx_S) :=
  if ¬ (σ.1 16 2) = 0 then (
    (fm_120 σ).bind fun q10 =>
    (fm_32 1 q10).bind fun q12 =>
    some ((q12.1 16 2), q12)) else (
    some ((-1 : Int32), σ))
theorem fe_94 {d : Nat} (hd : 2 ≤ d) {σ : fx_S} {q : Int32 × fx_S} (h : fm_94 σ = some q) : fx_E none 94 d 0 [some (.ref 0)] [] σ (some (.int q.1)) q.2 := by
  unfold fm_94 at h
  refine fs_aload_n (k := 0) (p := 1) (by decide +kernel) rfl rfl ?_
  refine fs_gfr (idx := 29) (ci := 9) (j := 2) (p := 4) (by decide +kernel) rfl (by decide +kernel) fo_0 (fr_a0_2) ?_
  refine fs_gfi (idx := 160) (ci := 3) (j := 2) (p := 7) (by decide +kernel) rfl (by decide +kernel) fo_16 ?_
  by_cases c8 : ¬ (σ.1 16 2) = 0
  · rw [if_pos c8] at h
    refine fs_if_ne_t (off := 5) (t := 12) (by decide +kernel) (by decide +kernel) c8 ?_
    refine fs_aload_n (k := 0) (p := 13) (by decide +kernel) rfl rfl ?_
    obtain ⟨q10, w9, h⟩ := fx_bd h
    refine fs_callV (idx := 163) (mj := 120) (ci := 9) (na := 0) (mx := 2) (p := 16) (args := [.ref 0]) (rest := []) (al2 := [some (.ref 0), none]) (by decide +kernel) rfl (by decide +kernel) fo_0 rfl rfl rfl rfl rfl rfl rfl (by omega) (fun d' hd' => fe_120 (by omega) w9) rfl ?_
    refine fs_aload_n (k := 0) (p := 17) (by decide +kernel) rfl rfl ?_
    refine fs_gfr (idx := 29) (ci := 9) (j := 2) (p := 20) (by decide +kernel) rfl (by decide +kernel) fo_0 (fr_a0_2) ?_
    refine fs_aload_n (k := 0) (p := 21) (by decide +kernel) rfl rfl ?_
    refine fs_gfr (idx := 13) (ci := 9) (j := 1) (p := 24) (by decide +kernel) rfl (by decide +kernel) fo_0 (fr_a0_1) ?_
    obtain ⟨q12, w11, h⟩ := fx_bd h
    refine fs_callV (idx := 166) (mj := 32) (ci := 3) (na := 1) (mx := 2) (p := 27) (args := [.ref 16, .ref 1]) (rest := []) (al2 := [some (.ref 16), some (.ref 1)]) (by decide +kernel) rfl (by decide +kernel) fo_16 rfl rfl rfl rfl rfl rfl rfl (by omega) (fun d' hd' => fe_32 (by omega) w11) rfl ?_
    refine fs_aload_n (k := 0) (p := 28) (by decide +kernel) rfl rfl ?_
    refine fs_gfr (idx := 29) (ci := 9) (j := 2) (p := 31) (by decide +kernel) rfl (by decide +kernel) fo_0 (fr_a0_2) ?_
    refine fs_gfi (idx := 160) (ci := 3) (j := 2) (p := 34) (by decide +kernel) rfl (by decide +kernel) fo_16 ?_
    have h := Option.some.inj h
    subst h
    exact fs_iret (by decide +kernel) rt_94
  · rw [if_neg c8] at h
    refine fs_if_ne_f (off := 5) (t := 12) (p := 10) (by decide +kernel) (by decide +kernel) rfl c8 ?_
    refine fs_iconst (n := -1) (p := 11) (by decide +kernel) rfl kc_m1 ?_
    have h := Option.some.inj h
    subst h
    exact fs_iret (by decide +kernel) rt_94

/-! ZoneShares.weight(II)I -/
theorem mx_112 : iv_mx 112 = 3 := by decide +kernel
theorem rt_112 : iv_rt 112 = some .int := by decide +kernel
def fm_112 (x1 : Int32) (x2 : Int32) (σ : fx_S) : Option (Int32 × fx_S) :=
  (fm_114 x1 σ).bind fun q11 =>
  if (fx_b q11.1) = 0 then (
    some ((-1 : Int32), q11.2)) else (
    (fm_116 x2 q11.2).bind fun q14 =>
    if (fx_b q14.1) = 0 then (
      some ((-1 : Int32), q14.2)) else (
      (fx_ld q14.2 4 ((x1 * (4 : Int32)) + x2)).bind fun v16 =>
      some (v16, q14.2)))
theorem fe_112 {d : Nat} (hd : 1 ≤ d) {x1 : Int32} {x2 : Int32} {σ : fx_S} {q : Int32 × fx_S} (h : fm_112 x1 x2 σ = some q) : fx_E none 112 d 0 [some (.ref 0), some (.int x1), some (.int x2)] [] σ (some (.int q.1)) q.2 := by
  unfold fm_112 at h
  refine fs_iload_n (k := 1) (p := 1) (by decide +kernel) rfl rfl ?_
  obtain ⟨q11, w10, h⟩ := fx_bd h
  refine fs_callS (idx := 94) (mj := 114) (na := 1) (mx := 1) (p := 4) (args := [.int x1]) (rest := []) (al2 := [some (.int x1)]) (by decide +kernel) rfl (by decide +kernel) rfl rfl rfl rfl rfl rfl rfl (by omega) (fun d' hd' => fe_114 (by omega) w10) rfl ?_
  by_cases c12 : (fx_b q11.1) = 0
  · rw [if_pos c12] at h
    refine fs_if_eq_t (off := 26) (t := 30) (by decide +kernel) (by decide +kernel) c12 ?_
    refine fs_iconst (n := -1) (p := 31) (by decide +kernel) rfl kc_m1 ?_
    have h := Option.some.inj h
    subst h
    exact fs_iret (by decide +kernel) rt_112
  · rw [if_neg c12] at h
    refine fs_if_eq_f (off := 26) (t := 30) (p := 7) (by decide +kernel) (by decide +kernel) rfl c12 ?_
    refine fs_iload_n (k := 2) (p := 8) (by decide +kernel) rfl rfl ?_
    obtain ⟨q14, w13, h⟩ := fx_bd h
    refine fs_callS (idx := 116) (mj := 116) (na := 1) (mx := 1) (p := 11) (args := [.int x2]) (rest := []) (al2 := [some (.int x2)]) (by decide +kernel) rfl (by decide +kernel) rfl rfl rfl rfl rfl rfl rfl (by omega) (fun d' hd' => fe_116 (by omega) w13) rfl ?_
    by_cases c15 : (fx_b q14.1) = 0
    · rw [if_pos c15] at h
      refine fs_if_eq_t (off := 19) (t := 30) (by decide +kernel) (by decide +kernel) c15 ?_
      refine fs_iconst (n := -1) (p := 31) (by decide +kernel) rfl kc_m1 ?_
      have h := Option.some.inj h
      subst h
      exact fs_iret (by decide +kernel) rt_112
    · rw [if_neg c15] at h
      refine fs_if_eq_f (off := 19) (t := 30) (p := 14) (by decide +kernel) (by decide +kernel) rfl c15 ?_
      refine fs_aload_n (k := 0) (p := 15) (by decide +kernel) rfl rfl ?_
      refine fs_gfr (idx := 13) (ci := 9) (j := 1) (p := 18) (by decide +kernel) rfl (by decide +kernel) fo_0 (fr_a0_1) ?_
      refine fs_gfr (idx := 119) (ci := 6) (j := 2) (p := 21) (by decide +kernel) rfl (by decide +kernel) fo_1 (fr_a1_2) ?_
      refine fs_iload_n (k := 1) (p := 22) (by decide +kernel) rfl rfl ?_
      refine fs_iconst (n := 4) (p := 23) (by decide +kernel) rfl kc_4 ?_
      refine fs_imul (p := 24) (by decide +kernel) rfl ?_
      refine fs_iload_n (k := 2) (p := 25) (by decide +kernel) rfl rfl ?_
      refine fs_iadd (p := 26) (by decide +kernel) rfl ?_
      obtain ⟨v16, w17, h⟩ := fx_bd h
      refine fs_iaload (p := 27) (by decide +kernel) rfl w17 ?_
      refine fs_goto (off := 4) (p := 31) (by decide +kernel) (by decide +kernel) ?_
      have h := Option.some.inj h
      subst h
      exact fs_iret (by decide +kernel) rt_112

/-! ZoneShares.districtOf(I)I -/
theorem mx_113 : iv_mx 113 = 2 := by decide +kernel
theorem rt_113 : iv_rt 113 = some .int := by decide +kernel
def fm_113 (x1 : Int32) (σ : fx_S) : Option (Int32 × fx_S) :=
  (fm_115 x1 σ).bind fun q8 =>
  if (fx_b q8.1) = 0 then (
    some ((-1 : Int32), q8.2)) else (
    (fx_ld q8.2 5 x1).bind fun v10 =>
    some (v10, q8.2))
theorem fe_113 {d : Nat} (hd : 1 ≤ d) {x1 : Int32} {σ : fx_S} {q : Int32 × fx_S} (h : fm_113 x1 σ = some q) : fx_E none 113 d 0 [some (.ref 0), some (.int x1)] [] σ (some (.int q.1)) q.2 := by
  unfold fm_113 at h
  refine fs_iload_n (k := 1) (p := 1) (by decide +kernel) rfl rfl ?_
  obtain ⟨q8, w7, h⟩ := fx_bd h
  refine fs_callS (idx := 128) (mj := 115) (na := 1) (mx := 1) (p := 4) (args := [.int x1]) (rest := []) (al2 := [some (.int x1)]) (by decide +kernel) rfl (by decide +kernel) rfl rfl rfl rfl rfl rfl rfl (by omega) (fun d' hd' => fe_115 (by omega) w7) rfl ?_
  by_cases c9 : (fx_b q8.1) = 0
  · rw [if_pos c9] at h
    refine fs_if_eq_t (off := 15) (t := 19) (by decide +kernel) (by decide +kernel) c9 ?_
    refine fs_iconst (n := -1) (p := 20) (by decide +kernel) rfl kc_m1 ?_
    have h := Option.some.inj h
    subst h
    exact fs_iret (by decide +kernel) rt_113
  · rw [if_neg c9] at h
    refine fs_if_eq_f (off := 15) (t := 19) (p := 7) (by decide +kernel) (by decide +kernel) rfl c9 ?_
    refine fs_aload_n (k := 0) (p := 8) (by decide +kernel) rfl rfl ?_
    refine fs_gfr (idx := 13) (ci := 9) (j := 1) (p := 11) (by decide +kernel) rfl (by decide +kernel) fo_0 (fr_a0_1) ?_
    refine fs_gfr (idx := 134) (ci := 6) (j := 3) (p := 14) (by decide +kernel) rfl (by decide +kernel) fo_1 (fr_a1_3) ?_
    refine fs_iload_n (k := 1) (p := 15) (by decide +kernel) rfl rfl ?_
    obtain ⟨v10, w11, h⟩ := fx_bd h
    refine fs_iaload (p := 16) (by decide +kernel) rfl w11 ?_
    refine fs_goto (off := 4) (p := 20) (by decide +kernel) (by decide +kernel) ?_
    have h := Option.some.inj h
    subst h
    exact fs_iret (by decide +kernel) rt_113

/-! ZoneShares.startAct()V -/
theorem mx_119 : iv_mx 119 = 1 := by decide +kernel
theorem rt_119 : iv_rt 119 = none := by decide +kernel
def fm_119 (σ : fx_S) : Option (fx_S) :=
  (fm_31 1 σ).bind fun q6 =>
  (fm_120 q6).bind fun q8 =>
  some q8
theorem fe_119 {d : Nat} (hd : 2 ≤ d) {σ : fx_S} {q : fx_S} (h : fm_119 σ = some q) : fx_E none 119 d 0 [some (.ref 0)] [] σ none q := by
  unfold fm_119 at h
  refine fs_aload_n (k := 0) (p := 1) (by decide +kernel) rfl rfl ?_
  refine fs_gfr (idx := 29) (ci := 9) (j := 2) (p := 4) (by decide +kernel) rfl (by decide +kernel) fo_0 (fr_a0_2) ?_
  refine fs_aload_n (k := 0) (p := 5) (by decide +kernel) rfl rfl ?_
  refine fs_gfr (idx := 13) (ci := 9) (j := 1) (p := 8) (by decide +kernel) rfl (by decide +kernel) fo_0 (fr_a0_1) ?_
  obtain ⟨q6, w5, h⟩ := fx_bd h
  refine fs_callV (idx := 310) (mj := 31) (ci := 3) (na := 1) (mx := 2) (p := 11) (args := [.ref 16, .ref 1]) (rest := []) (al2 := [some (.ref 16), some (.ref 1)]) (by decide +kernel) rfl (by decide +kernel) fo_16 rfl rfl rfl rfl rfl rfl rfl (by omega) (fun d' hd' => fe_31 (by omega) w5) rfl ?_
  refine fs_aload_n (k := 0) (p := 12) (by decide +kernel) rfl rfl ?_
  obtain ⟨q8, w7, h⟩ := fx_bd h
  refine fs_callV (idx := 163) (mj := 120) (ci := 9) (na := 0) (mx := 2) (p := 15) (args := [.ref 0]) (rest := []) (al2 := [some (.ref 0), none]) (by decide +kernel) rfl (by decide +kernel) fo_0 rfl rfl rfl rfl rfl rfl rfl (by omega) (fun d' hd' => fe_120 (by omega) w7) rfl ?_
  have h := Option.some.inj h
  subst h
  exact fs_ret (by decide +kernel) rt_119

/-! ZoneShares.countPieces()I -/
theorem mx_123 : iv_mx 123 = 6 := by decide +kernel
theorem rt_123 : iv_rt 123 = some .int := by decide +kernel
def fm_123_101 (k_20 : Int32 → Int32 → Int32 → fx_S → Option (Int32 × fx_S)) (x1 : Int32) (x2 : Int32) (x3 : Int32) (σ : fx_S) : Option (Int32 × fx_S) :=
  k_20 x1 x2 (x3 + (1 : Int32)) σ
theorem fe_123_101 {d : Nat} (hd : 1 ≤ d) {k_20 : Int32 → Int32 → Int32 → fx_S → Option (Int32 × fx_S)} (hk_20 : ∀ (x1 : Int32) (x2 : Int32) (x3 : Int32) (o4 : Option Value) (o5 : Option Value) (σ : fx_S) (q : Int32 × fx_S), k_20 x1 x2 x3 σ = some q → fx_E none 123 d 20 [some (.ref 0), some (.int x1), some (.int x2), some (.int x3), o4, o5] [] σ (some (.int q.1)) q.2) (x1 : Int32) (x2 : Int32) (x3 : Int32) (o4 : Option Value) (o5 : Option Value) (σ : fx_S) (q : Int32 × fx_S) (h : fm_123_101 k_20  x1 x2 x3 σ = some q) : fx_E none 123 d 101 [some (.ref 0), some (.int x1), some (.int x2), some (.int x3), o4, o5] [] σ (some (.int q.1)) q.2 := by
  unfold fm_123_101 at h
  refine fs_iinc (k := 3) (n := 1) (p := 104) (M := 6) (al' := [some (.ref 0), some (.int x1), some (.int x2), some (.int (x3 + (1 : Int32))), o4, o5]) (by decide +kernel) rfl kc_1 mx_123 rfl rfl rfl ?_
  refine fs_goto (off := -84) (p := 20) (by decide +kernel) (by decide +kernel) ?_
  exact hk_20 _ _ _ _ _ _ _ h
def fm_123_88 (k_20 : Int32 → Int32 → Int32 → fx_S → Option (Int32 × fx_S)) (x2 : Int32) (x3 : Int32) (x5 : Int32) (s0 : Int32) (s1 : Int32) (σ : fx_S) : Option (Int32 × fx_S) :=
  (fx_ld σ 69 x5).bind fun v1 =>
  (fx_st σ 69 x5 (v1 + (1 : Int32))).bind fun t4 =>
  fm_123_101 k_20 (s0 + s1) x2 x3 t4
theorem fe_123_88 {d : Nat} (hd : 1 ≤ d) {k_20 : Int32 → Int32 → Int32 → fx_S → Option (Int32 × fx_S)} (hk_20 : ∀ (x1 : Int32) (x2 : Int32) (x3 : Int32) (o4 : Option Value) (o5 : Option Value) (σ : fx_S) (q : Int32 × fx_S), k_20 x1 x2 x3 σ = some q → fx_E none 123 d 20 [some (.ref 0), some (.int x1), some (.int x2), some (.int x3), o4, o5] [] σ (some (.int q.1)) q.2) (x2 : Int32) (x3 : Int32) (x5 : Int32) (s0 : Int32) (s1 : Int32) (o1 : Option Value) (o4 : Option Value) (σ : fx_S) (q : Int32 × fx_S) (h : fm_123_88 k_20  x2 x3 x5 s0 s1 σ = some q) : fx_E none 123 d 88 [some (.ref 0), o1, some (.int x2), some (.int x3), o4, some (.int x5)] [.int s1, .int s0] σ (some (.int q.1)) q.2 := by
  unfold fm_123_88 at h
  refine fs_iadd (p := 89) (by decide +kernel) rfl ?_
  refine fs_istore_n (k := 1) (p := 90) (M := 6) (al' := [some (.ref 0), some (.int (s0 + s1)), some (.int x2), some (.int x3), o4, some (.int x5)]) (by decide +kernel) rfl mx_123 rfl rfl ?_
  refine fs_aload_n (k := 0) (p := 91) (by decide +kernel) rfl rfl ?_
  refine fs_gfr (idx := 54) (ci := 9) (j := 7) (p := 94) (by decide +kernel) rfl (by decide +kernel) fo_0 (fr_a0_7) ?_
  refine fs_iload (k := 5) (p := 96) (by decide +kernel) rfl rfl ?_
  refine fs_dup2 (p := 97) (by decide +kernel) rfl rfl rfl ?_
  obtain ⟨v1, w2, h⟩ := fx_bd h
  refine fs_iaload (p := 98) (by decide +kernel) rfl w2 ?_
  refine fs_iconst (n := 1) (p := 99) (by decide +kernel) rfl kc_1 ?_
  refine fs_iadd (p := 100) (by decide +kernel) rfl ?_
  obtain ⟨t4, w5, h⟩ := fx_bd h
  refine fs_iastore (p := 101) (by decide +kernel) rfl w5 ?_
  exact fe_123_101 hd hk_20 _ _ _ _ _ _ _ h
def fm_123_20 : Nat → Int32 → Int32 → Int32 → fx_S → Option (Int32 × fx_S)
  | 0, _, _, _, _ => none
  | n + 1, x1, x2, x3, σ =>
    if x2 ≤ x3 then (
      some (x1, σ)) else (
      (fm_60 1 (0 : Int32) x3 σ).bind fun q5 =>
      if (8 : Int32) ≤ q5.1 then (
        fm_123_101 (fm_123_20 n) x1 x2 x3 q5.2) else (
        (fm_60 1 (1 : Int32) x3 q5.2).bind fun q9 =>
        (fm_60 1 (2 : Int32) x3 q9.2).bind fun q11 =>
        (fx_ld q11.2 69 ((((q5.1 * (9 : Int32)) + q9.1) * (4 : Int32)) + q11.1)).bind fun v12 =>
        if ¬ v12 = 0 then (
          fm_123_88 (fm_123_20 n) x2 x3 ((((q5.1 * (9 : Int32)) + q9.1) * (4 : Int32)) + q11.1) x1 (0 : Int32) q11.2) else (
          fm_123_88 (fm_123_20 n) x2 x3 ((((q5.1 * (9 : Int32)) + q9.1) * (4 : Int32)) + q11.1) x1 (1 : Int32) q11.2)))
theorem fe_123_20 {d : Nat} (hd : 1 ≤ d) : ∀ (n : Nat) (x1 : Int32) (x2 : Int32) (x3 : Int32) (o4 : Option Value) (o5 : Option Value) (σ : fx_S) (q : Int32 × fx_S), fm_123_20 n x1 x2 x3 σ = some q → fx_E none 123 d 20 [some (.ref 0), some (.int x1), some (.int x2), some (.int x3), o4, o5] [] σ (some (.int q.1)) q.2 := by
  intro n
  induction n with
  | zero =>
    intro x1 x2 x3 o4 o5 σ q  h
    rw [fm_123_20] at h
    exact fx_no h
  | succ n ih =>
    intro x1 x2 x3 o4 o5 σ q  h
    rw [fm_123_20] at h
    refine fs_iload_n (k := 3) (p := 21) (by decide +kernel) rfl rfl ?_
    refine fs_iload_n (k := 2) (p := 22) (by decide +kernel) rfl rfl ?_
    by_cases c3 : x2 ≤ x3
    · rw [if_pos c3] at h
      refine fs_icmp_ge_t (off := 85) (t := 107) (by decide +kernel) (by decide +kernel) c3 ?_
      refine fs_iload_n (k := 1) (p := 108) (by decide +kernel) rfl rfl ?_
      have h := Option.some.inj h
      subst h
      exact fs_iret (by decide +kernel) rt_123
    · rw [if_neg c3] at h
      refine fs_icmp_ge_f (off := 85) (t := 107) (p := 25) (by decide +kernel) (by decide +kernel) rfl c3 ?_
      refine fs_aload_n (k := 0) (p := 26) (by decide +kernel) rfl rfl ?_
      refine fs_gfr (idx := 13) (ci := 9) (j := 1) (p := 29) (by decide +kernel) rfl (by decide +kernel) fo_0 (fr_a0_1) ?_
      refine fs_iconst (n := 0) (p := 30) (by decide +kernel) rfl kc_0 ?_
      refine fs_iload_n (k := 3) (p := 31) (by decide +kernel) rfl rfl ?_
      obtain ⟨q5, w4, h⟩ := fx_bd h
      refine fs_callV (idx := 177) (mj := 60) (ci := 6) (na := 2) (mx := 3) (p := 34) (args := [.ref 1, .int (0 : Int32), .int x3]) (rest := []) (al2 := [some (.ref 1), some (.int (0 : Int32)), some (.int x3)]) (by decide +kernel) rfl (by decide +kernel) fo_1 rfl rfl rfl rfl rfl rfl rfl (by omega) (fun d' hd' => fe_60 (by omega) w4) rfl ?_
      refine fs_istore (k := 4) (p := 36) (M := 6) (al' := [some (.ref 0), some (.int x1), some (.int x2), some (.int x3), some (.int q5.1), o5]) (by decide +kernel) rfl mx_123 rfl rfl ?_
      refine fs_iload (k := 4) (p := 38) (by decide +kernel) rfl rfl ?_
      refine fs_bipush (n := 8) (p := 40) (by decide +kernel) rfl kb_8 ?_
      by_cases c7 : (8 : Int32) ≤ q5.1
      · rw [if_pos c7] at h
        refine fs_icmp_ge_t (off := 61) (t := 101) (by decide +kernel) (by decide +kernel) c7 ?_
        exact fe_123_101 hd ih _ _ _ _ _ _ _ h
      · rw [if_neg c7] at h
        refine fs_icmp_ge_f (off := 61) (t := 101) (p := 43) (by decide +kernel) (by decide +kernel) rfl c7 ?_
        refine fs_iload (k := 4) (p := 45) (by decide +kernel) rfl rfl ?_
        refine fs_bipush (n := 9) (p := 47) (by decide +kernel) rfl kb_9 ?_
        refine fs_imul (p := 48) (by decide +kernel) rfl ?_
        refine fs_aload_n (k := 0) (p := 49) (by decide +kernel) rfl rfl ?_
        refine fs_gfr (idx := 13) (ci := 9) (j := 1) (p := 52) (by decide +kernel) rfl (by decide +kernel) fo_0 (fr_a0_1) ?_
        refine fs_iconst (n := 1) (p := 53) (by decide +kernel) rfl kc_1 ?_
        refine fs_iload_n (k := 3) (p := 54) (by decide +kernel) rfl rfl ?_
        obtain ⟨q9, w8, h⟩ := fx_bd h
        refine fs_callV (idx := 177) (mj := 60) (ci := 6) (na := 2) (mx := 3) (p := 57) (args := [.ref 1, .int (1 : Int32), .int x3]) (rest := [.int (q5.1 * (9 : Int32))]) (al2 := [some (.ref 1), some (.int (1 : Int32)), some (.int x3)]) (by decide +kernel) rfl (by decide +kernel) fo_1 rfl rfl rfl rfl rfl rfl rfl (by omega) (fun d' hd' => fe_60 (by omega) w8) rfl ?_
        refine fs_iadd (p := 58) (by decide +kernel) rfl ?_
        refine fs_iconst (n := 4) (p := 59) (by decide +kernel) rfl kc_4 ?_
        refine fs_imul (p := 60) (by decide +kernel) rfl ?_
        refine fs_aload_n (k := 0) (p := 61) (by decide +kernel) rfl rfl ?_
        refine fs_gfr (idx := 13) (ci := 9) (j := 1) (p := 64) (by decide +kernel) rfl (by decide +kernel) fo_0 (fr_a0_1) ?_
        refine fs_iconst (n := 2) (p := 65) (by decide +kernel) rfl kc_2 ?_
        refine fs_iload_n (k := 3) (p := 66) (by decide +kernel) rfl rfl ?_
        obtain ⟨q11, w10, h⟩ := fx_bd h
        refine fs_callV (idx := 177) (mj := 60) (ci := 6) (na := 2) (mx := 3) (p := 69) (args := [.ref 1, .int (2 : Int32), .int x3]) (rest := [.int (((q5.1 * (9 : Int32)) + q9.1) * (4 : Int32))]) (al2 := [some (.ref 1), some (.int (2 : Int32)), some (.int x3)]) (by decide +kernel) rfl (by decide +kernel) fo_1 rfl rfl rfl rfl rfl rfl rfl (by omega) (fun d' hd' => fe_60 (by omega) w10) rfl ?_
        refine fs_iadd (p := 70) (by decide +kernel) rfl ?_
        refine fs_istore (k := 5) (p := 72) (M := 6) (al' := [some (.ref 0), some (.int x1), some (.int x2), some (.int x3), some (.int q5.1), some (.int ((((q5.1 * (9 : Int32)) + q9.1) * (4 : Int32)) + q11.1))]) (by decide +kernel) rfl mx_123 rfl rfl ?_
        refine fs_iload_n (k := 1) (p := 73) (by decide +kernel) rfl rfl ?_
        refine fs_aload_n (k := 0) (p := 74) (by decide +kernel) rfl rfl ?_
        refine fs_gfr (idx := 54) (ci := 9) (j := 7) (p := 77) (by decide +kernel) rfl (by decide +kernel) fo_0 (fr_a0_7) ?_
        refine fs_iload (k := 5) (p := 79) (by decide +kernel) rfl rfl ?_
        obtain ⟨v12, w13, h⟩ := fx_bd h
        refine fs_iaload (p := 80) (by decide +kernel) rfl w13 ?_
        by_cases c16 : ¬ v12 = 0
        · rw [if_pos c16] at h
          refine fs_if_ne_t (off := 7) (t := 87) (by decide +kernel) (by decide +kernel) c16 ?_
          refine fs_iconst (n := 0) (p := 88) (by decide +kernel) rfl kc_0 ?_
          exact fe_123_88 hd ih _ _ _ _ _ _ _ _ _ h
        · rw [if_neg c16] at h
          refine fs_if_ne_f (off := 7) (t := 87) (p := 83) (by decide +kernel) (by decide +kernel) rfl c16 ?_
          refine fs_iconst (n := 1) (p := 84) (by decide +kernel) rfl kc_1 ?_
          refine fs_goto (off := 4) (p := 88) (by decide +kernel) (by decide +kernel) ?_
          exact fe_123_88 hd ih _ _ _ _ _ _ _ _ _ h
def fm_123 (σ : fx_S) : Option (Int32 × fx_S) :=
  (fm_235 69 (0 : Int32) σ).bind fun q43 =>
  (fm_58 1 q43).bind fun q45 =>
  fm_123_20 100000 (0 : Int32) q45.1 (0 : Int32) q45.2
theorem fe_123 {d : Nat} (hd : 1 ≤ d) {σ : fx_S} {q : Int32 × fx_S} (h : fm_123 σ = some q) : fx_E none 123 d 0 [some (.ref 0), none, none, none, none, none] [] σ (some (.int q.1)) q.2 := by
  unfold fm_123 at h
  refine fs_aload_n (k := 0) (p := 1) (by decide +kernel) rfl rfl ?_
  refine fs_gfr (idx := 54) (ci := 9) (j := 7) (p := 4) (by decide +kernel) rfl (by decide +kernel) fo_0 (fr_a0_7) ?_
  refine fs_iconst (n := 0) (p := 5) (by decide +kernel) rfl kc_0 ?_
  obtain ⟨q43, w42, h⟩ := fx_bd h
  refine fs_callS (idx := 323) (mj := 235) (na := 2) (mx := 4) (p := 8) (args := [.ref 69, .int (0 : Int32)]) (rest := []) (al2 := [some (.ref 69), some (.int (0 : Int32)), none, none]) (by decide +kernel) rfl (by decide +kernel) rfl rfl rfl rfl rfl rfl rfl (by omega) (fun d' hd' => fe_235 (by omega) w42) rfl ?_
  refine fs_iconst (n := 0) (p := 9) (by decide +kernel) rfl kc_0 ?_
  refine fs_istore_n (k := 1) (p := 10) (M := 6) (al' := [some (.ref 0), some (.int (0 : Int32)), none, none, none, none]) (by decide +kernel) rfl mx_123 rfl rfl ?_
  refine fs_aload_n (k := 0) (p := 11) (by decide +kernel) rfl rfl ?_
  refine fs_gfr (idx := 13) (ci := 9) (j := 1) (p := 14) (by decide +kernel) rfl (by decide +kernel) fo_0 (fr_a0_1) ?_
  obtain ⟨q45, w44, h⟩ := fx_bd h
  refine fs_callV (idx := 90) (mj := 58) (ci := 6) (na := 0) (mx := 1) (p := 17) (args := [.ref 1]) (rest := []) (al2 := [some (.ref 1)]) (by decide +kernel) rfl (by decide +kernel) fo_1 rfl rfl rfl rfl rfl rfl rfl (by omega) (fun d' hd' => fe_58 (by omega) w44) rfl ?_
  refine fs_istore_n (k := 2) (p := 18) (M := 6) (al' := [some (.ref 0), some (.int (0 : Int32)), some (.int q45.1), none, none, none]) (by decide +kernel) rfl mx_123 rfl rfl ?_
  refine fs_iconst (n := 0) (p := 19) (by decide +kernel) rfl kc_0 ?_
  refine fs_istore_n (k := 3) (p := 20) (M := 6) (al' := [some (.ref 0), some (.int (0 : Int32)), some (.int q45.1), some (.int (0 : Int32)), none, none]) (by decide +kernel) rfl mx_123 rfl rfl ?_
  exact fe_123_20 hd 100000 _ _ _ _ _ _ _ h

/-! ZoneShares.liesApart(II)Z -/
theorem mx_125 : iv_mx 125 = 5 := by decide +kernel
theorem rt_125 : iv_rt 125 = some .boolean := by decide +kernel
def fm_125_52 : Nat → Int32 → Int32 → Int32 → fx_S → Option (Bool × fx_S)
  | 0, _, _, _, _ => none
  | n + 1, x1, x3, x4, σ =>
    if (8 : Int32) ≤ x4 then (
      some (false, σ)) else (
      if ¬ x3 = ((1 : Int32) <<< (x4 &&& 31)) then (
        fm_125_52 n x1 x3 (x4 + (1 : Int32)) σ) else (
        (fm_62 1 (1 : Int32) x4 σ).bind fun q7 =>
        (fm_62 1 (0 : Int32) x1 q7.2).bind fun q9 =>
        if ¬ q7.1 = q9.1 then (
          some (false, q9.2)) else (
          some (true, q9.2))))
theorem fe_125_52 {d : Nat} (hd : 2 ≤ d) : ∀ (n : Nat) (x1 : Int32) (x3 : Int32) (x4 : Int32) (o2 : Option Value) (σ : fx_S) (q : Bool × fx_S), fm_125_52 n x1 x3 x4 σ = some q → fx_E none 125 d 52 [some (.ref 0), some (.int x1), o2, some (.int x3), some (.int x4)] [] σ (some (.int (fx_b q.1))) q.2 := by
  intro n
  induction n with
  | zero =>
    intro x1 x3 x4 o2 σ q  h
    rw [fm_125_52] at h
    exact fx_no h
  | succ n ih =>
    intro x1 x3 x4 o2 σ q  h
    rw [fm_125_52] at h
    refine fs_iload (k := 4) (p := 54) (by decide +kernel) rfl rfl ?_
    refine fs_bipush (n := 8) (p := 56) (by decide +kernel) rfl kb_8 ?_
    by_cases c2 : (8 : Int32) ≤ x4
    · rw [if_pos c2] at h
      refine fs_icmp_ge_t (off := 45) (t := 101) (by decide +kernel) (by decide +kernel) c2 ?_
      refine fs_iconst (n := 0) (p := 102) (by decide +kernel) rfl kc_0 ?_
      have h := Option.some.inj h
      subst h
      exact fs_zret (b := false) (by decide +kernel) rt_125
    · rw [if_neg c2] at h
      refine fs_icmp_ge_f (off := 45) (t := 101) (p := 59) (by decide +kernel) (by decide +kernel) rfl c2 ?_
      refine fs_iload_n (k := 3) (p := 60) (by decide +kernel) rfl rfl ?_
      refine fs_iconst (n := 1) (p := 61) (by decide +kernel) rfl kc_1 ?_
      refine fs_iload (k := 4) (p := 63) (by decide +kernel) rfl rfl ?_
      refine fs_ishl (p := 64) (by decide +kernel) rfl ?_
      by_cases c5 : ¬ x3 = ((1 : Int32) <<< (x4 &&& 31))
      · rw [if_pos c5] at h
        refine fs_icmp_ne_t (off := 31) (t := 95) (by decide +kernel) (by decide +kernel) c5 ?_
        refine fs_iinc (k := 4) (n := 1) (p := 98) (M := 5) (al' := [some (.ref 0), some (.int x1), o2, some (.int x3), some (.int (x4 + (1 : Int32)))]) (by decide +kernel) rfl kc_1 mx_125 rfl rfl rfl ?_
        refine fs_goto (off := -46) (p := 52) (by decide +kernel) (by decide +kernel) ?_
        exact ih _ _ _ _ _ _ h
      · rw [if_neg c5] at h
        refine fs_icmp_ne_f (off := 31) (t := 95) (p := 67) (by decide +kernel) (by decide +kernel) rfl c5 ?_
        refine fs_aload_n (k := 0) (p := 68) (by decide +kernel) rfl rfl ?_
        refine fs_gfr (idx := 13) (ci := 9) (j := 1) (p := 71) (by decide +kernel) rfl (by decide +kernel) fo_0 (fr_a0_1) ?_
        refine fs_iconst (n := 1) (p := 72) (by decide +kernel) rfl kc_1 ?_
        refine fs_iload (k := 4) (p := 74) (by decide +kernel) rfl rfl ?_
        obtain ⟨q7, w6, h⟩ := fx_bd h
        refine fs_callV (idx := 272) (mj := 62) (ci := 6) (na := 2) (mx := 6) (p := 77) (args := [.ref 1, .int (1 : Int32), .int x4]) (rest := []) (al2 := [some (.ref 1), some (.int (1 : Int32)), some (.int x4), none, none, none]) (by decide +kernel) rfl (by decide +kernel) fo_1 rfl rfl rfl rfl rfl rfl rfl (by omega) (fun d' hd' => fe_62 (by omega) w6) rfl ?_
        refine fs_aload_n (k := 0) (p := 78) (by decide +kernel) rfl rfl ?_
        refine fs_gfr (idx := 13) (ci := 9) (j := 1) (p := 81) (by decide +kernel) rfl (by decide +kernel) fo_0 (fr_a0_1) ?_
        refine fs_iconst (n := 0) (p := 82) (by decide +kernel) rfl kc_0 ?_
        refine fs_iload_n (k := 1) (p := 83) (by decide +kernel) rfl rfl ?_
        obtain ⟨q9, w8, h⟩ := fx_bd h
        refine fs_callV (idx := 272) (mj := 62) (ci := 6) (na := 2) (mx := 6) (p := 86) (args := [.ref 1, .int (0 : Int32), .int x1]) (rest := [.int q7.1]) (al2 := [some (.ref 1), some (.int (0 : Int32)), some (.int x1), none, none, none]) (by decide +kernel) rfl (by decide +kernel) fo_1 rfl rfl rfl rfl rfl rfl rfl (by omega) (fun d' hd' => fe_62 (by omega) w8) rfl ?_
        by_cases c12 : ¬ q7.1 = q9.1
        · rw [if_pos c12] at h
          refine fs_icmp_ne_t (off := 7) (t := 93) (by decide +kernel) (by decide +kernel) c12 ?_
          refine fs_iconst (n := 0) (p := 94) (by decide +kernel) rfl kc_0 ?_
          have h := Option.some.inj h
          subst h
          exact fs_zret (b := false) (by decide +kernel) rt_125
        · rw [if_neg c12] at h
          refine fs_icmp_ne_f (off := 7) (t := 93) (p := 89) (by decide +kernel) (by decide +kernel) rfl c12 ?_
          refine fs_iconst (n := 1) (p := 90) (by decide +kernel) rfl kc_1 ?_
          refine fs_goto (off := 4) (p := 94) (by decide +kernel) (by decide +kernel) ?_
          have h := Option.some.inj h
          subst h
          exact fs_zret (b := true) (by decide +kernel) rt_125
def fm_125 (x1 : Int32) (x2 : Int32) (σ : fx_S) : Option (Bool × fx_S) :=
  (fm_65 1 x1 σ).bind fun q25 =>
  if ¬ x2 = (3 : Int32) then (
    if ¬ x2 = (2 : Int32) then (
      fm_125_52 100000 x1 q25.1 (0 : Int32) q25.2) else (
      (fm_230 q25.1 q25.2).bind fun q30 =>
      if q30.1 ≤ (1 : Int32) then (
        some (false, q30.2)) else (
        some (true, q30.2)))) else (
    if ¬ ((q25.1 >>> ((8 : Int32) &&& 31)) &&& (1 : Int32)) = (1 : Int32) then (
      some (false, q25.2)) else (
      some (true, q25.2)))
theorem fe_125 {d : Nat} (hd : 2 ≤ d) {x1 : Int32} {x2 : Int32} {σ : fx_S} {q : Bool × fx_S} (h : fm_125 x1 x2 σ = some q) : fx_E none 125 d 0 [some (.ref 0), some (.int x1), some (.int x2), none, none] [] σ (some (.int (fx_b q.1))) q.2 := by
  unfold fm_125 at h
  refine fs_aload_n (k := 0) (p := 1) (by decide +kernel) rfl rfl ?_
  refine fs_gfr (idx := 13) (ci := 9) (j := 1) (p := 4) (by decide +kernel) rfl (by decide +kernel) fo_0 (fr_a0_1) ?_
  refine fs_iload_n (k := 1) (p := 5) (by decide +kernel) rfl rfl ?_
  obtain ⟨q25, w24, h⟩ := fx_bd h
  refine fs_callV (idx := 329) (mj := 65) (ci := 6) (na := 1) (mx := 5) (p := 8) (args := [.ref 1, .int x1]) (rest := []) (al2 := [some (.ref 1), some (.int x1), none, none, none]) (by decide +kernel) rfl (by decide +kernel) fo_1 rfl rfl rfl rfl rfl rfl rfl (by omega) (fun d' hd' => fe_65 (by omega) w24) rfl ?_
  refine fs_istore_n (k := 3) (p := 9) (M := 5) (al' := [some (.ref 0), some (.int x1), some (.int x2), some (.int q25.1), none]) (by decide +kernel) rfl mx_125 rfl rfl ?_
  refine fs_iload_n (k := 2) (p := 10) (by decide +kernel) rfl rfl ?_
  refine fs_iconst (n := 3) (p := 11) (by decide +kernel) rfl kc_3 ?_
  by_cases c27 : ¬ x2 = (3 : Int32)
  · rw [if_pos c27] at h
    refine fs_icmp_ne_t (off := 19) (t := 30) (by decide +kernel) (by decide +kernel) c27 ?_
    refine fs_iload_n (k := 2) (p := 31) (by decide +kernel) rfl rfl ?_
    refine fs_iconst (n := 2) (p := 32) (by decide +kernel) rfl kc_2 ?_
    by_cases c28 : ¬ x2 = (2 : Int32)
    · rw [if_pos c28] at h
      refine fs_icmp_ne_t (off := 17) (t := 49) (by decide +kernel) (by decide +kernel) c28 ?_
      refine fs_iconst (n := 0) (p := 50) (by decide +kernel) rfl kc_0 ?_
      refine fs_istore (k := 4) (p := 52) (M := 5) (al' := [some (.ref 0), some (.int x1), some (.int x2), some (.int q25.1), some (.int (0 : Int32))]) (by decide +kernel) rfl mx_125 rfl rfl ?_
      exact fe_125_52 hd 100000 _ _ _ _ _ _ h
    · rw [if_neg c28] at h
      refine fs_icmp_ne_f (off := 17) (t := 49) (p := 35) (by decide +kernel) (by decide +kernel) rfl c28 ?_
      refine fs_iload_n (k := 3) (p := 36) (by decide +kernel) rfl rfl ?_
      obtain ⟨q30, w29, h⟩ := fx_bd h
      refine fs_callS (idx := 332) (mj := 230) (na := 1) (mx := 1) (p := 39) (args := [.int q25.1]) (rest := []) (al2 := [some (.int q25.1)]) (by decide +kernel) rfl (by decide +kernel) rfl rfl rfl rfl rfl rfl rfl (by omega) (fun d' hd' => fe_230 (by omega) w29) rfl ?_
      refine fs_iconst (n := 1) (p := 40) (by decide +kernel) rfl kc_1 ?_
      by_cases c32 : q30.1 ≤ (1 : Int32)
      · rw [if_pos c32] at h
        refine fs_icmp_le_t (off := 7) (t := 47) (by decide +kernel) (by decide +kernel) c32 ?_
        refine fs_iconst (n := 0) (p := 48) (by decide +kernel) rfl kc_0 ?_
        have h := Option.some.inj h
        subst h
        exact fs_zret (b := false) (by decide +kernel) rt_125
      · rw [if_neg c32] at h
        refine fs_icmp_le_f (off := 7) (t := 47) (p := 43) (by decide +kernel) (by decide +kernel) rfl c32 ?_
        refine fs_iconst (n := 1) (p := 44) (by decide +kernel) rfl kc_1 ?_
        refine fs_goto (off := 4) (p := 48) (by decide +kernel) (by decide +kernel) ?_
        have h := Option.some.inj h
        subst h
        exact fs_zret (b := true) (by decide +kernel) rt_125
  · rw [if_neg c27] at h
    refine fs_icmp_ne_f (off := 19) (t := 30) (p := 14) (by decide +kernel) (by decide +kernel) rfl c27 ?_
    refine fs_iload_n (k := 3) (p := 15) (by decide +kernel) rfl rfl ?_
    refine fs_bipush (n := 8) (p := 17) (by decide +kernel) rfl kb_8 ?_
    refine fs_ishr (p := 18) (by decide +kernel) rfl ?_
    refine fs_iconst (n := 1) (p := 19) (by decide +kernel) rfl kc_1 ?_
    refine fs_iand (p := 20) (by decide +kernel) rfl ?_
    refine fs_iconst (n := 1) (p := 21) (by decide +kernel) rfl kc_1 ?_
    by_cases c34 : ¬ ((q25.1 >>> ((8 : Int32) &&& 31)) &&& (1 : Int32)) = (1 : Int32)
    · rw [if_pos c34] at h
      refine fs_icmp_ne_t (off := 7) (t := 28) (by decide +kernel) (by decide +kernel) c34 ?_
      refine fs_iconst (n := 0) (p := 29) (by decide +kernel) rfl kc_0 ?_
      have h := Option.some.inj h
      subst h
      exact fs_zret (b := false) (by decide +kernel) rt_125
    · rw [if_neg c34] at h
      refine fs_icmp_ne_f (off := 7) (t := 28) (p := 24) (by decide +kernel) (by decide +kernel) rfl c34 ?_
      refine fs_iconst (n := 1) (p := 25) (by decide +kernel) rfl kc_1 ?_
      refine fs_goto (off := 4) (p := 29) (by decide +kernel) (by decide +kernel) ?_
      have h := Option.some.inj h
      subst h
      exact fs_zret (b := true) (by decide +kernel) rt_125
end
section
/-! ZoneShares.lowest(JJI)J -/
theorem mx_127 : iv_mx 127 = 7 := by decide +kernel
theorem rt_127 : iv_rt 127 = some .long := by decide +kernel
def fm_127_28 (x5 : Int64) (s0 : Int64) (σ : fx_S) : Option (Int64 × fx_S) :=
  if ¬ x5 = 0 then (
  some ((s0 / x5), σ)) else none
theorem fe_127_28 {d : Nat} (hd : 1 ≤ d) (x5 : Int64) (s0 : Int64) (o0 : Option Value) (o2 : Option Value) (o4 : Option Value) (σ : fx_S) (q : Int64 × fx_S) (h : fm_127_28  x5 s0 σ = some q) : fx_E none 127 d 28 [o0, none, o2, none, o4, some (.long x5), none] [.long s0] σ (some (.long q.1)) q.2 := by
  unfold fm_127_28 at h
  refine fs_lload (k := 5) (p := 30) (by decide +kernel) rfl rfl ?_
  obtain ⟨z2, h⟩ := fx_gd h
  refine fs_ldiv (p := 31) (by decide +kernel) rfl z2 ?_
  have h := Option.some.inj h
  subst h
  exact fs_lret (by decide +kernel) rt_127
def fm_127 (x0 : Int64) (x2 : Int64) (x4 : Int32) (σ : fx_S) : Option (Int64 × fx_S) :=
  (fm_128 x0 x2 σ).bind fun q10 =>
  if ¬ q10.1 = (0 : Int64) then (
    if ¬ x4 = 0 then (
      fm_127_28 q10.1 x2 q10.2) else (
      fm_127_28 q10.1 x0 q10.2)) else (
    some ((-1 : Int64), q10.2))
theorem fe_127 {d : Nat} (hd : 1 ≤ d) {x0 : Int64} {x2 : Int64} {x4 : Int32} {σ : fx_S} {q : Int64 × fx_S} (h : fm_127 x0 x2 x4 σ = some q) : fx_E none 127 d 0 [some (.long x0), none, some (.long x2), none, some (.int x4), none, none] [] σ (some (.long q.1)) q.2 := by
  unfold fm_127 at h
  refine fs_lload_n (k := 0) (p := 1) (by decide +kernel) rfl rfl ?_
  refine fs_lload_n (k := 2) (p := 2) (by decide +kernel) rfl rfl ?_
  obtain ⟨q10, w9, h⟩ := fx_bd h
  refine fs_callS (idx := 337) (mj := 128) (na := 2) (mx := 11) (p := 5) (args := [.long x0, .long x2]) (rest := []) (al2 := [some (.long x0), none, some (.long x2), none, none, none, none, none, none, none, none]) (by decide +kernel) rfl (by decide +kernel) rfl rfl rfl rfl rfl rfl rfl (by omega) (fun d' hd' => fe_128 (by omega) w9) rfl ?_
  refine fs_lstore (k := 5) (p := 7) (M := 7) (al' := [some (.long x0), none, some (.long x2), none, some (.int x4), some (.long q10.1), none]) (by decide +kernel) rfl mx_127 rfl rfl ?_
  refine fs_lload (k := 5) (p := 9) (by decide +kernel) rfl rfl ?_
  refine fs_lconst (n := 0) (p := 10) (by decide +kernel) rfl kl_0 ?_
  by_cases c12 : ¬ q10.1 = (0 : Int64)
  · rw [if_pos c12] at h
    refine fs_lcmp_ne_t (off := 7) (t := 18) (by decide +kernel) (by decide +kernel) (by decide +kernel) c12 ?_
    refine fs_iload (k := 4) (p := 20) (by decide +kernel) rfl rfl ?_
    by_cases c14 : ¬ x4 = 0
    · rw [if_pos c14] at h
      refine fs_if_ne_t (off := 7) (t := 27) (by decide +kernel) (by decide +kernel) c14 ?_
      refine fs_lload_n (k := 2) (p := 28) (by decide +kernel) rfl rfl ?_
      exact fe_127_28 hd _ _ _ _ _ _ _ h
    · rw [if_neg c14] at h
      refine fs_if_ne_f (off := 7) (t := 27) (p := 23) (by decide +kernel) (by decide +kernel) rfl c14 ?_
      refine fs_lload_n (k := 0) (p := 24) (by decide +kernel) rfl rfl ?_
      refine fs_goto (off := 4) (p := 28) (by decide +kernel) (by decide +kernel) ?_
      exact fe_127_28 hd _ _ _ _ _ _ _ h
  · rw [if_neg c12] at h
    refine fs_lcmp_ne_f (off := 7) (t := 18) (p := 14) (by decide +kernel) (by decide +kernel) (by decide +kernel) rfl c12 ?_
    refine fs_ldc2 (idx := 221) (p := 17) (x := -1) (by decide +kernel) rfl (by decide +kernel) ?_
    have h := Option.some.inj h
    subst h
    exact fs_lret (by decide +kernel) rt_127

/-! ZoneSharesModel.feed(IIIII)I -/
theorem mx_134 : iv_mx 134 = 6 := by decide +kernel
theorem rt_134 : iv_rt 134 = some .int := by decide +kernel
def fm_134 (x1 : Int32) (x2 : Int32) (x3 : Int32) (x4 : Int32) (x5 : Int32) (σ : fx_S) : Option (Int32 × fx_S) :=
  if ((σ.1 215 4) + (20 : Int32)) ≤ (200 : Int32) then (
    (fm_135 x1 σ).bind fun q16 =>
    (fm_135 x2 q16).bind fun q18 =>
    (fm_135 x3 q18).bind fun q20 =>
    (fm_135 x4 q20).bind fun q22 =>
    (fm_135 x5 q22).bind fun q24 =>
    some ((q24.1 215 4), q24)) else (
    some ((-1 : Int32), σ))
theorem fe_134 {d : Nat} (hd : 1 ≤ d) {x1 : Int32} {x2 : Int32} {x3 : Int32} {x4 : Int32} {x5 : Int32} {σ : fx_S} {q : Int32 × fx_S} (h : fm_134 x1 x2 x3 x4 x5 σ = some q) : fx_E none 134 d 0 [some (.ref 215), some (.int x1), some (.int x2), some (.int x3), some (.int x4), some (.int x5)] [] σ (some (.int q.1)) q.2 := by
  unfold fm_134 at h
  refine fs_aload_n (k := 0) (p := 1) (by decide +kernel) rfl rfl ?_
  refine fs_gfi (idx := 107) (ci := 10) (j := 4) (p := 4) (by decide +kernel) rfl (by decide +kernel) fo_215 ?_
  refine fs_bipush (n := 20) (p := 6) (by decide +kernel) rfl kb_20 ?_
  refine fs_iadd (p := 7) (by decide +kernel) rfl ?_
  refine fs_sipush (n := 200) (p := 10) (by decide +kernel) rfl ks_200 ?_
  by_cases c14 : ((σ.1 215 4) + (20 : Int32)) ≤ (200 : Int32)
  · rw [if_pos c14] at h
    refine fs_icmp_le_t (off := 5) (t := 15) (by decide +kernel) (by decide +kernel) c14 ?_
    refine fs_aload_n (k := 0) (p := 16) (by decide +kernel) rfl rfl ?_
    refine fs_iload_n (k := 1) (p := 17) (by decide +kernel) rfl rfl ?_
    obtain ⟨q16, w15, h⟩ := fx_bd h
    refine fs_callV (idx := 110) (mj := 135) (ci := 10) (na := 1) (mx := 3) (p := 20) (args := [.ref 215, .int x1]) (rest := []) (al2 := [some (.ref 215), some (.int x1), none]) (by decide +kernel) rfl (by decide +kernel) fo_215 rfl rfl rfl rfl rfl rfl rfl (by omega) (fun d' hd' => fe_135 (by omega) w15) rfl ?_
    refine fs_aload_n (k := 0) (p := 21) (by decide +kernel) rfl rfl ?_
    refine fs_iload_n (k := 2) (p := 22) (by decide +kernel) rfl rfl ?_
    obtain ⟨q18, w17, h⟩ := fx_bd h
    refine fs_callV (idx := 110) (mj := 135) (ci := 10) (na := 1) (mx := 3) (p := 25) (args := [.ref 215, .int x2]) (rest := []) (al2 := [some (.ref 215), some (.int x2), none]) (by decide +kernel) rfl (by decide +kernel) fo_215 rfl rfl rfl rfl rfl rfl rfl (by omega) (fun d' hd' => fe_135 (by omega) w17) rfl ?_
    refine fs_aload_n (k := 0) (p := 26) (by decide +kernel) rfl rfl ?_
    refine fs_iload_n (k := 3) (p := 27) (by decide +kernel) rfl rfl ?_
    obtain ⟨q20, w19, h⟩ := fx_bd h
    refine fs_callV (idx := 110) (mj := 135) (ci := 10) (na := 1) (mx := 3) (p := 30) (args := [.ref 215, .int x3]) (rest := []) (al2 := [some (.ref 215), some (.int x3), none]) (by decide +kernel) rfl (by decide +kernel) fo_215 rfl rfl rfl rfl rfl rfl rfl (by omega) (fun d' hd' => fe_135 (by omega) w19) rfl ?_
    refine fs_aload_n (k := 0) (p := 31) (by decide +kernel) rfl rfl ?_
    refine fs_iload (k := 4) (p := 33) (by decide +kernel) rfl rfl ?_
    obtain ⟨q22, w21, h⟩ := fx_bd h
    refine fs_callV (idx := 110) (mj := 135) (ci := 10) (na := 1) (mx := 3) (p := 36) (args := [.ref 215, .int x4]) (rest := []) (al2 := [some (.ref 215), some (.int x4), none]) (by decide +kernel) rfl (by decide +kernel) fo_215 rfl rfl rfl rfl rfl rfl rfl (by omega) (fun d' hd' => fe_135 (by omega) w21) rfl ?_
    refine fs_aload_n (k := 0) (p := 37) (by decide +kernel) rfl rfl ?_
    refine fs_iload (k := 5) (p := 39) (by decide +kernel) rfl rfl ?_
    obtain ⟨q24, w23, h⟩ := fx_bd h
    refine fs_callV (idx := 110) (mj := 135) (ci := 10) (na := 1) (mx := 3) (p := 42) (args := [.ref 215, .int x5]) (rest := []) (al2 := [some (.ref 215), some (.int x5), none]) (by decide +kernel) rfl (by decide +kernel) fo_215 rfl rfl rfl rfl rfl rfl rfl (by omega) (fun d' hd' => fe_135 (by omega) w23) rfl ?_
    refine fs_aload_n (k := 0) (p := 43) (by decide +kernel) rfl rfl ?_
    refine fs_gfi (idx := 107) (ci := 10) (j := 4) (p := 46) (by decide +kernel) rfl (by decide +kernel) fo_215 ?_
    have h := Option.some.inj h
    subst h
    exact fs_iret (by decide +kernel) rt_134
  · rw [if_neg c14] at h
    refine fs_icmp_le_f (off := 5) (t := 15) (p := 13) (by decide +kernel) (by decide +kernel) rfl c14 ?_
    refine fs_iconst (n := -1) (p := 14) (by decide +kernel) rfl kc_m1 ?_
    have h := Option.some.inj h
    subst h
    exact fs_iret (by decide +kernel) rt_134

/-! ZoneSharesModel.isApart(II)Z -/
theorem mx_222 : iv_mx 222 = 4 := by decide +kernel
theorem rt_222 : iv_rt 222 = some .boolean := by decide +kernel
def fm_222 (x1 : Int32) (x2 : Int32) (σ : fx_S) : Option (Bool × fx_S) :=
  (fm_221 x1 σ).bind fun q28 =>
  if ¬ x2 = (1 : Int32) then (
    if ¬ x2 = (2 : Int32) then (
      if ¬ ((q28.1 >>> ((8 : Int32) &&& 31)) &&& (1 : Int32)) = (1 : Int32) then (
        some (false, q28.2)) else (
        some (true, q28.2))) else (
      (fm_230 q28.1 q28.2).bind fun q35 =>
      if q35.1 ≤ (1 : Int32) then (
        some (false, q35.2)) else (
        some (true, q35.2)))) else (
    (fm_230 q28.1 q28.2).bind fun q39 =>
    if ¬ q39.1 = (1 : Int32) then (
      some (false, q39.2)) else (
      if ¬ ((q28.1 >>> ((8 : Int32) &&& 31)) &&& (1 : Int32)) = 0 then (
        some (false, q39.2)) else (
        (fm_229 q28.1 q39.2).bind fun q45 =>
        (fm_202 q45.1 q45.2).bind fun q47 =>
        (fm_158 x1 q47.2).bind fun q49 =>
        if ¬ q47.1 = q49.1 then (
          some (false, q49.2)) else (
          some (true, q49.2)))))
theorem fe_222 {d : Nat} (hd : 2 ≤ d) {x1 : Int32} {x2 : Int32} {σ : fx_S} {q : Bool × fx_S} (h : fm_222 x1 x2 σ = some q) : fx_E none 222 d 0 [some (.ref 215), some (.int x1), some (.int x2), none] [] σ (some (.int (fx_b q.1))) q.2 := by
  unfold fm_222 at h
  refine fs_aload_n (k := 0) (p := 1) (by decide +kernel) rfl rfl ?_
  refine fs_iload_n (k := 1) (p := 2) (by decide +kernel) rfl rfl ?_
  obtain ⟨q28, w27, h⟩ := fx_bd h
  refine fs_callV (idx := 435) (mj := 221) (ci := 10) (na := 1) (mx := 4) (p := 5) (args := [.ref 215, .int x1]) (rest := []) (al2 := [some (.ref 215), some (.int x1), none, none]) (by decide +kernel) rfl (by decide +kernel) fo_215 rfl rfl rfl rfl rfl rfl rfl (by omega) (fun d' hd' => fe_221 (by omega) w27) rfl ?_
  refine fs_istore_n (k := 3) (p := 6) (M := 4) (al' := [some (.ref 215), some (.int x1), some (.int x2), some (.int q28.1)]) (by decide +kernel) rfl mx_222 rfl rfl ?_
  refine fs_iload_n (k := 2) (p := 7) (by decide +kernel) rfl rfl ?_
  refine fs_iconst (n := 1) (p := 8) (by decide +kernel) rfl kc_1 ?_
  by_cases c30 : ¬ x2 = (1 : Int32)
  · rw [if_pos c30] at h
    refine fs_icmp_ne_t (off := 42) (t := 50) (by decide +kernel) (by decide +kernel) c30 ?_
    refine fs_iload_n (k := 2) (p := 51) (by decide +kernel) rfl rfl ?_
    refine fs_iconst (n := 2) (p := 52) (by decide +kernel) rfl kc_2 ?_
    by_cases c31 : ¬ x2 = (2 : Int32)
    · rw [if_pos c31] at h
      refine fs_icmp_ne_t (off := 19) (t := 71) (by decide +kernel) (by decide +kernel) c31 ?_
      refine fs_iload_n (k := 3) (p := 72) (by decide +kernel) rfl rfl ?_
      refine fs_bipush (n := 8) (p := 74) (by decide +kernel) rfl kb_8 ?_
      refine fs_ishr (p := 75) (by decide +kernel) rfl ?_
      refine fs_iconst (n := 1) (p := 76) (by decide +kernel) rfl kc_1 ?_
      refine fs_iand (p := 77) (by decide +kernel) rfl ?_
      refine fs_iconst (n := 1) (p := 78) (by decide +kernel) rfl kc_1 ?_
      by_cases c33 : ¬ ((q28.1 >>> ((8 : Int32) &&& 31)) &&& (1 : Int32)) = (1 : Int32)
      · rw [if_pos c33] at h
        refine fs_icmp_ne_t (off := 7) (t := 85) (by decide +kernel) (by decide +kernel) c33 ?_
        refine fs_iconst (n := 0) (p := 86) (by decide +kernel) rfl kc_0 ?_
        have h := Option.some.inj h
        subst h
        exact fs_zret (b := false) (by decide +kernel) rt_222
      · rw [if_neg c33] at h
        refine fs_icmp_ne_f (off := 7) (t := 85) (p := 81) (by decide +kernel) (by decide +kernel) rfl c33 ?_
        refine fs_iconst (n := 1) (p := 82) (by decide +kernel) rfl kc_1 ?_
        refine fs_goto (off := 4) (p := 86) (by decide +kernel) (by decide +kernel) ?_
        have h := Option.some.inj h
        subst h
        exact fs_zret (b := true) (by decide +kernel) rt_222
    · rw [if_neg c31] at h
      refine fs_icmp_ne_f (off := 19) (t := 71) (p := 55) (by decide +kernel) (by decide +kernel) rfl c31 ?_
      refine fs_iload_n (k := 3) (p := 56) (by decide +kernel) rfl rfl ?_
      obtain ⟨q35, w34, h⟩ := fx_bd h
      refine fs_callS (idx := 438) (mj := 230) (na := 1) (mx := 1) (p := 59) (args := [.int q28.1]) (rest := []) (al2 := [some (.int q28.1)]) (by decide +kernel) rfl (by decide +kernel) rfl rfl rfl rfl rfl rfl rfl (by omega) (fun d' hd' => fe_230 (by omega) w34) rfl ?_
      refine fs_iconst (n := 1) (p := 60) (by decide +kernel) rfl kc_1 ?_
      by_cases c37 : q35.1 ≤ (1 : Int32)
      · rw [if_pos c37] at h
        refine fs_icmp_le_t (off := 7) (t := 67) (by decide +kernel) (by decide +kernel) c37 ?_
        refine fs_iconst (n := 0) (p := 68) (by decide +kernel) rfl kc_0 ?_
        refine fs_goto (off := 18) (p := 86) (by decide +kernel) (by decide +kernel) ?_
        have h := Option.some.inj h
        subst h
        exact fs_zret (b := false) (by decide +kernel) rt_222
      · rw [if_neg c37] at h
        refine fs_icmp_le_f (off := 7) (t := 67) (p := 63) (by decide +kernel) (by decide +kernel) rfl c37 ?_
        refine fs_iconst (n := 1) (p := 64) (by decide +kernel) rfl kc_1 ?_
        refine fs_goto (off := 22) (p := 86) (by decide +kernel) (by decide +kernel) ?_
        have h := Option.some.inj h
        subst h
        exact fs_zret (b := true) (by decide +kernel) rt_222
  · rw [if_neg c30] at h
    refine fs_icmp_ne_f (off := 42) (t := 50) (p := 11) (by decide +kernel) (by decide +kernel) rfl c30 ?_
    refine fs_iload_n (k := 3) (p := 12) (by decide +kernel) rfl rfl ?_
    obtain ⟨q39, w38, h⟩ := fx_bd h
    refine fs_callS (idx := 438) (mj := 230) (na := 1) (mx := 1) (p := 15) (args := [.int q28.1]) (rest := []) (al2 := [some (.int q28.1)]) (by decide +kernel) rfl (by decide +kernel) rfl rfl rfl rfl rfl rfl rfl (by omega) (fun d' hd' => fe_230 (by omega) w38) rfl ?_
    refine fs_iconst (n := 1) (p := 16) (by decide +kernel) rfl kc_1 ?_
    by_cases c41 : ¬ q39.1 = (1 : Int32)
    · rw [if_pos c41] at h
      refine fs_icmp_ne_t (off := 32) (t := 48) (by decide +kernel) (by decide +kernel) c41 ?_
      refine fs_iconst (n := 0) (p := 49) (by decide +kernel) rfl kc_0 ?_
      have h := Option.some.inj h
      subst h
      exact fs_zret (b := false) (by decide +kernel) rt_222
    · rw [if_neg c41] at h
      refine fs_icmp_ne_f (off := 32) (t := 48) (p := 19) (by decide +kernel) (by decide +kernel) rfl c41 ?_
      refine fs_iload_n (k := 3) (p := 20) (by decide +kernel) rfl rfl ?_
      refine fs_bipush (n := 8) (p := 22) (by decide +kernel) rfl kb_8 ?_
      refine fs_ishr (p := 23) (by decide +kernel) rfl ?_
      refine fs_iconst (n := 1) (p := 24) (by decide +kernel) rfl kc_1 ?_
      refine fs_iand (p := 25) (by decide +kernel) rfl ?_
      by_cases c43 : ¬ ((q28.1 >>> ((8 : Int32) &&& 31)) &&& (1 : Int32)) = 0
      · rw [if_pos c43] at h
        refine fs_if_ne_t (off := 23) (t := 48) (by decide +kernel) (by decide +kernel) c43 ?_
        refine fs_iconst (n := 0) (p := 49) (by decide +kernel) rfl kc_0 ?_
        have h := Option.some.inj h
        subst h
        exact fs_zret (b := false) (by decide +kernel) rt_222
      · rw [if_neg c43] at h
        refine fs_if_ne_f (off := 23) (t := 48) (p := 28) (by decide +kernel) (by decide +kernel) rfl c43 ?_
        refine fs_aload_n (k := 0) (p := 29) (by decide +kernel) rfl rfl ?_
        refine fs_iload_n (k := 3) (p := 30) (by decide +kernel) rfl rfl ?_
        obtain ⟨q45, w44, h⟩ := fx_bd h
        refine fs_callS (idx := 443) (mj := 229) (na := 1) (mx := 2) (p := 33) (args := [.int q28.1]) (rest := [.ref 215]) (al2 := [some (.int q28.1), none]) (by decide +kernel) rfl (by decide +kernel) rfl rfl rfl rfl rfl rfl rfl (by omega) (fun d' hd' => fe_229 (by omega) w44) rfl ?_
        obtain ⟨q47, w46, h⟩ := fx_bd h
        refine fs_callV (idx := 359) (mj := 202) (ci := 10) (na := 1) (mx := 4) (p := 36) (args := [.ref 215, .int q45.1]) (rest := []) (al2 := [some (.ref 215), some (.int q45.1), none, none]) (by decide +kernel) rfl (by decide +kernel) fo_215 rfl rfl rfl rfl rfl rfl rfl (by omega) (fun d' hd' => fe_202 (by omega) w46) rfl ?_
        refine fs_aload_n (k := 0) (p := 37) (by decide +kernel) rfl rfl ?_
        refine fs_iload_n (k := 1) (p := 38) (by decide +kernel) rfl rfl ?_
        obtain ⟨q49, w48, h⟩ := fx_bd h
        refine fs_callV (idx := 279) (mj := 158) (ci := 10) (na := 1) (mx := 4) (p := 41) (args := [.ref 215, .int x1]) (rest := [.int q47.1]) (al2 := [some (.ref 215), some (.int x1), none, none]) (by decide +kernel) rfl (by decide +kernel) fo_215 rfl rfl rfl rfl rfl rfl rfl (by omega) (fun d' hd' => fe_158 (by omega) w48) rfl ?_
        by_cases c52 : ¬ q47.1 = q49.1
        · rw [if_pos c52] at h
          refine fs_icmp_ne_t (off := 7) (t := 48) (by decide +kernel) (by decide +kernel) c52 ?_
          refine fs_iconst (n := 0) (p := 49) (by decide +kernel) rfl kc_0 ?_
          have h := Option.some.inj h
          subst h
          exact fs_zret (b := false) (by decide +kernel) rt_222
        · rw [if_neg c52] at h
          refine fs_icmp_ne_f (off := 7) (t := 48) (p := 44) (by decide +kernel) (by decide +kernel) rfl c52 ?_
          refine fs_iconst (n := 1) (p := 45) (by decide +kernel) rfl kc_1 ?_
          refine fs_goto (off := 4) (p := 49) (by decide +kernel) (by decide +kernel) ?_
          have h := Option.some.inj h
          subst h
          exact fs_zret (b := true) (by decide +kernel) rt_222

/-! ZoneSharesModel.apart(I)I -/
theorem mx_223 : iv_mx 223 = 4 := by decide +kernel
theorem rt_223 : iv_rt 223 = some .int := by decide +kernel
def fm_223_108 (x2 : Int32) (σ : fx_S) : Option (Int32 × fx_S) :=
  some (x2, σ)
theorem fe_223_108 {d : Nat} (hd : 3 ≤ d) (x2 : Int32) (o0 : Option Value) (o1 : Option Value) (o3 : Option Value) (σ : fx_S) (q : Int32 × fx_S) (h : fm_223_108  x2 σ = some q) : fx_E none 223 d 108 [o0, o1, some (.int x2), o3] [] σ (some (.int q.1)) q.2 := by
  unfold fm_223_108 at h
  refine fs_iload_n (k := 2) (p := 109) (by decide +kernel) rfl rfl ?_
  have h := Option.some.inj h
  subst h
  exact fs_iret (by decide +kernel) rt_223
def fm_223_80 : Nat → Int32 → Int32 → Int32 → fx_S → Option (Int32 × fx_S)
  | 0, _, _, _, _ => none
  | n + 1, x1, x2, x3, σ =>
    if (8 : Int32) ≤ x3 then (
      fm_223_108 x2 σ) else (
      if x1 ≤ 0 then (
        fm_223_108 x2 σ) else (
        (fm_222 x3 x1 σ).bind fun q6 =>
        (fm_131 (fx_b q6.1) q6.2).bind fun q8 =>
        fm_223_80 n x1 (x2 + q8.1) (x3 + (1 : Int32)) q8.2))
theorem fe_223_80 {d : Nat} (hd : 3 ≤ d) : ∀ (n : Nat) (x1 : Int32) (x2 : Int32) (x3 : Int32) (σ : fx_S) (q : Int32 × fx_S), fm_223_80 n x1 x2 x3 σ = some q → fx_E none 223 d 80 [some (.ref 215), some (.int x1), some (.int x2), some (.int x3)] [] σ (some (.int q.1)) q.2 := by
  intro n
  induction n with
  | zero =>
    intro x1 x2 x3 σ q  h
    rw [fm_223_80] at h
    exact fx_no h
  | succ n ih =>
    intro x1 x2 x3 σ q  h
    rw [fm_223_80] at h
    refine fs_iload_n (k := 3) (p := 81) (by decide +kernel) rfl rfl ?_
    refine fs_bipush (n := 8) (p := 83) (by decide +kernel) rfl kb_8 ?_
    by_cases c2 : (8 : Int32) ≤ x3
    · rw [if_pos c2] at h
      refine fs_icmp_ge_t (off := 25) (t := 108) (by decide +kernel) (by decide +kernel) c2 ?_
      exact fe_223_108 hd _ _ _ _ _ _ h
    · rw [if_neg c2] at h
      refine fs_icmp_ge_f (off := 25) (t := 108) (p := 86) (by decide +kernel) (by decide +kernel) rfl c2 ?_
      refine fs_iload_n (k := 1) (p := 87) (by decide +kernel) rfl rfl ?_
      by_cases c4 : x1 ≤ 0
      · rw [if_pos c4] at h
        refine fs_if_le_t (off := 21) (t := 108) (by decide +kernel) (by decide +kernel) c4 ?_
        exact fe_223_108 hd _ _ _ _ _ _ h
      · rw [if_neg c4] at h
        refine fs_if_le_f (off := 21) (t := 108) (p := 90) (by decide +kernel) (by decide +kernel) rfl c4 ?_
        refine fs_iload_n (k := 2) (p := 91) (by decide +kernel) rfl rfl ?_
        refine fs_aload_n (k := 0) (p := 92) (by decide +kernel) rfl rfl ?_
        refine fs_iload_n (k := 3) (p := 93) (by decide +kernel) rfl rfl ?_
        refine fs_iload_n (k := 1) (p := 94) (by decide +kernel) rfl rfl ?_
        obtain ⟨q6, w5, h⟩ := fx_bd h
        refine fs_callV (idx := 446) (mj := 222) (ci := 10) (na := 2) (mx := 4) (p := 97) (args := [.ref 215, .int x3, .int x1]) (rest := [.int x2]) (al2 := [some (.ref 215), some (.int x3), some (.int x1), none]) (by decide +kernel) rfl (by decide +kernel) fo_215 rfl rfl rfl rfl rfl rfl rfl (by omega) (fun d' hd' => fe_222 (by omega) w5) rfl ?_
        obtain ⟨q8, w7, h⟩ := fx_bd h
        refine fs_callS (idx := 186) (mj := 131) (na := 1) (mx := 1) (p := 100) (args := [.int (fx_b q6.1)]) (rest := [.int x2]) (al2 := [some (.int (fx_b q6.1))]) (by decide +kernel) rfl (by decide +kernel) rfl rfl rfl rfl rfl rfl rfl (by omega) (fun d' hd' => fe_131 (by omega) w7) rfl ?_
        refine fs_iadd (p := 101) (by decide +kernel) rfl ?_
        refine fs_istore_n (k := 2) (p := 102) (M := 4) (al' := [some (.ref 215), some (.int x1), some (.int (x2 + q8.1)), some (.int x3)]) (by decide +kernel) rfl mx_223 rfl rfl ?_
        refine fs_iinc (k := 3) (n := 1) (p := 105) (M := 4) (al' := [some (.ref 215), some (.int x1), some (.int (x2 + q8.1)), some (.int (x3 + (1 : Int32)))]) (by decide +kernel) rfl kc_1 mx_223 rfl rfl rfl ?_
        refine fs_goto (off := -25) (p := 80) (by decide +kernel) (by decide +kernel) ?_
        exact ih _ _ _ _ _ h
def fm_223_78 (x1 : Int32) (x2 : Int32) (σ : fx_S) : Option (Int32 × fx_S) :=
  fm_223_80 100000 x1 x2 (0 : Int32) σ
theorem fe_223_78 {d : Nat} (hd : 3 ≤ d) (x1 : Int32) (x2 : Int32) (o3 : Option Value) (σ : fx_S) (q : Int32 × fx_S) (h : fm_223_78  x1 x2 σ = some q) : fx_E none 223 d 78 [some (.ref 215), some (.int x1), some (.int x2), o3] [] σ (some (.int q.1)) q.2 := by
  unfold fm_223_78 at h
  refine fs_iconst (n := 0) (p := 79) (by decide +kernel) rfl kc_0 ?_
  refine fs_istore_n (k := 3) (p := 80) (M := 4) (al' := [some (.ref 215), some (.int x1), some (.int x2), some (.int (0 : Int32))]) (by decide +kernel) rfl mx_223 rfl rfl ?_
  exact fe_223_80 hd 100000 _ _ _ _ _ h
def fm_223_67 (k_34 : Int32 → Int32 → Int32 → fx_S → Option (Int32 × fx_S)) (x1 : Int32) (x3 : Int32) (s0 : Int32) (s1 : Int32) (σ : fx_S) : Option (Int32 × fx_S) :=
  (fm_131 s1 σ).bind fun q2 =>
  k_34 x1 (s0 + q2.1) (x3 + (1 : Int32)) q2.2
theorem fe_223_67 {d : Nat} (hd : 3 ≤ d) {k_34 : Int32 → Int32 → Int32 → fx_S → Option (Int32 × fx_S)} (hk_34 : ∀ (x1 : Int32) (x2 : Int32) (x3 : Int32) (σ : fx_S) (q : Int32 × fx_S), k_34 x1 x2 x3 σ = some q → fx_E none 223 d 34 [some (.ref 215), some (.int x1), some (.int x2), some (.int x3)] [] σ (some (.int q.1)) q.2) (x1 : Int32) (x3 : Int32) (s0 : Int32) (s1 : Int32) (o2 : Option Value) (σ : fx_S) (q : Int32 × fx_S) (h : fm_223_67 k_34  x1 x3 s0 s1 σ = some q) : fx_E none 223 d 67 [some (.ref 215), some (.int x1), o2, some (.int x3)] [.int s1, .int s0] σ (some (.int q.1)) q.2 := by
  unfold fm_223_67 at h
  obtain ⟨q2, w1, h⟩ := fx_bd h
  refine fs_callS (idx := 186) (mj := 131) (na := 1) (mx := 1) (p := 70) (args := [.int s1]) (rest := [.int s0]) (al2 := [some (.int s1)]) (by decide +kernel) rfl (by decide +kernel) rfl rfl rfl rfl rfl rfl rfl (by omega) (fun d' hd' => fe_131 (by omega) w1) rfl ?_
  refine fs_iadd (p := 71) (by decide +kernel) rfl ?_
  refine fs_istore_n (k := 2) (p := 72) (M := 4) (al' := [some (.ref 215), some (.int x1), some (.int (s0 + q2.1)), some (.int x3)]) (by decide +kernel) rfl mx_223 rfl rfl ?_
  refine fs_iinc (k := 3) (n := 1) (p := 75) (M := 4) (al' := [some (.ref 215), some (.int x1), some (.int (s0 + q2.1)), some (.int (x3 + (1 : Int32)))]) (by decide +kernel) rfl kc_1 mx_223 rfl rfl rfl ?_
  refine fs_goto (off := -41) (p := 34) (by decide +kernel) (by decide +kernel) ?_
  exact hk_34 _ _ _ _ _ h
def fm_223_34 : Nat → Int32 → Int32 → Int32 → fx_S → Option (Int32 × fx_S)
  | 0, _, _, _, _ => none
  | n + 1, x1, x2, x3, σ =>
    (fm_151 σ).bind fun q2 =>
    if q2.1 ≤ x3 then (
      fm_223_78 x1 x2 q2.2) else (
      if ¬ x1 = 0 then (
        fm_223_78 x1 x2 q2.2) else (
        (fm_152 (0 : Int32) x3 q2.2).bind fun q9 =>
        (fm_152 (1 : Int32) x3 q9.2).bind fun q11 =>
        if q9.1 = q11.1 then (
          fm_223_67 (fm_223_34 n) x1 x3 x2 (0 : Int32) q11.2) else (
          fm_223_67 (fm_223_34 n) x1 x3 x2 (1 : Int32) q11.2)))
theorem fe_223_34 {d : Nat} (hd : 3 ≤ d) : ∀ (n : Nat) (x1 : Int32) (x2 : Int32) (x3 : Int32) (σ : fx_S) (q : Int32 × fx_S), fm_223_34 n x1 x2 x3 σ = some q → fx_E none 223 d 34 [some (.ref 215), some (.int x1), some (.int x2), some (.int x3)] [] σ (some (.int q.1)) q.2 := by
  intro n
  induction n with
  | zero =>
    intro x1 x2 x3 σ q  h
    rw [fm_223_34] at h
    exact fx_no h
  | succ n ih =>
    intro x1 x2 x3 σ q  h
    rw [fm_223_34] at h
    refine fs_iload_n (k := 3) (p := 35) (by decide +kernel) rfl rfl ?_
    refine fs_aload_n (k := 0) (p := 36) (by decide +kernel) rfl rfl ?_
    obtain ⟨q2, w1, h⟩ := fx_bd h
    refine fs_callV (idx := 196) (mj := 151) (ci := 10) (na := 0) (mx := 1) (p := 39) (args := [.ref 215]) (rest := [.int x3]) (al2 := [some (.ref 215)]) (by decide +kernel) rfl (by decide +kernel) fo_215 rfl rfl rfl rfl rfl rfl rfl (by omega) (fun d' hd' => fe_151 (by omega) w1) rfl ?_
    by_cases c5 : q2.1 ≤ x3
    · rw [if_pos c5] at h
      refine fs_icmp_ge_t (off := 39) (t := 78) (by decide +kernel) (by decide +kernel) c5 ?_
      exact fe_223_78 hd _ _ _ _ _ h
    · rw [if_neg c5] at h
      refine fs_icmp_ge_f (off := 39) (t := 78) (p := 42) (by decide +kernel) (by decide +kernel) rfl c5 ?_
      refine fs_iload_n (k := 1) (p := 43) (by decide +kernel) rfl rfl ?_
      by_cases c7 : ¬ x1 = 0
      · rw [if_pos c7] at h
        refine fs_if_ne_t (off := 35) (t := 78) (by decide +kernel) (by decide +kernel) c7 ?_
        exact fe_223_78 hd _ _ _ _ _ h
      · rw [if_neg c7] at h
        refine fs_if_ne_f (off := 35) (t := 78) (p := 46) (by decide +kernel) (by decide +kernel) rfl c7 ?_
        refine fs_iload_n (k := 2) (p := 47) (by decide +kernel) rfl rfl ?_
        refine fs_aload_n (k := 0) (p := 48) (by decide +kernel) rfl rfl ?_
        refine fs_iconst (n := 0) (p := 49) (by decide +kernel) rfl kc_0 ?_
        refine fs_iload_n (k := 3) (p := 50) (by decide +kernel) rfl rfl ?_
        obtain ⟨q9, w8, h⟩ := fx_bd h
        refine fs_callV (idx := 199) (mj := 152) (ci := 10) (na := 2) (mx := 3) (p := 53) (args := [.ref 215, .int (0 : Int32), .int x3]) (rest := [.int x2]) (al2 := [some (.ref 215), some (.int (0 : Int32)), some (.int x3)]) (by decide +kernel) rfl (by decide +kernel) fo_215 rfl rfl rfl rfl rfl rfl rfl (by omega) (fun d' hd' => fe_152 (by omega) w8) rfl ?_
        refine fs_aload_n (k := 0) (p := 54) (by decide +kernel) rfl rfl ?_
        refine fs_iconst (n := 1) (p := 55) (by decide +kernel) rfl kc_1 ?_
        refine fs_iload_n (k := 3) (p := 56) (by decide +kernel) rfl rfl ?_
        obtain ⟨q11, w10, h⟩ := fx_bd h
        refine fs_callV (idx := 199) (mj := 152) (ci := 10) (na := 2) (mx := 3) (p := 59) (args := [.ref 215, .int (1 : Int32), .int x3]) (rest := [.int q9.1, .int x2]) (al2 := [some (.ref 215), some (.int (1 : Int32)), some (.int x3)]) (by decide +kernel) rfl (by decide +kernel) fo_215 rfl rfl rfl rfl rfl rfl rfl (by omega) (fun d' hd' => fe_152 (by omega) w10) rfl ?_
        by_cases c14 : q9.1 = q11.1
        · rw [if_pos c14] at h
          refine fs_icmp_eq_t (off := 7) (t := 66) (by decide +kernel) (by decide +kernel) c14 ?_
          refine fs_iconst (n := 0) (p := 67) (by decide +kernel) rfl kc_0 ?_
          exact fe_223_67 hd ih _ _ _ _ _ _ _ h
        · rw [if_neg c14] at h
          refine fs_icmp_eq_f (off := 7) (t := 66) (p := 62) (by decide +kernel) (by decide +kernel) rfl c14 ?_
          refine fs_iconst (n := 1) (p := 63) (by decide +kernel) rfl kc_1 ?_
          refine fs_goto (off := 4) (p := 67) (by decide +kernel) (by decide +kernel) ?_
          exact fe_223_67 hd ih _ _ _ _ _ _ _ h
def fm_223 (x1 : Int32) (σ : fx_S) : Option (Int32 × fx_S) :=
  (fm_130 (x1).toInt64 (0 : Int64) (3 : Int64) σ).bind fun q37 =>
  if (fx_b q37.1) = 0 then (
    some ((-1 : Int32), q37.2)) else (
    (fm_144 (0 : Int32) q37.2).bind fun q40 =>
    if (fx_b q40.1) = 0 then (
      some ((-1 : Int32), q40.2)) else (
      (fm_144 (1 : Int32) q40.2).bind fun q43 =>
      if ¬ (fx_b q43.1) = 0 then (
        fm_223_34 100000 x1 (0 : Int32) (0 : Int32) q43.2) else (
        some ((-1 : Int32), q43.2))))
theorem fe_223 {d : Nat} (hd : 3 ≤ d) {x1 : Int32} {σ : fx_S} {q : Int32 × fx_S} (h : fm_223 x1 σ = some q) : fx_E none 223 d 0 [some (.ref 215), some (.int x1), none, none] [] σ (some (.int q.1)) q.2 := by
  unfold fm_223 at h
  refine fs_iload_n (k := 1) (p := 1) (by decide +kernel) rfl rfl ?_
  refine fs_i2l (p := 2) (by decide +kernel) rfl ?_
  refine fs_lconst (n := 0) (p := 3) (by decide +kernel) rfl kl_0 ?_
  refine fs_ldc2 (idx := 327) (p := 6) (x := 3) (by decide +kernel) rfl (by decide +kernel) ?_
  obtain ⟨q37, w36, h⟩ := fx_bd h
  refine fs_callS (idx := 128) (mj := 130) (na := 3) (mx := 6) (p := 9) (args := [.long (x1).toInt64, .long (0 : Int64), .long (3 : Int64)]) (rest := []) (al2 := [some (.long (x1).toInt64), none, some (.long (0 : Int64)), none, some (.long (3 : Int64)), none]) (by decide +kernel) rfl (by decide +kernel) rfl rfl rfl rfl rfl rfl rfl (by omega) (fun d' hd' => fe_130 (by omega) w36) rfl ?_
  by_cases c38 : (fx_b q37.1) = 0
  · rw [if_pos c38] at h
    refine fs_if_eq_t (off := 19) (t := 28) (by decide +kernel) (by decide +kernel) c38 ?_
    refine fs_iconst (n := -1) (p := 29) (by decide +kernel) rfl kc_m1 ?_
    have h := Option.some.inj h
    subst h
    exact fs_iret (by decide +kernel) rt_223
  · rw [if_neg c38] at h
    refine fs_if_eq_f (off := 19) (t := 28) (p := 12) (by decide +kernel) (by decide +kernel) rfl c38 ?_
    refine fs_aload_n (k := 0) (p := 13) (by decide +kernel) rfl rfl ?_
    refine fs_iconst (n := 0) (p := 14) (by decide +kernel) rfl kc_0 ?_
    obtain ⟨q40, w39, h⟩ := fx_bd h
    refine fs_callV (idx := 163) (mj := 144) (ci := 10) (na := 1) (mx := 2) (p := 17) (args := [.ref 215, .int (0 : Int32)]) (rest := []) (al2 := [some (.ref 215), some (.int (0 : Int32))]) (by decide +kernel) rfl (by decide +kernel) fo_215 rfl rfl rfl rfl rfl rfl rfl (by omega) (fun d' hd' => fe_144 (by omega) w39) rfl ?_
    by_cases c41 : (fx_b q40.1) = 0
    · rw [if_pos c41] at h
      refine fs_if_eq_t (off := 11) (t := 28) (by decide +kernel) (by decide +kernel) c41 ?_
      refine fs_iconst (n := -1) (p := 29) (by decide +kernel) rfl kc_m1 ?_
      have h := Option.some.inj h
      subst h
      exact fs_iret (by decide +kernel) rt_223
    · rw [if_neg c41] at h
      refine fs_if_eq_f (off := 11) (t := 28) (p := 20) (by decide +kernel) (by decide +kernel) rfl c41 ?_
      refine fs_aload_n (k := 0) (p := 21) (by decide +kernel) rfl rfl ?_
      refine fs_iconst (n := 1) (p := 22) (by decide +kernel) rfl kc_1 ?_
      obtain ⟨q43, w42, h⟩ := fx_bd h
      refine fs_callV (idx := 163) (mj := 144) (ci := 10) (na := 1) (mx := 2) (p := 25) (args := [.ref 215, .int (1 : Int32)]) (rest := []) (al2 := [some (.ref 215), some (.int (1 : Int32))]) (by decide +kernel) rfl (by decide +kernel) fo_215 rfl rfl rfl rfl rfl rfl rfl (by omega) (fun d' hd' => fe_144 (by omega) w42) rfl ?_
      by_cases c44 : ¬ (fx_b q43.1) = 0
      · rw [if_pos c44] at h
        refine fs_if_ne_t (off := 5) (t := 30) (by decide +kernel) (by decide +kernel) c44 ?_
        refine fs_iconst (n := 0) (p := 31) (by decide +kernel) rfl kc_0 ?_
        refine fs_istore_n (k := 2) (p := 32) (M := 4) (al' := [some (.ref 215), some (.int x1), some (.int (0 : Int32)), none]) (by decide +kernel) rfl mx_223 rfl rfl ?_
        refine fs_iconst (n := 0) (p := 33) (by decide +kernel) rfl kc_0 ?_
        refine fs_istore_n (k := 3) (p := 34) (M := 4) (al' := [some (.ref 215), some (.int x1), some (.int (0 : Int32)), some (.int (0 : Int32))]) (by decide +kernel) rfl mx_223 rfl rfl ?_
        exact fe_223_34 hd 100000 _ _ _ _ _ h
      · rw [if_neg c44] at h
        refine fs_if_ne_f (off := 5) (t := 30) (p := 28) (by decide +kernel) (by decide +kernel) rfl c44 ?_
        refine fs_iconst (n := -1) (p := 29) (by decide +kernel) rfl kc_m1 ?_
        have h := Option.some.inj h
        subst h
        exact fs_iret (by decide +kernel) rt_223

/-! ZoneShares$CountsText.wrongPart(LZoneShares$Tape;)I -/
theorem mx_5 : iv_mx 5 = 4 := by decide +kernel
theorem rt_5 : iv_rt 5 = some .int := by decide +kernel
def fm_5 (σ : fx_S) : Option (Int32 × fx_S) :=
  (fm_83 (σ.1 60 2) σ).bind fun q28 =>
  (fm_7 q28.1 q28.2).bind fun q30 =>
  if ¬ q30.1 = (-1 : Int32) then (
    if ¬ (((q30.2.1 60 1) >>> (q30.1 &&& 31)) &&& (1 : Int32)) = (1 : Int32) then (
      (fm_83 ((fx_w1 (fx_w1 q30.2 60 1 ((q30.2.1 60 1) ||| ((1 : Int32) <<< (q30.1 &&& 31)))) 60 2 (((fx_w1 q30.2 60 1 ((q30.2.1 60 1) ||| ((1 : Int32) <<< (q30.1 &&& 31)))).1 60 2) + (1 : Int32))).1 60 2) (fx_w1 (fx_w1 q30.2 60 1 ((q30.2.1 60 1) ||| ((1 : Int32) <<< (q30.1 &&& 31)))) 60 2 (((fx_w1 q30.2 60 1 ((q30.2.1 60 1) ||| ((1 : Int32) <<< (q30.1 &&& 31)))).1 60 2) + (1 : Int32)))).bind fun q36 =>
      if q36.1 = (61 : Int32) then (
        (fm_83 ((fx_w1 q36.2 60 2 ((q36.2.1 60 2) + (1 : Int32))).1 60 2) (fx_w1 q36.2 60 2 ((q36.2.1 60 2) + (1 : Int32)))).bind fun q40 =>
        (fm_8 q40.1 q40.2).bind fun q42 =>
        if ¬ (fx_b q42.1) = 0 then (
          (fm_6 q42.2).bind fun q45 =>
          (fx_st q45.2 61 q30.1 q45.1).bind fun t46 =>
          (fx_ld t46 61 q30.1).bind fun v49 =>
          if v49 ≤ (9999 : Int32) then (
            some ((0 : Int32), t46)) else (
            some ((2 : Int32), (fx_w1 t46 60 2 (q42.2.1 60 2))))) else (
          some ((1 : Int32), q42.2))) else (
        some ((1 : Int32), q36.2))) else (
      some ((3 : Int32), q30.2))) else (
    some ((1 : Int32), q30.2))
theorem fe_5 {d : Nat} (hd : 2 ≤ d) {σ : fx_S} {q : Int32 × fx_S} (h : fm_5 σ = some q) : fx_E none 5 d 0 [some (.ref 60), some (.ref 14), none, none] [] σ (some (.int q.1)) q.2 := by
  unfold fm_5 at h
  refine fs_aload_n (k := 1) (p := 1) (by decide +kernel) rfl rfl ?_
  refine fs_aload_n (k := 0) (p := 2) (by decide +kernel) rfl rfl ?_
  refine fs_gfi (idx := 25) (ci := 0) (j := 2) (p := 5) (by decide +kernel) rfl (by decide +kernel) fo_60 ?_
  obtain ⟨q28, w27, h⟩ := fx_bd h
  refine fs_callV (idx := 37) (mj := 83) (ci := 8) (na := 1) (mx := 2) (p := 8) (args := [.ref 14, .int (σ.1 60 2)]) (rest := []) (al2 := [some (.ref 14), some (.int (σ.1 60 2))]) (by decide +kernel) rfl (by decide +kernel) fo_14 rfl rfl rfl rfl rfl rfl rfl (by omega) (fun d' hd' => fe_83 (by omega) w27) rfl ?_
  obtain ⟨q30, w29, h⟩ := fx_bd h
  refine fs_callS (idx := 41) (mj := 7) (na := 1) (mx := 1) (p := 11) (args := [.int q28.1]) (rest := []) (al2 := [some (.int q28.1)]) (by decide +kernel) rfl (by decide +kernel) rfl rfl rfl rfl rfl rfl rfl (by omega) (fun d' hd' => fe_7 (by omega) w29) rfl ?_
  refine fs_istore_n (k := 2) (p := 12) (M := 4) (al' := [some (.ref 60), some (.ref 14), some (.int q30.1), none]) (by decide +kernel) rfl mx_5 rfl rfl ?_
  refine fs_iload_n (k := 2) (p := 13) (by decide +kernel) rfl rfl ?_
  refine fs_iconst (n := -1) (p := 14) (by decide +kernel) rfl kc_m1 ?_
  by_cases c32 : ¬ q30.1 = (-1 : Int32)
  · rw [if_pos c32] at h
    refine fs_icmp_ne_t (off := 5) (t := 19) (by decide +kernel) (by decide +kernel) c32 ?_
    refine fs_aload_n (k := 0) (p := 20) (by decide +kernel) rfl rfl ?_
    refine fs_gfi (idx := 21) (ci := 0) (j := 1) (p := 23) (by decide +kernel) rfl (by decide +kernel) fo_60 ?_
    refine fs_iload_n (k := 2) (p := 24) (by decide +kernel) rfl rfl ?_
    refine fs_ishr (p := 25) (by decide +kernel) rfl ?_
    refine fs_iconst (n := 1) (p := 26) (by decide +kernel) rfl kc_1 ?_
    refine fs_iand (p := 27) (by decide +kernel) rfl ?_
    refine fs_iconst (n := 1) (p := 28) (by decide +kernel) rfl kc_1 ?_
    by_cases c34 : ¬ (((q30.2.1 60 1) >>> (q30.1 &&& 31)) &&& (1 : Int32)) = (1 : Int32)
    · rw [if_pos c34] at h
      refine fs_icmp_ne_t (off := 5) (t := 33) (by decide +kernel) (by decide +kernel) c34 ?_
      refine fs_aload_n (k := 0) (p := 34) (by decide +kernel) rfl rfl ?_
      refine fs_aload_n (k := 0) (p := 35) (by decide +kernel) rfl rfl ?_
      refine fs_gfi (idx := 21) (ci := 0) (j := 1) (p := 38) (by decide +kernel) rfl (by decide +kernel) fo_60 ?_
      refine fs_iconst (n := 1) (p := 39) (by decide +kernel) rfl kc_1 ?_
      refine fs_iload_n (k := 2) (p := 40) (by decide +kernel) rfl rfl ?_
      refine fs_ishl (p := 41) (by decide +kernel) rfl ?_
      refine fs_ior (p := 42) (by decide +kernel) rfl ?_
      refine fs_pfi (idx := 21) (ci := 0) (j := 1) (p := 45) (by decide +kernel) rfl (by decide +kernel) (by decide +kernel) fo_60 (fx_oki _ (by decide +kernel)) ?_
      refine fs_aload_n (k := 0) (p := 46) (by decide +kernel) rfl rfl ?_
      refine fs_dup (p := 47) (by decide +kernel) rfl rfl ?_
      refine fs_gfi (idx := 25) (ci := 0) (j := 2) (p := 50) (by decide +kernel) rfl (by decide +kernel) fo_60 ?_
      refine fs_iconst (n := 1) (p := 51) (by decide +kernel) rfl kc_1 ?_
      refine fs_iadd (p := 52) (by decide +kernel) rfl ?_
      refine fs_pfi (idx := 25) (ci := 0) (j := 2) (p := 55) (by decide +kernel) rfl (by decide +kernel) (by decide +kernel) fo_60 (fx_oki _ (by decide +kernel)) ?_
      refine fs_aload_n (k := 1) (p := 56) (by decide +kernel) rfl rfl ?_
      refine fs_aload_n (k := 0) (p := 57) (by decide +kernel) rfl rfl ?_
      refine fs_gfi (idx := 25) (ci := 0) (j := 2) (p := 60) (by decide +kernel) rfl (by decide +kernel) fo_60 ?_
      obtain ⟨q36, w35, h⟩ := fx_bd h
      refine fs_callV (idx := 37) (mj := 83) (ci := 8) (na := 1) (mx := 2) (p := 63) (args := [.ref 14, .int ((fx_w1 (fx_w1 q30.2 60 1 ((q30.2.1 60 1) ||| ((1 : Int32) <<< (q30.1 &&& 31)))) 60 2 (((fx_w1 q30.2 60 1 ((q30.2.1 60 1) ||| ((1 : Int32) <<< (q30.1 &&& 31)))).1 60 2) + (1 : Int32))).1 60 2)]) (rest := []) (al2 := [some (.ref 14), some (.int ((fx_w1 (fx_w1 q30.2 60 1 ((q30.2.1 60 1) ||| ((1 : Int32) <<< (q30.1 &&& 31)))) 60 2 (((fx_w1 q30.2 60 1 ((q30.2.1 60 1) ||| ((1 : Int32) <<< (q30.1 &&& 31)))).1 60 2) + (1 : Int32))).1 60 2))]) (by decide +kernel) rfl (by decide +kernel) fo_14 rfl rfl rfl rfl rfl rfl rfl (by omega) (fun d' hd' => fe_83 (by omega) w35) rfl ?_
      refine fs_bipush (n := 61) (p := 65) (by decide +kernel) rfl kb_61 ?_
      by_cases c38 : q36.1 = (61 : Int32)
      · rw [if_pos c38] at h
        refine fs_icmp_eq_t (off := 5) (t := 70) (by decide +kernel) (by decide +kernel) c38 ?_
        refine fs_aload_n (k := 0) (p := 71) (by decide +kernel) rfl rfl ?_
        refine fs_dup (p := 72) (by decide +kernel) rfl rfl ?_
        refine fs_gfi (idx := 25) (ci := 0) (j := 2) (p := 75) (by decide +kernel) rfl (by decide +kernel) fo_60 ?_
        refine fs_iconst (n := 1) (p := 76) (by decide +kernel) rfl kc_1 ?_
        refine fs_iadd (p := 77) (by decide +kernel) rfl ?_
        refine fs_pfi (idx := 25) (ci := 0) (j := 2) (p := 80) (by decide +kernel) rfl (by decide +kernel) (by decide +kernel) fo_60 (fx_oki _ (by decide +kernel)) ?_
        refine fs_aload_n (k := 1) (p := 81) (by decide +kernel) rfl rfl ?_
        refine fs_aload_n (k := 0) (p := 82) (by decide +kernel) rfl rfl ?_
        refine fs_gfi (idx := 25) (ci := 0) (j := 2) (p := 85) (by decide +kernel) rfl (by decide +kernel) fo_60 ?_
        obtain ⟨q40, w39, h⟩ := fx_bd h
        refine fs_callV (idx := 37) (mj := 83) (ci := 8) (na := 1) (mx := 2) (p := 88) (args := [.ref 14, .int ((fx_w1 q36.2 60 2 ((q36.2.1 60 2) + (1 : Int32))).1 60 2)]) (rest := []) (al2 := [some (.ref 14), some (.int ((fx_w1 q36.2 60 2 ((q36.2.1 60 2) + (1 : Int32))).1 60 2))]) (by decide +kernel) rfl (by decide +kernel) fo_14 rfl rfl rfl rfl rfl rfl rfl (by omega) (fun d' hd' => fe_83 (by omega) w39) rfl ?_
        obtain ⟨q42, w41, h⟩ := fx_bd h
        refine fs_callS (idx := 44) (mj := 8) (na := 1) (mx := 1) (p := 91) (args := [.int q40.1]) (rest := []) (al2 := [some (.int q40.1)]) (by decide +kernel) rfl (by decide +kernel) rfl rfl rfl rfl rfl rfl rfl (by omega) (fun d' hd' => fe_8 (by omega) w41) rfl ?_
        by_cases c43 : ¬ (fx_b q42.1) = 0
        · rw [if_pos c43] at h
          refine fs_if_ne_t (off := 5) (t := 96) (by decide +kernel) (by decide +kernel) c43 ?_
          refine fs_aload_n (k := 0) (p := 97) (by decide +kernel) rfl rfl ?_
          refine fs_gfi (idx := 25) (ci := 0) (j := 2) (p := 100) (by decide +kernel) rfl (by decide +kernel) fo_60 ?_
          refine fs_istore_n (k := 3) (p := 101) (M := 4) (al' := [some (.ref 60), some (.ref 14), some (.int q30.1), some (.int (q42.2.1 60 2))]) (by decide +kernel) rfl mx_5 rfl rfl ?_
          refine fs_aload_n (k := 0) (p := 102) (by decide +kernel) rfl rfl ?_
          refine fs_gfr (idx := 9) (ci := 0) (j := 0) (p := 105) (by decide +kernel) rfl (by decide +kernel) fo_60 (fr_a60_0) ?_
          refine fs_iload_n (k := 2) (p := 106) (by decide +kernel) rfl rfl ?_
          refine fs_aload_n (k := 0) (p := 107) (by decide +kernel) rfl rfl ?_
          refine fs_aload_n (k := 1) (p := 108) (by decide +kernel) rfl rfl ?_
          obtain ⟨q45, w44, h⟩ := fx_bd h
          refine fs_callV (idx := 48) (mj := 6) (ci := 0) (na := 1) (mx := 3) (p := 111) (args := [.ref 60, .ref 14]) (rest := [.int q30.1, .ref 61]) (al2 := [some (.ref 60), some (.ref 14), none]) (by decide +kernel) rfl (by decide +kernel) fo_60 rfl rfl rfl rfl rfl rfl rfl (by omega) (fun d' hd' => fe_6 (by omega) w44) rfl ?_
          obtain ⟨t46, w47, h⟩ := fx_bd h
          refine fs_iastore (p := 112) (by decide +kernel) rfl w47 ?_
          refine fs_aload_n (k := 0) (p := 113) (by decide +kernel) rfl rfl ?_
          refine fs_gfr (idx := 9) (ci := 0) (j := 0) (p := 116) (by decide +kernel) rfl (by decide +kernel) fo_60 (fr_a60_0) ?_
          refine fs_iload_n (k := 2) (p := 117) (by decide +kernel) rfl rfl ?_
          obtain ⟨v49, w50, h⟩ := fx_bd h
          refine fs_iaload (p := 118) (by decide +kernel) rfl w50 ?_
          refine fs_sipush (n := 9999) (p := 121) (by decide +kernel) rfl ks_9999 ?_
          by_cases c52 : v49 ≤ (9999 : Int32)
          · rw [if_pos c52] at h
            refine fs_icmp_le_t (off := 10) (t := 131) (by decide +kernel) (by decide +kernel) c52 ?_
            refine fs_iconst (n := 0) (p := 132) (by decide +kernel) rfl kc_0 ?_
            have h := Option.some.inj h
            subst h
            exact fs_iret (by decide +kernel) rt_5
          · rw [if_neg c52] at h
            refine fs_icmp_le_f (off := 10) (t := 131) (p := 124) (by decide +kernel) (by decide +kernel) rfl c52 ?_
            refine fs_aload_n (k := 0) (p := 125) (by decide +kernel) rfl rfl ?_
            refine fs_iload_n (k := 3) (p := 126) (by decide +kernel) rfl rfl ?_
            refine fs_pfi (idx := 25) (ci := 0) (j := 2) (p := 129) (by decide +kernel) rfl (by decide +kernel) (by decide +kernel) fo_60 (fx_oki _ (by decide +kernel)) ?_
            refine fs_iconst (n := 2) (p := 130) (by decide +kernel) rfl kc_2 ?_
            have h := Option.some.inj h
            subst h
            exact fs_iret (by decide +kernel) rt_5
        · rw [if_neg c43] at h
          refine fs_if_ne_f (off := 5) (t := 96) (p := 94) (by decide +kernel) (by decide +kernel) rfl c43 ?_
          refine fs_iconst (n := 1) (p := 95) (by decide +kernel) rfl kc_1 ?_
          have h := Option.some.inj h
          subst h
          exact fs_iret (by decide +kernel) rt_5
      · rw [if_neg c38] at h
        refine fs_icmp_eq_f (off := 5) (t := 70) (p := 68) (by decide +kernel) (by decide +kernel) rfl c38 ?_
        refine fs_iconst (n := 1) (p := 69) (by decide +kernel) rfl kc_1 ?_
        have h := Option.some.inj h
        subst h
        exact fs_iret (by decide +kernel) rt_5
    · rw [if_neg c34] at h
      refine fs_icmp_ne_f (off := 5) (t := 33) (p := 31) (by decide +kernel) (by decide +kernel) rfl c34 ?_
      refine fs_iconst (n := 3) (p := 32) (by decide +kernel) rfl kc_3 ?_
      have h := Option.some.inj h
      subst h
      exact fs_iret (by decide +kernel) rt_5
  · rw [if_neg c32] at h
    refine fs_icmp_ne_f (off := 5) (t := 19) (p := 17) (by decide +kernel) (by decide +kernel) rfl c32 ?_
    refine fs_iconst (n := 1) (p := 18) (by decide +kernel) rfl kc_1 ?_
    have h := Option.some.inj h
    subst h
    exact fs_iret (by decide +kernel) rt_5

/-! ZoneShares$Fitter.look(LZoneShares$State;I)V -/
theorem mx_10 : iv_mx 10 = 4 := by decide +kernel
theorem rt_10 : iv_rt 10 = none := by decide +kernel
def fm_10_98 (k_28 : Nat → Int32 → Int32 → fx_S → Option (fx_S)) (x1 : Nat) (x2 : Int32) (x3 : Int32) (σ : fx_S) : Option (fx_S) :=
  k_28 x1 x2 (x3 + (1 : Int32)) σ
theorem fe_10_98 {d : Nat} (hd : 2 ≤ d) {k_28 : Nat → Int32 → Int32 → fx_S → Option (fx_S)} (hk_28 : ∀ (x1 : Nat) (x2 : Int32) (x3 : Int32) (σ : fx_S) (q : fx_S) (g1 : fx_oc x1 6 = true), k_28 x1 x2 x3 σ = some q → fx_E none 10 d 28 [some (.ref 62), some (.ref x1), some (.int x2), some (.int x3)] [] σ none q) (x1 : Nat) (x2 : Int32) (x3 : Int32) (σ : fx_S) (q : fx_S) (g1 : fx_oc x1 6 = true) (h : fm_10_98 k_28  x1 x2 x3 σ = some q) : fx_E none 10 d 98 [some (.ref 62), some (.ref x1), some (.int x2), some (.int x3)] [] σ none q := by
  unfold fm_10_98 at h
  refine fs_iinc (k := 3) (n := 1) (p := 101) (M := 4) (al' := [some (.ref 62), some (.ref x1), some (.int x2), some (.int (x3 + (1 : Int32)))]) (by decide +kernel) rfl kc_1 mx_10 rfl rfl rfl ?_
  refine fs_goto (off := -73) (p := 28) (by decide +kernel) (by decide +kernel) ?_
  exact hk_28 _ _ _ _ _ g1 h
def fm_10_28 : Nat → Nat → Int32 → Int32 → fx_S → Option (fx_S)
  | 0, _, _, _, _ => none
  | n + 1, x1, x2, x3, σ =>
    if (8 : Int32) ≤ x3 then (
      (fx_cpy σ (x1 + 3) (x2 * (4 : Int32)) 63 (0 : Int32) (4 : Int32)).bind fun t3 =>
      some t3) else (
      (fm_62 x1 (0 : Int32) x3 σ).bind fun q7 =>
      if q7.1 ≤ 0 then (
        fm_10_98 (fm_10_28 n) x1 x2 x3 q7.2) else (
        (fm_11 x1 x3 q7.2).bind fun q11 =>
        (fx_ld q11 (x1 + 2) ((x2 * (9 : Int32)) + x3)).bind fun v12 =>
        (fx_st q11 64 (q11.1 62 2) v12).bind fun t15 =>
        (fx_ld t15 64 (t15.1 62 2)).bind fun v18 =>
        fm_10_98 (fm_10_28 n) x1 x2 x3 (fx_w1 (fx_w2 t15 62 1 ((t15.2 62 1) + (v18).toInt64)) 62 2 (((fx_w2 t15 62 1 ((t15.2 62 1) + (v18).toInt64)).1 62 2) + (1 : Int32)))))
theorem fe_10_28 {d : Nat} (hd : 2 ≤ d) : ∀ (n : Nat) (x1 : Nat) (x2 : Int32) (x3 : Int32) (σ : fx_S) (q : fx_S) (g1 : fx_oc x1 6 = true), fm_10_28 n x1 x2 x3 σ = some q → fx_E none 10 d 28 [some (.ref 62), some (.ref x1), some (.int x2), some (.int x3)] [] σ none q := by
  intro n
  induction n with
  | zero =>
    intro x1 x2 x3 σ q g1 h
    rw [fm_10_28] at h
    exact fx_no h
  | succ n ih =>
    intro x1 x2 x3 σ q g1 h
    rw [fm_10_28] at h
    refine fs_iload_n (k := 3) (p := 29) (by decide +kernel) rfl rfl ?_
    refine fs_bipush (n := 8) (p := 31) (by decide +kernel) rfl kb_8 ?_
    by_cases c2 : (8 : Int32) ≤ x3
    · rw [if_pos c2] at h
      refine fs_icmp_ge_t (off := 73) (t := 104) (by decide +kernel) (by decide +kernel) c2 ?_
      refine fs_aload_n (k := 1) (p := 105) (by decide +kernel) rfl rfl ?_
      refine fs_gfr (idx := 55) (ci := 6) (j := 2) (p := 108) (by decide +kernel) rfl (by decide +kernel) g1 (fr_6_2 g1) ?_
      refine fs_iload_n (k := 2) (p := 109) (by decide +kernel) rfl rfl ?_
      refine fs_iconst (n := 4) (p := 110) (by decide +kernel) rfl kc_4 ?_
      refine fs_imul (p := 111) (by decide +kernel) rfl ?_
      refine fs_aload_n (k := 0) (p := 112) (by decide +kernel) rfl rfl ?_
      refine fs_gfr (idx := 9) (ci := 1) (j := 0) (p := 115) (by decide +kernel) rfl (by decide +kernel) fo_62 (fr_a62_0) ?_
      refine fs_iconst (n := 0) (p := 116) (by decide +kernel) rfl kc_0 ?_
      refine fs_iconst (n := 4) (p := 117) (by decide +kernel) rfl kc_4 ?_
      obtain ⟨t3, w4, h⟩ := fx_bd h
      refine fs_cpy (idx := 58) (p := 120) (by decide +kernel) rfl (by decide +kernel) rfl w4 ?_
      have h := Option.some.inj h
      subst h
      exact fs_ret (by decide +kernel) rt_10
    · rw [if_neg c2] at h
      refine fs_icmp_ge_f (off := 73) (t := 104) (p := 34) (by decide +kernel) (by decide +kernel) rfl c2 ?_
      refine fs_aload_n (k := 1) (p := 35) (by decide +kernel) rfl rfl ?_
      refine fs_iconst (n := 0) (p := 36) (by decide +kernel) rfl kc_0 ?_
      refine fs_iload_n (k := 3) (p := 37) (by decide +kernel) rfl rfl ?_
      obtain ⟨q7, w6, h⟩ := fx_bd h
      refine fs_callV (idx := 44) (mj := 62) (ci := 6) (na := 2) (mx := 6) (p := 40) (args := [.ref x1, .int (0 : Int32), .int x3]) (rest := []) (al2 := [some (.ref x1), some (.int (0 : Int32)), some (.int x3), none, none, none]) (by decide +kernel) rfl (by decide +kernel) g1 rfl rfl rfl rfl rfl rfl rfl (by omega) (fun d' hd' => fe_62 (by omega) w6) rfl ?_
      by_cases c9 : q7.1 ≤ 0
      · rw [if_pos c9] at h
        refine fs_if_le_t (off := 58) (t := 98) (by decide +kernel) (by decide +kernel) c9 ?_
        exact fe_10_98 hd ih _ _ _ _ _ g1 h
      · rw [if_neg c9] at h
        refine fs_if_le_f (off := 58) (t := 98) (p := 43) (by decide +kernel) (by decide +kernel) rfl c9 ?_
        refine fs_aload_n (k := 0) (p := 44) (by decide +kernel) rfl rfl ?_
        refine fs_aload_n (k := 1) (p := 45) (by decide +kernel) rfl rfl ?_
        refine fs_iload_n (k := 3) (p := 46) (by decide +kernel) rfl rfl ?_
        obtain ⟨q11, w10, h⟩ := fx_bd h
        refine fs_callV (idx := 50) (mj := 11) (ci := 1) (na := 2) (mx := 6) (p := 49) (args := [.ref 62, .ref x1, .int x3]) (rest := []) (al2 := [some (.ref 62), some (.ref x1), some (.int x3), none, none, none]) (by decide +kernel) rfl (by decide +kernel) fo_62 rfl rfl rfl rfl rfl rfl rfl (by omega) (fun d' hd' => fe_11 (by omega) w10) rfl ?_
        refine fs_aload_n (k := 0) (p := 50) (by decide +kernel) rfl rfl ?_
        refine fs_gfr (idx := 15) (ci := 1) (j := 3) (p := 53) (by decide +kernel) rfl (by decide +kernel) fo_62 (fr_a62_3) ?_
        refine fs_aload_n (k := 0) (p := 54) (by decide +kernel) rfl rfl ?_
        refine fs_gfi (idx := 36) (ci := 1) (j := 2) (p := 57) (by decide +kernel) rfl (by decide +kernel) fo_62 ?_
        refine fs_aload_n (k := 1) (p := 58) (by decide +kernel) rfl rfl ?_
        refine fs_gfr (idx := 54) (ci := 6) (j := 1) (p := 61) (by decide +kernel) rfl (by decide +kernel) g1 (fr_6_1 g1) ?_
        refine fs_iload_n (k := 2) (p := 62) (by decide +kernel) rfl rfl ?_
        refine fs_bipush (n := 9) (p := 64) (by decide +kernel) rfl kb_9 ?_
        refine fs_imul (p := 65) (by decide +kernel) rfl ?_
        refine fs_iload_n (k := 3) (p := 66) (by decide +kernel) rfl rfl ?_
        refine fs_iadd (p := 67) (by decide +kernel) rfl ?_
        obtain ⟨v12, w13, h⟩ := fx_bd h
        refine fs_iaload (p := 68) (by decide +kernel) rfl w13 ?_
        obtain ⟨t15, w16, h⟩ := fx_bd h
        refine fs_iastore (p := 69) (by decide +kernel) rfl w16 ?_
        refine fs_aload_n (k := 0) (p := 70) (by decide +kernel) rfl rfl ?_
        refine fs_dup (p := 71) (by decide +kernel) rfl rfl ?_
        refine fs_gfl (idx := 40) (ci := 1) (j := 1) (p := 74) (by decide +kernel) rfl (by decide +kernel) fo_62 ?_
        refine fs_aload_n (k := 0) (p := 75) (by decide +kernel) rfl rfl ?_
        refine fs_gfr (idx := 15) (ci := 1) (j := 3) (p := 78) (by decide +kernel) rfl (by decide +kernel) fo_62 (fr_a62_3) ?_
        refine fs_aload_n (k := 0) (p := 79) (by decide +kernel) rfl rfl ?_
        refine fs_gfi (idx := 36) (ci := 1) (j := 2) (p := 82) (by decide +kernel) rfl (by decide +kernel) fo_62 ?_
        obtain ⟨v18, w19, h⟩ := fx_bd h
        refine fs_iaload (p := 83) (by decide +kernel) rfl w19 ?_
        refine fs_i2l (p := 84) (by decide +kernel) rfl ?_
        refine fs_ladd (p := 85) (by decide +kernel) rfl ?_
        refine fs_pfl (idx := 40) (ci := 1) (j := 1) (p := 88) (by decide +kernel) rfl (by decide +kernel) (by decide +kernel) fo_62 ?_
        refine fs_aload_n (k := 0) (p := 89) (by decide +kernel) rfl rfl ?_
        refine fs_dup (p := 90) (by decide +kernel) rfl rfl ?_
        refine fs_gfi (idx := 36) (ci := 1) (j := 2) (p := 93) (by decide +kernel) rfl (by decide +kernel) fo_62 ?_
        refine fs_iconst (n := 1) (p := 94) (by decide +kernel) rfl kc_1 ?_
        refine fs_iadd (p := 95) (by decide +kernel) rfl ?_
        refine fs_pfi (idx := 36) (ci := 1) (j := 2) (p := 98) (by decide +kernel) rfl (by decide +kernel) (by decide +kernel) fo_62 (fx_oki _ (by decide +kernel)) ?_
        exact fe_10_98 hd ih _ _ _ _ _ g1 h
def fm_10 (x1 : Nat) (x2 : Int32) (σ : fx_S) : Option (fx_S) :=
  if fx_oc x1 6 = true then (
  (fm_235 65 (0 : Int32) σ).bind fun q27 =>
  (fm_235 66 (0 : Int32) q27).bind fun q29 =>
  fm_10_28 100000 x1 x2 (0 : Int32) (fx_w2 (fx_w1 q29 62 2 (0 : Int32)) 62 1 (0 : Int64))) else none
theorem fe_10 {d : Nat} (hd : 2 ≤ d) {x1 : Nat} {x2 : Int32} {σ : fx_S} {q : fx_S} (h : fm_10 x1 x2 σ = some q) : fx_E none 10 d 0 [some (.ref 62), some (.ref x1), some (.int x2), none] [] σ none q := by
  unfold fm_10 at h
  obtain ⟨g1, h⟩ := fx_gd h
  refine fs_aload_n (k := 0) (p := 1) (by decide +kernel) rfl rfl ?_
  refine fs_gfr (idx := 18) (ci := 1) (j := 4) (p := 4) (by decide +kernel) rfl (by decide +kernel) fo_62 (fr_a62_4) ?_
  refine fs_iconst (n := 0) (p := 5) (by decide +kernel) rfl kc_0 ?_
  obtain ⟨q27, w26, h⟩ := fx_bd h
  refine fs_callS (idx := 30) (mj := 235) (na := 2) (mx := 4) (p := 8) (args := [.ref 65, .int (0 : Int32)]) (rest := []) (al2 := [some (.ref 65), some (.int (0 : Int32)), none, none]) (by decide +kernel) rfl (by decide +kernel) rfl rfl rfl rfl rfl rfl rfl (by omega) (fun d' hd' => fe_235 (by omega) w26) rfl ?_
  refine fs_aload_n (k := 0) (p := 9) (by decide +kernel) rfl rfl ?_
  refine fs_gfr (idx := 21) (ci := 1) (j := 5) (p := 12) (by decide +kernel) rfl (by decide +kernel) fo_62 (fr_a62_5) ?_
  refine fs_iconst (n := 0) (p := 13) (by decide +kernel) rfl kc_0 ?_
  obtain ⟨q29, w28, h⟩ := fx_bd h
  refine fs_callS (idx := 30) (mj := 235) (na := 2) (mx := 4) (p := 16) (args := [.ref 66, .int (0 : Int32)]) (rest := []) (al2 := [some (.ref 66), some (.int (0 : Int32)), none, none]) (by decide +kernel) rfl (by decide +kernel) rfl rfl rfl rfl rfl rfl rfl (by omega) (fun d' hd' => fe_235 (by omega) w28) rfl ?_
  refine fs_aload_n (k := 0) (p := 17) (by decide +kernel) rfl rfl ?_
  refine fs_iconst (n := 0) (p := 18) (by decide +kernel) rfl kc_0 ?_
  refine fs_pfi (idx := 36) (ci := 1) (j := 2) (p := 21) (by decide +kernel) rfl (by decide +kernel) (by decide +kernel) fo_62 (fx_oki _ (by decide +kernel)) ?_
  refine fs_aload_n (k := 0) (p := 22) (by decide +kernel) rfl rfl ?_
  refine fs_lconst (n := 0) (p := 23) (by decide +kernel) rfl kl_0 ?_
  refine fs_pfl (idx := 40) (ci := 1) (j := 1) (p := 26) (by decide +kernel) rfl (by decide +kernel) (by decide +kernel) fo_62 ?_
  refine fs_iconst (n := 0) (p := 27) (by decide +kernel) rfl kc_0 ?_
  refine fs_istore_n (k := 3) (p := 28) (M := 4) (al' := [some (.ref 62), some (.ref x1), some (.int x2), some (.int (0 : Int32))]) (by decide +kernel) rfl mx_10 rfl rfl ?_
  exact fe_10_28 hd 100000 _ _ _ _ _ g1 h

/-! ZoneShares$Group.shareUnknown()V -/
theorem mx_22 : iv_mx 22 = 5 := by decide +kernel
theorem rt_22 : iv_rt 22 = none := by decide +kernel
def fm_22_176 : Nat → Nat → Int32 → fx_S → Option (fx_S)
  | 0, _, _, _ => none
  | n + 1, x0, x3, σ =>
    if (8 : Int32) ≤ x3 then (
      some σ) else (
      (fx_ld σ (x0 + 1) x3).bind fun v3 =>
      (fx_ld σ ((x0 + 39) + 8) x3).bind fun v6 =>
      (fx_st σ (x0 + 1) x3 (v3 + v6)).bind fun t9 =>
      fm_22_176 n x0 (x3 + (1 : Int32)) t9)
theorem fe_22_176 {d : Nat} (hd : 3 ≤ d) : ∀ (n : Nat) (x0 : Nat) (x3 : Int32) (o1 : Option Value) (o2 : Option Value) (o4 : Option Value) (σ : fx_S) (q : fx_S) (g0 : fx_oc x0 2 = true), fm_22_176 n x0 x3 σ = some q → fx_E none 22 d 176 [some (.ref x0), o1, o2, some (.int x3), o4] [] σ none q := by
  intro n
  induction n with
  | zero =>
    intro x0 x3 o1 o2 o4 σ q g0 h
    rw [fm_22_176] at h
    exact fx_no h
  | succ n ih =>
    intro x0 x3 o1 o2 o4 σ q g0 h
    rw [fm_22_176] at h
    refine fs_iload_n (k := 3) (p := 177) (by decide +kernel) rfl rfl ?_
    refine fs_bipush (n := 8) (p := 179) (by decide +kernel) rfl kb_8 ?_
    by_cases c2 : (8 : Int32) ≤ x3
    · rw [if_pos c2] at h
      refine fs_icmp_ge_t (off := 27) (t := 206) (by decide +kernel) (by decide +kernel) c2 ?_
      have h := Option.some.inj h
      subst h
      exact fs_ret (by decide +kernel) rt_22
    · rw [if_neg c2] at h
      refine fs_icmp_ge_f (off := 27) (t := 206) (p := 182) (by decide +kernel) (by decide +kernel) rfl c2 ?_
      refine fs_aload_n (k := 0) (p := 183) (by decide +kernel) rfl rfl ?_
      refine fs_gfr (idx := 9) (ci := 2) (j := 0) (p := 186) (by decide +kernel) rfl (by decide +kernel) g0 (fr_2_0 g0) ?_
      refine fs_iload_n (k := 3) (p := 187) (by decide +kernel) rfl rfl ?_
      refine fs_dup2 (p := 188) (by decide +kernel) rfl rfl rfl ?_
      obtain ⟨v3, w4, h⟩ := fx_bd h
      refine fs_iaload (p := 189) (by decide +kernel) rfl w4 ?_
      refine fs_aload_n (k := 0) (p := 190) (by decide +kernel) rfl rfl ?_
      refine fs_gfr (idx := 34) (ci := 2) (j := 12) (p := 193) (by decide +kernel) rfl (by decide +kernel) g0 (fr_2_12 g0) ?_
      refine fs_gfr (idx := 123) (ci := 7) (j := 7) (p := 196) (by decide +kernel) rfl (by decide +kernel) (fg_2_12 g0) (fr_7_7 (fg_2_12 g0)) ?_
      refine fs_iload_n (k := 3) (p := 197) (by decide +kernel) rfl rfl ?_
      obtain ⟨v6, w7, h⟩ := fx_bd h
      refine fs_iaload (p := 198) (by decide +kernel) rfl w7 ?_
      refine fs_iadd (p := 199) (by decide +kernel) rfl ?_
      obtain ⟨t9, w10, h⟩ := fx_bd h
      refine fs_iastore (p := 200) (by decide +kernel) rfl w10 ?_
      refine fs_iinc (k := 3) (n := 1) (p := 203) (M := 5) (al' := [some (.ref x0), o1, (fx_kl o2), some (.int (x3 + (1 : Int32))), o4]) (by decide +kernel) rfl kc_1 mx_22 rfl rfl rfl ?_
      refine fs_goto (off := -27) (p := 176) (by decide +kernel) (by decide +kernel) ?_
      exact ih _ _ _ _ _ _ _ g0 h
def fm_22_139 (x0 : Nat) (s0 : Nat) (s1 : Int32) (σ : fx_S) : Option (fx_S) :=
  (fx_st (fx_w1 σ s0 7 s1) ((x0 + 39) + 1) (0 : Int32) (((fx_w1 σ s0 7 s1).1 x0 6) - ((fx_w1 σ s0 7 s1).1 x0 7))).bind fun t1 =>
  (fm_70 (x0 + 39) t1).bind fun q4 =>
  (fm_74 (x0 + 39) q4).bind fun q6 =>
  fm_22_176 100000 x0 (0 : Int32) q6
theorem fe_22_139 {d : Nat} (hd : 3 ≤ d) (x0 : Nat) (s0 : Nat) (s1 : Int32) (o1 : Option Value) (o2 : Option Value) (o3 : Option Value) (o4 : Option Value) (σ : fx_S) (q : fx_S) (g0 : fx_oc x0 2 = true) (gs0 : fx_oc s0 2 = true) (h : fm_22_139  x0 s0 s1 σ = some q) : fx_E none 22 d 139 [some (.ref x0), o1, o2, o3, o4] [.int s1, .ref s0] σ none q := by
  unfold fm_22_139 at h
  refine fs_pfi (idx := 111) (ci := 2) (j := 7) (p := 142) (by decide +kernel) rfl (by decide +kernel) (by decide +kernel) gs0 (fx_oki _ (by decide +kernel)) ?_
  refine fs_aload_n (k := 0) (p := 143) (by decide +kernel) rfl rfl ?_
  refine fs_gfr (idx := 34) (ci := 2) (j := 12) (p := 146) (by decide +kernel) rfl (by decide +kernel) g0 (fr_2_12 g0) ?_
  refine fs_gfr (idx := 114) (ci := 7) (j := 0) (p := 149) (by decide +kernel) rfl (by decide +kernel) (fg_2_12 g0) (fr_7_0 (fg_2_12 g0)) ?_
  refine fs_iconst (n := 0) (p := 150) (by decide +kernel) rfl kc_0 ?_
  refine fs_aload_n (k := 0) (p := 151) (by decide +kernel) rfl rfl ?_
  refine fs_gfi (idx := 106) (ci := 2) (j := 6) (p := 154) (by decide +kernel) rfl (by decide +kernel) g0 ?_
  refine fs_aload_n (k := 0) (p := 155) (by decide +kernel) rfl rfl ?_
  refine fs_gfi (idx := 111) (ci := 2) (j := 7) (p := 158) (by decide +kernel) rfl (by decide +kernel) g0 ?_
  refine fs_isub (p := 159) (by decide +kernel) rfl ?_
  obtain ⟨t1, w2, h⟩ := fx_bd h
  refine fs_iastore (p := 160) (by decide +kernel) rfl w2 ?_
  refine fs_aload_n (k := 0) (p := 161) (by decide +kernel) rfl rfl ?_
  refine fs_gfr (idx := 34) (ci := 2) (j := 12) (p := 164) (by decide +kernel) rfl (by decide +kernel) g0 (fr_2_12 g0) ?_
  obtain ⟨q4, w3, h⟩ := fx_bd h
  refine fs_callV (idx := 117) (mj := 70) (ci := 7) (na := 0) (mx := 3) (p := 167) (args := [.ref (x0 + 39)]) (rest := []) (al2 := [some (.ref (x0 + 39)), none, none]) (by decide +kernel) rfl (by decide +kernel) (fg_2_12 g0) rfl rfl rfl rfl rfl rfl rfl (by omega) (fun d' hd' => fe_70 (by omega) w3) rfl ?_
  refine fs_aload_n (k := 0) (p := 168) (by decide +kernel) rfl rfl ?_
  refine fs_gfr (idx := 34) (ci := 2) (j := 12) (p := 171) (by decide +kernel) rfl (by decide +kernel) g0 (fr_2_12 g0) ?_
  obtain ⟨q6, w5, h⟩ := fx_bd h
  refine fs_callV (idx := 120) (mj := 74) (ci := 7) (na := 0) (mx := 4) (p := 174) (args := [.ref (x0 + 39)]) (rest := []) (al2 := [some (.ref (x0 + 39)), none, none, none]) (by decide +kernel) rfl (by decide +kernel) (fg_2_12 g0) rfl rfl rfl rfl rfl rfl rfl (by omega) (fun d' hd' => fe_74 (by omega) w5) rfl ?_
  refine fs_iconst (n := 0) (p := 175) (by decide +kernel) rfl kc_0 ?_
  refine fs_istore_n (k := 3) (p := 176) (M := 5) (al' := [some (.ref x0), o1, (fx_kl o2), some (.int (0 : Int32)), o4]) (by decide +kernel) rfl mx_22 rfl rfl ?_
  exact fe_22_176 hd 100000 _ _ _ _ _ _ _ g0 h
def fm_22_131 (x0 : Nat) (s0 : Nat) (σ : fx_S) : Option (fx_S) :=
  fm_22_139 x0 s0 (σ.1 x0 6) σ
theorem fe_22_131 {d : Nat} (hd : 3 ≤ d) (x0 : Nat) (s0 : Nat) (o1 : Option Value) (o2 : Option Value) (o3 : Option Value) (o4 : Option Value) (σ : fx_S) (q : fx_S) (g0 : fx_oc x0 2 = true) (gs0 : fx_oc s0 2 = true) (h : fm_22_131  x0 s0 σ = some q) : fx_E none 22 d 131 [some (.ref x0), o1, o2, o3, o4] [.ref s0] σ none q := by
  unfold fm_22_131 at h
  refine fs_aload_n (k := 0) (p := 132) (by decide +kernel) rfl rfl ?_
  refine fs_gfi (idx := 106) (ci := 2) (j := 6) (p := 135) (by decide +kernel) rfl (by decide +kernel) g0 ?_
  refine fs_goto (off := 4) (p := 139) (by decide +kernel) (by decide +kernel) ?_
  exact fe_22_139 hd _ _ _ _ _ _ _ _ _ g0 gs0 h
def fm_22_61 (k_13 : Nat → Int32 → Int32 → Int32 → fx_S → Option (fx_S)) (x0 : Nat) (x1 : Int32) (x2 : Int32) (x3 : Int32) (x4 : Int32) (s0 : Nat) (s1 : Int32) (s2 : Int32) (σ : fx_S) : Option (fx_S) :=
  (fx_st σ s0 s1 s2).bind fun t1 =>
  (fx_ld t1 (x0 + 1) x3).bind fun v5 =>
  (fm_69 (x0 + 39) (0 : Int32) x3 v5 x4 t1).bind fun q9 =>
  (fx_ld q9 (x0 + 1) x3).bind fun v10 =>
  k_13 x0 (x1 + v10) (x2 + x4) (x3 + (1 : Int32)) q9
theorem fe_22_61 {d : Nat} (hd : 3 ≤ d) {k_13 : Nat → Int32 → Int32 → Int32 → fx_S → Option (fx_S)} (hk_13 : ∀ (x0 : Nat) (x1 : Int32) (x2 : Int32) (x3 : Int32) (o4 : Option Value) (σ : fx_S) (q : fx_S) (g0 : fx_oc x0 2 = true), k_13 x0 x1 x2 x3 σ = some q → fx_E none 22 d 13 [some (.ref x0), some (.int x1), some (.int x2), some (.int x3), o4] [] σ none q) (x0 : Nat) (x1 : Int32) (x2 : Int32) (x3 : Int32) (x4 : Int32) (s0 : Nat) (s1 : Int32) (s2 : Int32) (σ : fx_S) (q : fx_S) (g0 : fx_oc x0 2 = true) (h : fm_22_61 k_13  x0 x1 x2 x3 x4 s0 s1 s2 σ = some q) : fx_E none 22 d 61 [some (.ref x0), some (.int x1), some (.int x2), some (.int x3), some (.int x4)] [.int s2, .int s1, .ref s0] σ none q := by
  unfold fm_22_61 at h
  obtain ⟨t1, w2, h⟩ := fx_bd h
  refine fs_iastore (p := 62) (by decide +kernel) rfl w2 ?_
  refine fs_aload_n (k := 0) (p := 63) (by decide +kernel) rfl rfl ?_
  refine fs_gfr (idx := 34) (ci := 2) (j := 12) (p := 66) (by decide +kernel) rfl (by decide +kernel) g0 (fr_2_12 g0) ?_
  refine fs_iconst (n := 0) (p := 67) (by decide +kernel) rfl kc_0 ?_
  refine fs_iload_n (k := 3) (p := 68) (by decide +kernel) rfl rfl ?_
  refine fs_aload_n (k := 0) (p := 69) (by decide +kernel) rfl rfl ?_
  refine fs_gfr (idx := 9) (ci := 2) (j := 0) (p := 72) (by decide +kernel) rfl (by decide +kernel) g0 (fr_2_0 g0) ?_
  refine fs_iload_n (k := 3) (p := 73) (by decide +kernel) rfl rfl ?_
  obtain ⟨v5, w6, h⟩ := fx_bd h
  refine fs_iaload (p := 74) (by decide +kernel) rfl w6 ?_
  refine fs_iload (k := 4) (p := 76) (by decide +kernel) rfl rfl ?_
  obtain ⟨q9, w8, h⟩ := fx_bd h
  refine fs_callV (idx := 98) (mj := 69) (ci := 7) (na := 4) (mx := 6) (p := 79) (args := [.ref (x0 + 39), .int (0 : Int32), .int x3, .int v5, .int x4]) (rest := []) (al2 := [some (.ref (x0 + 39)), some (.int (0 : Int32)), some (.int x3), some (.int v5), some (.int x4), none]) (by decide +kernel) rfl (by decide +kernel) (fg_2_12 g0) rfl rfl rfl rfl rfl rfl rfl (by omega) (fun d' hd' => fe_69 (by omega) w8) rfl ?_
  refine fs_iload_n (k := 1) (p := 80) (by decide +kernel) rfl rfl ?_
  refine fs_aload_n (k := 0) (p := 81) (by decide +kernel) rfl rfl ?_
  refine fs_gfr (idx := 9) (ci := 2) (j := 0) (p := 84) (by decide +kernel) rfl (by decide +kernel) g0 (fr_2_0 g0) ?_
  refine fs_iload_n (k := 3) (p := 85) (by decide +kernel) rfl rfl ?_
  obtain ⟨v10, w11, h⟩ := fx_bd h
  refine fs_iaload (p := 86) (by decide +kernel) rfl w11 ?_
  refine fs_iadd (p := 87) (by decide +kernel) rfl ?_
  refine fs_istore_n (k := 1) (p := 88) (M := 5) (al' := [some (.ref x0), some (.int (x1 + v10)), some (.int x2), some (.int x3), some (.int x4)]) (by decide +kernel) rfl mx_22 rfl rfl ?_
  refine fs_iload_n (k := 2) (p := 89) (by decide +kernel) rfl rfl ?_
  refine fs_iload (k := 4) (p := 91) (by decide +kernel) rfl rfl ?_
  refine fs_iadd (p := 92) (by decide +kernel) rfl ?_
  refine fs_istore_n (k := 2) (p := 93) (M := 5) (al' := [some (.ref x0), some (.int (x1 + v10)), some (.int (x2 + x4)), some (.int x3), some (.int x4)]) (by decide +kernel) rfl mx_22 rfl rfl ?_
  refine fs_iinc (k := 3) (n := 1) (p := 96) (M := 5) (al' := [some (.ref x0), some (.int (x1 + v10)), some (.int (x2 + x4)), some (.int (x3 + (1 : Int32))), some (.int x4)]) (by decide +kernel) rfl kc_1 mx_22 rfl rfl rfl ?_
  refine fs_goto (off := -83) (p := 13) (by decide +kernel) (by decide +kernel) ?_
  exact hk_13 _ _ _ _ _ _ _ g0 h
def fm_22_13 : Nat → Nat → Int32 → Int32 → Int32 → fx_S → Option (fx_S)
  | 0, _, _, _, _, _ => none
  | n + 1, x0, x1, x2, x3, σ =>
    if (8 : Int32) ≤ x3 then (
      (fm_66 1 (σ.1 x0 9) σ).bind fun q4 =>
      if ((fx_w1 q4.2 x0 6 (q4.1 - x1)).1 1 8) = 0 then (
        fm_22_131 x0 x0 (fx_w1 q4.2 x0 6 (q4.1 - x1))) else (
        if ¬ x2 = 0 then (
          fm_22_139 x0 x0 (0 : Int32) (fx_w1 q4.2 x0 6 (q4.1 - x1))) else (
          fm_22_131 x0 x0 (fx_w1 q4.2 x0 6 (q4.1 - x1))))) else (
      (fm_62 1 (0 : Int32) x3 σ).bind fun q10 =>
      if q10.1 ≤ 0 then (
        fm_22_61 (fm_22_13 n) x0 x1 x2 x3 q10.1 (x0 + 1) x3 (0 : Int32) q10.2) else (
        (fx_ld q10.2 3 (((q10.2.1 x0 9) * (9 : Int32)) + x3)).bind fun v13 =>
        fm_22_61 (fm_22_13 n) x0 x1 x2 x3 q10.1 (x0 + 1) x3 v13 q10.2))
theorem fe_22_13 {d : Nat} (hd : 3 ≤ d) : ∀ (n : Nat) (x0 : Nat) (x1 : Int32) (x2 : Int32) (x3 : Int32) (o4 : Option Value) (σ : fx_S) (q : fx_S) (g0 : fx_oc x0 2 = true), fm_22_13 n x0 x1 x2 x3 σ = some q → fx_E none 22 d 13 [some (.ref x0), some (.int x1), some (.int x2), some (.int x3), o4] [] σ none q := by
  intro n
  induction n with
  | zero =>
    intro x0 x1 x2 x3 o4 σ q g0 h
    rw [fm_22_13] at h
    exact fx_no h
  | succ n ih =>
    intro x0 x1 x2 x3 o4 σ q g0 h
    rw [fm_22_13] at h
    refine fs_iload_n (k := 3) (p := 14) (by decide +kernel) rfl rfl ?_
    refine fs_bipush (n := 8) (p := 16) (by decide +kernel) rfl kb_8 ?_
    by_cases c2 : (8 : Int32) ≤ x3
    · rw [if_pos c2] at h
      refine fs_icmp_ge_t (off := 83) (t := 99) (by decide +kernel) (by decide +kernel) c2 ?_
      refine fs_aload_n (k := 0) (p := 100) (by decide +kernel) rfl rfl ?_
      refine fs_aload_n (k := 0) (p := 101) (by decide +kernel) rfl rfl ?_
      refine fs_gfr (idx := 41) (ci := 2) (j := 10) (p := 104) (by decide +kernel) rfl (by decide +kernel) g0 (fr_2_10 g0) ?_
      refine fs_aload_n (k := 0) (p := 105) (by decide +kernel) rfl rfl ?_
      refine fs_gfi (idx := 37) (ci := 2) (j := 9) (p := 108) (by decide +kernel) rfl (by decide +kernel) g0 ?_
      obtain ⟨q4, w3, h⟩ := fx_bd h
      refine fs_callV (idx := 102) (mj := 66) (ci := 6) (na := 1) (mx := 4) (p := 111) (args := [.ref 1, .int (σ.1 x0 9)]) (rest := [.ref x0]) (al2 := [some (.ref 1), some (.int (σ.1 x0 9)), none, none]) (by decide +kernel) rfl (by decide +kernel) fo_1 rfl rfl rfl rfl rfl rfl rfl (by omega) (fun d' hd' => fe_66 (by omega) w3) rfl ?_
      refine fs_iload_n (k := 1) (p := 112) (by decide +kernel) rfl rfl ?_
      refine fs_isub (p := 113) (by decide +kernel) rfl ?_
      refine fs_pfi (idx := 106) (ci := 2) (j := 6) (p := 116) (by decide +kernel) rfl (by decide +kernel) (by decide +kernel) g0 (fx_oki _ (by decide +kernel)) ?_
      refine fs_aload_n (k := 0) (p := 117) (by decide +kernel) rfl rfl ?_
      refine fs_aload_n (k := 0) (p := 118) (by decide +kernel) rfl rfl ?_
      refine fs_gfr (idx := 41) (ci := 2) (j := 10) (p := 121) (by decide +kernel) rfl (by decide +kernel) g0 (fr_2_10 g0) ?_
      refine fs_gfi (idx := 109) (ci := 6) (j := 8) (p := 124) (by decide +kernel) rfl (by decide +kernel) fo_1 ?_
      by_cases c6 : ((fx_w1 q4.2 x0 6 (q4.1 - x1)).1 1 8) = 0
      · rw [if_pos c6] at h
        refine fs_if_eq_t (off := 7) (t := 131) (by decide +kernel) (by decide +kernel) c6 ?_
        exact fe_22_131 hd _ _ _ _ _ _ _ _ g0 g0 h
      · rw [if_neg c6] at h
        refine fs_if_eq_f (off := 7) (t := 131) (p := 127) (by decide +kernel) (by decide +kernel) rfl c6 ?_
        refine fs_iload_n (k := 2) (p := 128) (by decide +kernel) rfl rfl ?_
        by_cases c8 : ¬ x2 = 0
        · rw [if_pos c8] at h
          refine fs_if_ne_t (off := 10) (t := 138) (by decide +kernel) (by decide +kernel) c8 ?_
          refine fs_iconst (n := 0) (p := 139) (by decide +kernel) rfl kc_0 ?_
          exact fe_22_139 hd _ _ _ _ _ _ _ _ _ g0 g0 h
        · rw [if_neg c8] at h
          refine fs_if_ne_f (off := 10) (t := 138) (p := 131) (by decide +kernel) (by decide +kernel) rfl c8 ?_
          exact fe_22_131 hd _ _ _ _ _ _ _ _ g0 g0 h
    · rw [if_neg c2] at h
      refine fs_icmp_ge_f (off := 83) (t := 99) (p := 19) (by decide +kernel) (by decide +kernel) rfl c2 ?_
      refine fs_aload_n (k := 0) (p := 20) (by decide +kernel) rfl rfl ?_
      refine fs_gfr (idx := 41) (ci := 2) (j := 10) (p := 23) (by decide +kernel) rfl (by decide +kernel) g0 (fr_2_10 g0) ?_
      refine fs_iconst (n := 0) (p := 24) (by decide +kernel) rfl kc_0 ?_
      refine fs_iload_n (k := 3) (p := 25) (by decide +kernel) rfl rfl ?_
      obtain ⟨q10, w9, h⟩ := fx_bd h
      refine fs_callV (idx := 91) (mj := 62) (ci := 6) (na := 2) (mx := 6) (p := 28) (args := [.ref 1, .int (0 : Int32), .int x3]) (rest := []) (al2 := [some (.ref 1), some (.int (0 : Int32)), some (.int x3), none, none, none]) (by decide +kernel) rfl (by decide +kernel) fo_1 rfl rfl rfl rfl rfl rfl rfl (by omega) (fun d' hd' => fe_62 (by omega) w9) rfl ?_
      refine fs_istore (k := 4) (p := 30) (M := 5) (al' := [some (.ref x0), some (.int x1), some (.int x2), some (.int x3), some (.int q10.1)]) (by decide +kernel) rfl mx_22 rfl rfl ?_
      refine fs_aload_n (k := 0) (p := 31) (by decide +kernel) rfl rfl ?_
      refine fs_gfr (idx := 9) (ci := 2) (j := 0) (p := 34) (by decide +kernel) rfl (by decide +kernel) g0 (fr_2_0 g0) ?_
      refine fs_iload_n (k := 3) (p := 35) (by decide +kernel) rfl rfl ?_
      refine fs_iload (k := 4) (p := 37) (by decide +kernel) rfl rfl ?_
      by_cases c12 : q10.1 ≤ 0
      · rw [if_pos c12] at h
        refine fs_if_le_t (off := 23) (t := 60) (by decide +kernel) (by decide +kernel) c12 ?_
        refine fs_iconst (n := 0) (p := 61) (by decide +kernel) rfl kc_0 ?_
        exact fe_22_61 hd ih _ _ _ _ _ _ _ _ _ _ g0 h
      · rw [if_neg c12] at h
        refine fs_if_le_f (off := 23) (t := 60) (p := 40) (by decide +kernel) (by decide +kernel) rfl c12 ?_
        refine fs_aload_n (k := 0) (p := 41) (by decide +kernel) rfl rfl ?_
        refine fs_gfr (idx := 41) (ci := 2) (j := 10) (p := 44) (by decide +kernel) rfl (by decide +kernel) g0 (fr_2_10 g0) ?_
        refine fs_gfr (idx := 95) (ci := 6) (j := 1) (p := 47) (by decide +kernel) rfl (by decide +kernel) fo_1 (fr_a1_1) ?_
        refine fs_aload_n (k := 0) (p := 48) (by decide +kernel) rfl rfl ?_
        refine fs_gfi (idx := 37) (ci := 2) (j := 9) (p := 51) (by decide +kernel) rfl (by decide +kernel) g0 ?_
        refine fs_bipush (n := 9) (p := 53) (by decide +kernel) rfl kb_9 ?_
        refine fs_imul (p := 54) (by decide +kernel) rfl ?_
        refine fs_iload_n (k := 3) (p := 55) (by decide +kernel) rfl rfl ?_
        refine fs_iadd (p := 56) (by decide +kernel) rfl ?_
        obtain ⟨v13, w14, h⟩ := fx_bd h
        refine fs_iaload (p := 57) (by decide +kernel) rfl w14 ?_
        refine fs_goto (off := 4) (p := 61) (by decide +kernel) (by decide +kernel) ?_
        exact fe_22_61 hd ih _ _ _ _ _ _ _ _ _ _ g0 h
def fm_22 (x0 : Nat) (σ : fx_S) : Option (fx_S) :=
  if fx_oc x0 2 = true then (
  (fm_68 (x0 + 39) σ).bind fun q67 =>
  fm_22_13 100000 x0 (0 : Int32) (0 : Int32) (0 : Int32) q67) else none
theorem fe_22 {d : Nat} (hd : 3 ≤ d) {x0 : Nat} {σ : fx_S} {q : fx_S} (h : fm_22 x0 σ = some q) : fx_E none 22 d 0 [some (.ref x0), none, none, none, none] [] σ none q := by
  unfold fm_22 at h
  obtain ⟨g0, h⟩ := fx_gd h
  refine fs_aload_n (k := 0) (p := 1) (by decide +kernel) rfl rfl ?_
  refine fs_gfr (idx := 34) (ci := 2) (j := 12) (p := 4) (by decide +kernel) rfl (by decide +kernel) g0 (fr_2_12 g0) ?_
  obtain ⟨q67, w66, h⟩ := fx_bd h
  refine fs_callV (idx := 88) (mj := 68) (ci := 7) (na := 0) (mx := 1) (p := 7) (args := [.ref (x0 + 39)]) (rest := []) (al2 := [some (.ref (x0 + 39))]) (by decide +kernel) rfl (by decide +kernel) (fg_2_12 g0) rfl rfl rfl rfl rfl rfl rfl (by omega) (fun d' hd' => fe_68 (by omega) w66) rfl ?_
  refine fs_iconst (n := 0) (p := 8) (by decide +kernel) rfl kc_0 ?_
  refine fs_istore_n (k := 1) (p := 9) (M := 5) (al' := [some (.ref x0), some (.int (0 : Int32)), none, none, none]) (by decide +kernel) rfl mx_22 rfl rfl ?_
  refine fs_iconst (n := 0) (p := 10) (by decide +kernel) rfl kc_0 ?_
  refine fs_istore_n (k := 2) (p := 11) (M := 5) (al' := [some (.ref x0), some (.int (0 : Int32)), some (.int (0 : Int32)), none, none]) (by decide +kernel) rfl mx_22 rfl rfl ?_
  refine fs_iconst (n := 0) (p := 12) (by decide +kernel) rfl kc_0 ?_
  refine fs_istore_n (k := 3) (p := 13) (M := 5) (al' := [some (.ref x0), some (.int (0 : Int32)), some (.int (0 : Int32)), some (.int (0 : Int32)), none]) (by decide +kernel) rfl mx_22 rfl rfl ?_
  exact fe_22_13 hd 100000 _ _ _ _ _ _ _ g0 h

/-! ZoneShares$Group.fillMoves()V -/
theorem mx_23 : iv_mx 23 = 4 := by decide +kernel
theorem rt_23 : iv_rt 23 = none := by decide +kernel
def fm_23_86 (k_35 : Nat → Int32 → Int32 → fx_S → Option (fx_S)) (x0 : Nat) (x1 : Int32) (x2 : Int32) (σ : fx_S) : Option (fx_S) :=
  k_35 x0 x1 (x2 + (1 : Int32)) σ
theorem fe_23_86 {d : Nat} (hd : 2 ≤ d) {k_35 : Nat → Int32 → Int32 → fx_S → Option (fx_S)} (hk_35 : ∀ (x0 : Nat) (x1 : Int32) (x2 : Int32) (o3 : Option Value) (σ : fx_S) (q : fx_S) (g0 : fx_oc x0 2 = true), k_35 x0 x1 x2 σ = some q → fx_E none 23 d 35 [some (.ref x0), some (.int x1), some (.int x2), o3] [] σ none q) (x0 : Nat) (x1 : Int32) (x2 : Int32) (o3 : Option Value) (σ : fx_S) (q : fx_S) (g0 : fx_oc x0 2 = true) (h : fm_23_86 k_35  x0 x1 x2 σ = some q) : fx_E none 23 d 86 [some (.ref x0), some (.int x1), some (.int x2), o3] [] σ none q := by
  unfold fm_23_86 at h
  refine fs_iinc (k := 2) (n := 1) (p := 89) (M := 4) (al' := [some (.ref x0), some (.int x1), some (.int (x2 + (1 : Int32))), o3]) (by decide +kernel) rfl kc_1 mx_23 rfl rfl rfl ?_
  refine fs_goto (off := -54) (p := 35) (by decide +kernel) (by decide +kernel) ?_
  exact hk_35 _ _ _ _ _ _ g0 h
def fm_23_35 : Nat → Nat → Int32 → Int32 → fx_S → Option (fx_S)
  | 0, _, _, _, _ => none
  | n + 1, x0, x1, x2, σ =>
    if x1 ≤ x2 then (
      some σ) else (
      (fm_60 1 (0 : Int32) x2 σ).bind fun q5 =>
      if (8 : Int32) ≤ q5.1 then (
        fm_23_86 (fm_23_35 n) x0 x1 x2 q5.2) else (
        (fm_60 1 (1 : Int32) x2 q5.2).bind fun q9 =>
        (fm_61 1 (q9.2.1 x0 9) x2 q9.2).bind fun q11 =>
        (fm_69 (x0 + 3) q5.1 q9.1 q11.1 (1 : Int32) q11.2).bind fun q13 =>
        fm_23_86 (fm_23_35 n) x0 x1 x2 q13))
theorem fe_23_35 {d : Nat} (hd : 2 ≤ d) : ∀ (n : Nat) (x0 : Nat) (x1 : Int32) (x2 : Int32) (o3 : Option Value) (σ : fx_S) (q : fx_S) (g0 : fx_oc x0 2 = true), fm_23_35 n x0 x1 x2 σ = some q → fx_E none 23 d 35 [some (.ref x0), some (.int x1), some (.int x2), o3] [] σ none q := by
  intro n
  induction n with
  | zero =>
    intro x0 x1 x2 o3 σ q g0 h
    rw [fm_23_35] at h
    exact fx_no h
  | succ n ih =>
    intro x0 x1 x2 o3 σ q g0 h
    rw [fm_23_35] at h
    refine fs_iload_n (k := 2) (p := 36) (by decide +kernel) rfl rfl ?_
    refine fs_iload_n (k := 1) (p := 37) (by decide +kernel) rfl rfl ?_
    by_cases c3 : x1 ≤ x2
    · rw [if_pos c3] at h
      refine fs_icmp_ge_t (off := 55) (t := 92) (by decide +kernel) (by decide +kernel) c3 ?_
      have h := Option.some.inj h
      subst h
      exact fs_ret (by decide +kernel) rt_23
    · rw [if_neg c3] at h
      refine fs_icmp_ge_f (off := 55) (t := 92) (p := 40) (by decide +kernel) (by decide +kernel) rfl c3 ?_
      refine fs_aload_n (k := 0) (p := 41) (by decide +kernel) rfl rfl ?_
      refine fs_gfr (idx := 41) (ci := 2) (j := 10) (p := 44) (by decide +kernel) rfl (by decide +kernel) g0 (fr_2_10 g0) ?_
      refine fs_iconst (n := 0) (p := 45) (by decide +kernel) rfl kc_0 ?_
      refine fs_iload_n (k := 2) (p := 46) (by decide +kernel) rfl rfl ?_
      obtain ⟨q5, w4, h⟩ := fx_bd h
      refine fs_callV (idx := 136) (mj := 60) (ci := 6) (na := 2) (mx := 3) (p := 49) (args := [.ref 1, .int (0 : Int32), .int x2]) (rest := []) (al2 := [some (.ref 1), some (.int (0 : Int32)), some (.int x2)]) (by decide +kernel) rfl (by decide +kernel) fo_1 rfl rfl rfl rfl rfl rfl rfl (by omega) (fun d' hd' => fe_60 (by omega) w4) rfl ?_
      refine fs_istore_n (k := 3) (p := 50) (M := 4) (al' := [some (.ref x0), some (.int x1), some (.int x2), some (.int q5.1)]) (by decide +kernel) rfl mx_23 rfl rfl ?_
      refine fs_iload_n (k := 3) (p := 51) (by decide +kernel) rfl rfl ?_
      refine fs_bipush (n := 8) (p := 53) (by decide +kernel) rfl kb_8 ?_
      by_cases c7 : (8 : Int32) ≤ q5.1
      · rw [if_pos c7] at h
        refine fs_icmp_ge_t (off := 33) (t := 86) (by decide +kernel) (by decide +kernel) c7 ?_
        exact fe_23_86 hd ih _ _ _ _ _ _ g0 h
      · rw [if_neg c7] at h
        refine fs_icmp_ge_f (off := 33) (t := 86) (p := 56) (by decide +kernel) (by decide +kernel) rfl c7 ?_
        refine fs_aload_n (k := 0) (p := 57) (by decide +kernel) rfl rfl ?_
        refine fs_gfr (idx := 21) (ci := 2) (j := 2) (p := 60) (by decide +kernel) rfl (by decide +kernel) g0 (fr_2_2 g0) ?_
        refine fs_iload_n (k := 3) (p := 61) (by decide +kernel) rfl rfl ?_
        refine fs_aload_n (k := 0) (p := 62) (by decide +kernel) rfl rfl ?_
        refine fs_gfr (idx := 41) (ci := 2) (j := 10) (p := 65) (by decide +kernel) rfl (by decide +kernel) g0 (fr_2_10 g0) ?_
        refine fs_iconst (n := 1) (p := 66) (by decide +kernel) rfl kc_1 ?_
        refine fs_iload_n (k := 2) (p := 67) (by decide +kernel) rfl rfl ?_
        obtain ⟨q9, w8, h⟩ := fx_bd h
        refine fs_callV (idx := 136) (mj := 60) (ci := 6) (na := 2) (mx := 3) (p := 70) (args := [.ref 1, .int (1 : Int32), .int x2]) (rest := [.int q5.1, .ref (x0 + 3)]) (al2 := [some (.ref 1), some (.int (1 : Int32)), some (.int x2)]) (by decide +kernel) rfl (by decide +kernel) fo_1 rfl rfl rfl rfl rfl rfl rfl (by omega) (fun d' hd' => fe_60 (by omega) w8) rfl ?_
        refine fs_aload_n (k := 0) (p := 71) (by decide +kernel) rfl rfl ?_
        refine fs_gfr (idx := 41) (ci := 2) (j := 10) (p := 74) (by decide +kernel) rfl (by decide +kernel) g0 (fr_2_10 g0) ?_
        refine fs_aload_n (k := 0) (p := 75) (by decide +kernel) rfl rfl ?_
        refine fs_gfi (idx := 37) (ci := 2) (j := 9) (p := 78) (by decide +kernel) rfl (by decide +kernel) g0 ?_
        refine fs_iload_n (k := 2) (p := 79) (by decide +kernel) rfl rfl ?_
        obtain ⟨q11, w10, h⟩ := fx_bd h
        refine fs_callV (idx := 139) (mj := 61) (ci := 6) (na := 2) (mx := 3) (p := 82) (args := [.ref 1, .int (q9.2.1 x0 9), .int x2]) (rest := [.int q9.1, .int q5.1, .ref (x0 + 3)]) (al2 := [some (.ref 1), some (.int (q9.2.1 x0 9)), some (.int x2)]) (by decide +kernel) rfl (by decide +kernel) fo_1 rfl rfl rfl rfl rfl rfl rfl (by omega) (fun d' hd' => fe_61 (by omega) w10) rfl ?_
        refine fs_iconst (n := 1) (p := 83) (by decide +kernel) rfl kc_1 ?_
        obtain ⟨q13, w12, h⟩ := fx_bd h
        refine fs_callV (idx := 98) (mj := 69) (ci := 7) (na := 4) (mx := 6) (p := 86) (args := [.ref (x0 + 3), .int q5.1, .int q9.1, .int q11.1, .int (1 : Int32)]) (rest := []) (al2 := [some (.ref (x0 + 3)), some (.int q5.1), some (.int q9.1), some (.int q11.1), some (.int (1 : Int32)), none]) (by decide +kernel) rfl (by decide +kernel) (fg_2_2 g0) rfl rfl rfl rfl rfl rfl rfl (by omega) (fun d' hd' => fe_69 (by omega) w12) rfl ?_
        exact fe_23_86 hd ih _ _ _ _ _ _ g0 h
def fm_23 (x0 : Nat) (σ : fx_S) : Option (fx_S) :=
  if fx_oc x0 2 = true then (
  (fm_68 (x0 + 3) σ).bind fun q34 =>
  (fx_cpy q34 (x0 + 1) (0 : Int32) ((x0 + 3) + 1) (0 : Int32) (8 : Int32)).bind fun t35 =>
  (fm_58 1 t35).bind fun q38 =>
  fm_23_35 100000 x0 q38.1 (0 : Int32) q38.2) else none
theorem fe_23 {d : Nat} (hd : 2 ≤ d) {x0 : Nat} {σ : fx_S} {q : fx_S} (h : fm_23 x0 σ = some q) : fx_E none 23 d 0 [some (.ref x0), none, none, none] [] σ none q := by
  unfold fm_23 at h
  obtain ⟨g0, h⟩ := fx_gd h
  refine fs_aload_n (k := 0) (p := 1) (by decide +kernel) rfl rfl ?_
  refine fs_gfr (idx := 21) (ci := 2) (j := 2) (p := 4) (by decide +kernel) rfl (by decide +kernel) g0 (fr_2_2 g0) ?_
  obtain ⟨q34, w33, h⟩ := fx_bd h
  refine fs_callV (idx := 88) (mj := 68) (ci := 7) (na := 0) (mx := 1) (p := 7) (args := [.ref (x0 + 3)]) (rest := []) (al2 := [some (.ref (x0 + 3))]) (by decide +kernel) rfl (by decide +kernel) (fg_2_2 g0) rfl rfl rfl rfl rfl rfl rfl (by omega) (fun d' hd' => fe_68 (by omega) w33) rfl ?_
  refine fs_aload_n (k := 0) (p := 8) (by decide +kernel) rfl rfl ?_
  refine fs_gfr (idx := 9) (ci := 2) (j := 0) (p := 11) (by decide +kernel) rfl (by decide +kernel) g0 (fr_2_0 g0) ?_
  refine fs_iconst (n := 0) (p := 12) (by decide +kernel) rfl kc_0 ?_
  refine fs_aload_n (k := 0) (p := 13) (by decide +kernel) rfl rfl ?_
  refine fs_gfr (idx := 21) (ci := 2) (j := 2) (p := 16) (by decide +kernel) rfl (by decide +kernel) g0 (fr_2_2 g0) ?_
  refine fs_gfr (idx := 114) (ci := 7) (j := 0) (p := 19) (by decide +kernel) rfl (by decide +kernel) (fg_2_2 g0) (fr_7_0 (fg_2_2 g0)) ?_
  refine fs_iconst (n := 0) (p := 20) (by decide +kernel) rfl kc_0 ?_
  refine fs_bipush (n := 8) (p := 22) (by decide +kernel) rfl kb_8 ?_
  obtain ⟨t35, w36, h⟩ := fx_bd h
  refine fs_cpy (idx := 126) (p := 25) (by decide +kernel) rfl (by decide +kernel) rfl w36 ?_
  refine fs_aload_n (k := 0) (p := 26) (by decide +kernel) rfl rfl ?_
  refine fs_gfr (idx := 41) (ci := 2) (j := 10) (p := 29) (by decide +kernel) rfl (by decide +kernel) g0 (fr_2_10 g0) ?_
  obtain ⟨q38, w37, h⟩ := fx_bd h
  refine fs_callV (idx := 132) (mj := 58) (ci := 6) (na := 0) (mx := 1) (p := 32) (args := [.ref 1]) (rest := []) (al2 := [some (.ref 1)]) (by decide +kernel) rfl (by decide +kernel) fo_1 rfl rfl rfl rfl rfl rfl rfl (by omega) (fun d' hd' => fe_58 (by omega) w37) rfl ?_
  refine fs_istore_n (k := 1) (p := 33) (M := 4) (al' := [some (.ref x0), some (.int q38.1), none, none]) (by decide +kernel) rfl mx_23 rfl rfl ?_
  refine fs_iconst (n := 0) (p := 34) (by decide +kernel) rfl kc_0 ?_
  refine fs_istore_n (k := 2) (p := 35) (M := 4) (al' := [some (.ref x0), some (.int q38.1), some (.int (0 : Int32)), none]) (by decide +kernel) rfl mx_23 rfl rfl ?_
  exact fe_23_35 hd 100000 _ _ _ _ _ _ g0 h

/-! ZoneShares$Group.fillBack()V -/
theorem mx_24 : iv_mx 24 = 4 := by decide +kernel
theorem rt_24 : iv_rt 24 = none := by decide +kernel
def fm_24_76 : Nat → Nat → Int32 → fx_S → Option (fx_S)
  | 0, _, _, _ => none
  | n + 1, x0, x2, σ =>
    if (8 : Int32) ≤ x2 then (
      some σ) else (
      (fm_76 (x0 + 3) x2 σ).bind fun q4 =>
      (fx_st q4.2 ((x0 + 12) + 1) x2 q4.1).bind fun t5 =>
      fm_24_76 n x0 (x2 + (1 : Int32)) t5)
theorem fe_24_76 {d : Nat} (hd : 2 ≤ d) : ∀ (n : Nat) (x0 : Nat) (x2 : Int32) (o1 : Option Value) (o3 : Option Value) (σ : fx_S) (q : fx_S) (g0 : fx_oc x0 2 = true), fm_24_76 n x0 x2 σ = some q → fx_E none 24 d 76 [some (.ref x0), o1, some (.int x2), o3] [] σ none q := by
  intro n
  induction n with
  | zero =>
    intro x0 x2 o1 o3 σ q g0 h
    rw [fm_24_76] at h
    exact fx_no h
  | succ n ih =>
    intro x0 x2 o1 o3 σ q g0 h
    rw [fm_24_76] at h
    refine fs_iload_n (k := 2) (p := 77) (by decide +kernel) rfl rfl ?_
    refine fs_bipush (n := 8) (p := 79) (by decide +kernel) rfl kb_8 ?_
    by_cases c2 : (8 : Int32) ≤ x2
    · rw [if_pos c2] at h
      refine fs_icmp_ge_t (off := 26) (t := 105) (by decide +kernel) (by decide +kernel) c2 ?_
      have h := Option.some.inj h
      subst h
      exact fs_ret (by decide +kernel) rt_24
    · rw [if_neg c2] at h
      refine fs_icmp_ge_f (off := 26) (t := 105) (p := 82) (by decide +kernel) (by decide +kernel) rfl c2 ?_
      refine fs_aload_n (k := 0) (p := 83) (by decide +kernel) rfl rfl ?_
      refine fs_gfr (idx := 25) (ci := 2) (j := 3) (p := 86) (by decide +kernel) rfl (by decide +kernel) g0 (fr_2_3 g0) ?_
      refine fs_gfr (idx := 114) (ci := 7) (j := 0) (p := 89) (by decide +kernel) rfl (by decide +kernel) (fg_2_3 g0) (fr_7_0 (fg_2_3 g0)) ?_
      refine fs_iload_n (k := 2) (p := 90) (by decide +kernel) rfl rfl ?_
      refine fs_aload_n (k := 0) (p := 91) (by decide +kernel) rfl rfl ?_
      refine fs_gfr (idx := 21) (ci := 2) (j := 2) (p := 94) (by decide +kernel) rfl (by decide +kernel) g0 (fr_2_2 g0) ?_
      refine fs_iload_n (k := 2) (p := 95) (by decide +kernel) rfl rfl ?_
      obtain ⟨q4, w3, h⟩ := fx_bd h
      refine fs_callV (idx := 142) (mj := 76) (ci := 7) (na := 1) (mx := 4) (p := 98) (args := [.ref (x0 + 3), .int x2]) (rest := [.int x2, .ref ((x0 + 12) + 1)]) (al2 := [some (.ref (x0 + 3)), some (.int x2), none, none]) (by decide +kernel) rfl (by decide +kernel) (fg_2_2 g0) rfl rfl rfl rfl rfl rfl rfl (by omega) (fun d' hd' => fe_76 (by omega) w3) rfl ?_
      obtain ⟨t5, w6, h⟩ := fx_bd h
      refine fs_iastore (p := 99) (by decide +kernel) rfl w6 ?_
      refine fs_iinc (k := 2) (n := 1) (p := 102) (M := 4) (al' := [some (.ref x0), (fx_kl o1), some (.int (x2 + (1 : Int32))), o3]) (by decide +kernel) rfl kc_1 mx_24 rfl rfl rfl ?_
      refine fs_goto (off := -26) (p := 76) (by decide +kernel) (by decide +kernel) ?_
      exact ih _ _ _ _ _ _ g0 h
def fm_24_68 (k_17 : Nat → Int32 → Int32 → fx_S → Option (fx_S)) (x0 : Nat) (x1 : Int32) (x2 : Int32) (σ : fx_S) : Option (fx_S) :=
  k_17 x0 x1 (x2 + (1 : Int32)) σ
theorem fe_24_68 {d : Nat} (hd : 2 ≤ d) {k_17 : Nat → Int32 → Int32 → fx_S → Option (fx_S)} (hk_17 : ∀ (x0 : Nat) (x1 : Int32) (x2 : Int32) (o3 : Option Value) (σ : fx_S) (q : fx_S) (g0 : fx_oc x0 2 = true), k_17 x0 x1 x2 σ = some q → fx_E none 24 d 17 [some (.ref x0), some (.int x1), some (.int x2), o3] [] σ none q) (x0 : Nat) (x1 : Int32) (x2 : Int32) (o3 : Option Value) (σ : fx_S) (q : fx_S) (g0 : fx_oc x0 2 = true) (h : fm_24_68 k_17  x0 x1 x2 σ = some q) : fx_E none 24 d 68 [some (.ref x0), some (.int x1), some (.int x2), o3] [] σ none q := by
  unfold fm_24_68 at h
  refine fs_iinc (k := 2) (n := 1) (p := 71) (M := 4) (al' := [some (.ref x0), some (.int x1), some (.int (x2 + (1 : Int32))), o3]) (by decide +kernel) rfl kc_1 mx_24 rfl rfl rfl ?_
  refine fs_goto (off := -54) (p := 17) (by decide +kernel) (by decide +kernel) ?_
  exact hk_17 _ _ _ _ _ _ g0 h
def fm_24_17 : Nat → Nat → Int32 → Int32 → fx_S → Option (fx_S)
  | 0, _, _, _, _ => none
  | n + 1, x0, x1, x2, σ =>
    if x1 ≤ x2 then (
      fm_24_76 100000 x0 (0 : Int32) σ) else (
      (fm_60 1 (1 : Int32) x2 σ).bind fun q5 =>
      if (8 : Int32) ≤ q5.1 then (
        fm_24_68 (fm_24_17 n) x0 x1 x2 q5.2) else (
        (fm_60 1 (0 : Int32) x2 q5.2).bind fun q9 =>
        (fm_61 1 (q9.2.1 x0 9) x2 q9.2).bind fun q11 =>
        (fm_69 (x0 + 12) q5.1 q9.1 q11.1 (1 : Int32) q11.2).bind fun q13 =>
        fm_24_68 (fm_24_17 n) x0 x1 x2 q13))
theorem fe_24_17 {d : Nat} (hd : 2 ≤ d) : ∀ (n : Nat) (x0 : Nat) (x1 : Int32) (x2 : Int32) (o3 : Option Value) (σ : fx_S) (q : fx_S) (g0 : fx_oc x0 2 = true), fm_24_17 n x0 x1 x2 σ = some q → fx_E none 24 d 17 [some (.ref x0), some (.int x1), some (.int x2), o3] [] σ none q := by
  intro n
  induction n with
  | zero =>
    intro x0 x1 x2 o3 σ q g0 h
    rw [fm_24_17] at h
    exact fx_no h
  | succ n ih =>
    intro x0 x1 x2 o3 σ q g0 h
    rw [fm_24_17] at h
    refine fs_iload_n (k := 2) (p := 18) (by decide +kernel) rfl rfl ?_
    refine fs_iload_n (k := 1) (p := 19) (by decide +kernel) rfl rfl ?_
    by_cases c3 : x1 ≤ x2
    · rw [if_pos c3] at h
      refine fs_icmp_ge_t (off := 55) (t := 74) (by decide +kernel) (by decide +kernel) c3 ?_
      refine fs_iconst (n := 0) (p := 75) (by decide +kernel) rfl kc_0 ?_
      refine fs_istore_n (k := 2) (p := 76) (M := 4) (al' := [some (.ref x0), some (.int x1), some (.int (0 : Int32)), o3]) (by decide +kernel) rfl mx_24 rfl rfl ?_
      exact fe_24_76 hd 100000 _ _ _ _ _ _ g0 h
    · rw [if_neg c3] at h
      refine fs_icmp_ge_f (off := 55) (t := 74) (p := 22) (by decide +kernel) (by decide +kernel) rfl c3 ?_
      refine fs_aload_n (k := 0) (p := 23) (by decide +kernel) rfl rfl ?_
      refine fs_gfr (idx := 41) (ci := 2) (j := 10) (p := 26) (by decide +kernel) rfl (by decide +kernel) g0 (fr_2_10 g0) ?_
      refine fs_iconst (n := 1) (p := 27) (by decide +kernel) rfl kc_1 ?_
      refine fs_iload_n (k := 2) (p := 28) (by decide +kernel) rfl rfl ?_
      obtain ⟨q5, w4, h⟩ := fx_bd h
      refine fs_callV (idx := 136) (mj := 60) (ci := 6) (na := 2) (mx := 3) (p := 31) (args := [.ref 1, .int (1 : Int32), .int x2]) (rest := []) (al2 := [some (.ref 1), some (.int (1 : Int32)), some (.int x2)]) (by decide +kernel) rfl (by decide +kernel) fo_1 rfl rfl rfl rfl rfl rfl rfl (by omega) (fun d' hd' => fe_60 (by omega) w4) rfl ?_
      refine fs_istore_n (k := 3) (p := 32) (M := 4) (al' := [some (.ref x0), some (.int x1), some (.int x2), some (.int q5.1)]) (by decide +kernel) rfl mx_24 rfl rfl ?_
      refine fs_iload_n (k := 3) (p := 33) (by decide +kernel) rfl rfl ?_
      refine fs_bipush (n := 8) (p := 35) (by decide +kernel) rfl kb_8 ?_
      by_cases c7 : (8 : Int32) ≤ q5.1
      · rw [if_pos c7] at h
        refine fs_icmp_ge_t (off := 33) (t := 68) (by decide +kernel) (by decide +kernel) c7 ?_
        exact fe_24_68 hd ih _ _ _ _ _ _ g0 h
      · rw [if_neg c7] at h
        refine fs_icmp_ge_f (off := 33) (t := 68) (p := 38) (by decide +kernel) (by decide +kernel) rfl c7 ?_
        refine fs_aload_n (k := 0) (p := 39) (by decide +kernel) rfl rfl ?_
        refine fs_gfr (idx := 25) (ci := 2) (j := 3) (p := 42) (by decide +kernel) rfl (by decide +kernel) g0 (fr_2_3 g0) ?_
        refine fs_iload_n (k := 3) (p := 43) (by decide +kernel) rfl rfl ?_
        refine fs_aload_n (k := 0) (p := 44) (by decide +kernel) rfl rfl ?_
        refine fs_gfr (idx := 41) (ci := 2) (j := 10) (p := 47) (by decide +kernel) rfl (by decide +kernel) g0 (fr_2_10 g0) ?_
        refine fs_iconst (n := 0) (p := 48) (by decide +kernel) rfl kc_0 ?_
        refine fs_iload_n (k := 2) (p := 49) (by decide +kernel) rfl rfl ?_
        obtain ⟨q9, w8, h⟩ := fx_bd h
        refine fs_callV (idx := 136) (mj := 60) (ci := 6) (na := 2) (mx := 3) (p := 52) (args := [.ref 1, .int (0 : Int32), .int x2]) (rest := [.int q5.1, .ref (x0 + 12)]) (al2 := [some (.ref 1), some (.int (0 : Int32)), some (.int x2)]) (by decide +kernel) rfl (by decide +kernel) fo_1 rfl rfl rfl rfl rfl rfl rfl (by omega) (fun d' hd' => fe_60 (by omega) w8) rfl ?_
        refine fs_aload_n (k := 0) (p := 53) (by decide +kernel) rfl rfl ?_
        refine fs_gfr (idx := 41) (ci := 2) (j := 10) (p := 56) (by decide +kernel) rfl (by decide +kernel) g0 (fr_2_10 g0) ?_
        refine fs_aload_n (k := 0) (p := 57) (by decide +kernel) rfl rfl ?_
        refine fs_gfi (idx := 37) (ci := 2) (j := 9) (p := 60) (by decide +kernel) rfl (by decide +kernel) g0 ?_
        refine fs_iload_n (k := 2) (p := 61) (by decide +kernel) rfl rfl ?_
        obtain ⟨q11, w10, h⟩ := fx_bd h
        refine fs_callV (idx := 139) (mj := 61) (ci := 6) (na := 2) (mx := 3) (p := 64) (args := [.ref 1, .int (q9.2.1 x0 9), .int x2]) (rest := [.int q9.1, .int q5.1, .ref (x0 + 12)]) (al2 := [some (.ref 1), some (.int (q9.2.1 x0 9)), some (.int x2)]) (by decide +kernel) rfl (by decide +kernel) fo_1 rfl rfl rfl rfl rfl rfl rfl (by omega) (fun d' hd' => fe_61 (by omega) w10) rfl ?_
        refine fs_iconst (n := 1) (p := 65) (by decide +kernel) rfl kc_1 ?_
        obtain ⟨q13, w12, h⟩ := fx_bd h
        refine fs_callV (idx := 98) (mj := 69) (ci := 7) (na := 4) (mx := 6) (p := 68) (args := [.ref (x0 + 12), .int q5.1, .int q9.1, .int q11.1, .int (1 : Int32)]) (rest := []) (al2 := [some (.ref (x0 + 12)), some (.int q5.1), some (.int q9.1), some (.int q11.1), some (.int (1 : Int32)), none]) (by decide +kernel) rfl (by decide +kernel) (fg_2_3 g0) rfl rfl rfl rfl rfl rfl rfl (by omega) (fun d' hd' => fe_69 (by omega) w12) rfl ?_
        exact fe_24_68 hd ih _ _ _ _ _ _ g0 h
def fm_24 (x0 : Nat) (σ : fx_S) : Option (fx_S) :=
  if fx_oc x0 2 = true then (
  (fm_68 (x0 + 12) σ).bind fun q46 =>
  (fm_58 1 q46).bind fun q48 =>
  fm_24_17 100000 x0 q48.1 (0 : Int32) q48.2) else none
theorem fe_24 {d : Nat} (hd : 2 ≤ d) {x0 : Nat} {σ : fx_S} {q : fx_S} (h : fm_24 x0 σ = some q) : fx_E none 24 d 0 [some (.ref x0), none, none, none] [] σ none q := by
  unfold fm_24 at h
  obtain ⟨g0, h⟩ := fx_gd h
  refine fs_aload_n (k := 0) (p := 1) (by decide +kernel) rfl rfl ?_
  refine fs_gfr (idx := 25) (ci := 2) (j := 3) (p := 4) (by decide +kernel) rfl (by decide +kernel) g0 (fr_2_3 g0) ?_
  obtain ⟨q46, w45, h⟩ := fx_bd h
  refine fs_callV (idx := 88) (mj := 68) (ci := 7) (na := 0) (mx := 1) (p := 7) (args := [.ref (x0 + 12)]) (rest := []) (al2 := [some (.ref (x0 + 12))]) (by decide +kernel) rfl (by decide +kernel) (fg_2_3 g0) rfl rfl rfl rfl rfl rfl rfl (by omega) (fun d' hd' => fe_68 (by omega) w45) rfl ?_
  refine fs_aload_n (k := 0) (p := 8) (by decide +kernel) rfl rfl ?_
  refine fs_gfr (idx := 41) (ci := 2) (j := 10) (p := 11) (by decide +kernel) rfl (by decide +kernel) g0 (fr_2_10 g0) ?_
  obtain ⟨q48, w47, h⟩ := fx_bd h
  refine fs_callV (idx := 132) (mj := 58) (ci := 6) (na := 0) (mx := 1) (p := 14) (args := [.ref 1]) (rest := []) (al2 := [some (.ref 1)]) (by decide +kernel) rfl (by decide +kernel) fo_1 rfl rfl rfl rfl rfl rfl rfl (by omega) (fun d' hd' => fe_58 (by omega) w47) rfl ?_
  refine fs_istore_n (k := 1) (p := 15) (M := 4) (al' := [some (.ref x0), some (.int q48.1), none, none]) (by decide +kernel) rfl mx_24 rfl rfl ?_
  refine fs_iconst (n := 0) (p := 16) (by decide +kernel) rfl kc_0 ?_
  refine fs_istore_n (k := 2) (p := 17) (M := 4) (al' := [some (.ref x0), some (.int q48.1), some (.int (0 : Int32)), none]) (by decide +kernel) rfl mx_24 rfl rfl ?_
  exact fe_24_17 hd 100000 _ _ _ _ _ _ g0 h

/-! ZoneShares$Group.fillCoarse()V -/
theorem mx_25 : iv_mx 25 = 6 := by decide +kernel
theorem rt_25 : iv_rt 25 = none := by decide +kernel
def fm_25_113 (k_35 : Nat → Int32 → Int32 → fx_S → Option (fx_S)) (x0 : Nat) (x1 : Int32) (x2 : Int32) (σ : fx_S) : Option (fx_S) :=
  k_35 x0 x1 (x2 + (1 : Int32)) σ
theorem fe_25_113 {d : Nat} (hd : 2 ≤ d) {k_35 : Nat → Int32 → Int32 → fx_S → Option (fx_S)} (hk_35 : ∀ (x0 : Nat) (x1 : Int32) (x2 : Int32) (o3 : Option Value) (o4 : Option Value) (o5 : Option Value) (σ : fx_S) (q : fx_S) (g0 : fx_oc x0 2 = true), k_35 x0 x1 x2 σ = some q → fx_E none 25 d 35 [some (.ref x0), some (.int x1), some (.int x2), o3, o4, o5] [] σ none q) (x0 : Nat) (x1 : Int32) (x2 : Int32) (o3 : Option Value) (o4 : Option Value) (o5 : Option Value) (σ : fx_S) (q : fx_S) (g0 : fx_oc x0 2 = true) (h : fm_25_113 k_35  x0 x1 x2 σ = some q) : fx_E none 25 d 113 [some (.ref x0), some (.int x1), some (.int x2), o3, o4, o5] [] σ none q := by
  unfold fm_25_113 at h
  refine fs_iinc (k := 2) (n := 1) (p := 116) (M := 6) (al' := [some (.ref x0), some (.int x1), some (.int (x2 + (1 : Int32))), o3, o4, o5]) (by decide +kernel) rfl kc_1 mx_25 rfl rfl rfl ?_
  refine fs_goto (off := -81) (p := 35) (by decide +kernel) (by decide +kernel) ?_
  exact hk_35 _ _ _ _ _ _ _ _ g0 h
def fm_25_88 (k_35 : Nat → Int32 → Int32 → fx_S → Option (fx_S)) (x0 : Nat) (x1 : Int32) (x2 : Int32) (x3 : Int32) (s0 : Int32) (σ : fx_S) : Option (fx_S) :=
  (fm_61 1 (σ.1 x0 9) x2 σ).bind fun q2 =>
  (fm_69 (x0 + 21) x3 s0 q2.1 (1 : Int32) q2.2).bind fun q4 =>
  fm_25_113 k_35 x0 x1 x2 q4
theorem fe_25_88 {d : Nat} (hd : 2 ≤ d) {k_35 : Nat → Int32 → Int32 → fx_S → Option (fx_S)} (hk_35 : ∀ (x0 : Nat) (x1 : Int32) (x2 : Int32) (o3 : Option Value) (o4 : Option Value) (o5 : Option Value) (σ : fx_S) (q : fx_S) (g0 : fx_oc x0 2 = true), k_35 x0 x1 x2 σ = some q → fx_E none 25 d 35 [some (.ref x0), some (.int x1), some (.int x2), o3, o4, o5] [] σ none q) (x0 : Nat) (x1 : Int32) (x2 : Int32) (x3 : Int32) (s0 : Int32) (o4 : Option Value) (o5 : Option Value) (σ : fx_S) (q : fx_S) (g0 : fx_oc x0 2 = true) (h : fm_25_88 k_35  x0 x1 x2 x3 s0 σ = some q) : fx_E none 25 d 88 [some (.ref x0), some (.int x1), some (.int x2), some (.int x3), o4, o5] [.int s0] σ none q := by
  unfold fm_25_88 at h
  refine fs_istore (k := 5) (p := 90) (M := 6) (al' := [some (.ref x0), some (.int x1), some (.int x2), some (.int x3), (fx_kl o4), some (.int s0)]) (by decide +kernel) rfl mx_25 rfl rfl ?_
  refine fs_aload_n (k := 0) (p := 91) (by decide +kernel) rfl rfl ?_
  refine fs_gfr (idx := 28) (ci := 2) (j := 4) (p := 94) (by decide +kernel) rfl (by decide +kernel) g0 (fr_2_4 g0) ?_
  refine fs_iload_n (k := 3) (p := 95) (by decide +kernel) rfl rfl ?_
  refine fs_iload (k := 5) (p := 97) (by decide +kernel) rfl rfl ?_
  refine fs_aload_n (k := 0) (p := 98) (by decide +kernel) rfl rfl ?_
  refine fs_gfr (idx := 41) (ci := 2) (j := 10) (p := 101) (by decide +kernel) rfl (by decide +kernel) g0 (fr_2_10 g0) ?_
  refine fs_aload_n (k := 0) (p := 102) (by decide +kernel) rfl rfl ?_
  refine fs_gfi (idx := 37) (ci := 2) (j := 9) (p := 105) (by decide +kernel) rfl (by decide +kernel) g0 ?_
  refine fs_iload_n (k := 2) (p := 106) (by decide +kernel) rfl rfl ?_
  obtain ⟨q2, w1, h⟩ := fx_bd h
  refine fs_callV (idx := 139) (mj := 61) (ci := 6) (na := 2) (mx := 3) (p := 109) (args := [.ref 1, .int (σ.1 x0 9), .int x2]) (rest := [.int s0, .int x3, .ref (x0 + 21)]) (al2 := [some (.ref 1), some (.int (σ.1 x0 9)), some (.int x2)]) (by decide +kernel) rfl (by decide +kernel) fo_1 rfl rfl rfl rfl rfl rfl rfl (by omega) (fun d' hd' => fe_61 (by omega) w1) rfl ?_
  refine fs_iconst (n := 1) (p := 110) (by decide +kernel) rfl kc_1 ?_
  obtain ⟨q4, w3, h⟩ := fx_bd h
  refine fs_callV (idx := 98) (mj := 69) (ci := 7) (na := 4) (mx := 6) (p := 113) (args := [.ref (x0 + 21), .int x3, .int s0, .int q2.1, .int (1 : Int32)]) (rest := []) (al2 := [some (.ref (x0 + 21)), some (.int x3), some (.int s0), some (.int q2.1), some (.int (1 : Int32)), none]) (by decide +kernel) rfl (by decide +kernel) (fg_2_4 g0) rfl rfl rfl rfl rfl rfl rfl (by omega) (fun d' hd' => fe_69 (by omega) w3) rfl ?_
  exact fe_25_113 hd hk_35 _ _ _ _ _ _ _ _ g0 h
def fm_25_35 : Nat → Nat → Int32 → Int32 → fx_S → Option (fx_S)
  | 0, _, _, _, _ => none
  | n + 1, x0, x1, x2, σ =>
    if x1 ≤ x2 then (
      some σ) else (
      (fm_60 1 (0 : Int32) x2 σ).bind fun q5 =>
      (fm_60 1 (1 : Int32) x2 q5.2).bind fun q7 =>
      if (8 : Int32) ≤ q5.1 then (
        fm_25_113 (fm_25_35 n) x0 x1 x2 q7.2) else (
        if (8 : Int32) ≤ q7.1 then (
          fm_25_88 (fm_25_35 n) x0 x1 x2 q5.1 (4 : Int32) q7.2) else (
          (fx_ld q7.2 5 q7.1).bind fun v12 =>
          fm_25_88 (fm_25_35 n) x0 x1 x2 q5.1 v12 q7.2)))
theorem fe_25_35 {d : Nat} (hd : 2 ≤ d) : ∀ (n : Nat) (x0 : Nat) (x1 : Int32) (x2 : Int32) (o3 : Option Value) (o4 : Option Value) (o5 : Option Value) (σ : fx_S) (q : fx_S) (g0 : fx_oc x0 2 = true), fm_25_35 n x0 x1 x2 σ = some q → fx_E none 25 d 35 [some (.ref x0), some (.int x1), some (.int x2), o3, o4, o5] [] σ none q := by
  intro n
  induction n with
  | zero =>
    intro x0 x1 x2 o3 o4 o5 σ q g0 h
    rw [fm_25_35] at h
    exact fx_no h
  | succ n ih =>
    intro x0 x1 x2 o3 o4 o5 σ q g0 h
    rw [fm_25_35] at h
    refine fs_iload_n (k := 2) (p := 36) (by decide +kernel) rfl rfl ?_
    refine fs_iload_n (k := 1) (p := 37) (by decide +kernel) rfl rfl ?_
    by_cases c3 : x1 ≤ x2
    · rw [if_pos c3] at h
      refine fs_icmp_ge_t (off := 82) (t := 119) (by decide +kernel) (by decide +kernel) c3 ?_
      have h := Option.some.inj h
      subst h
      exact fs_ret (by decide +kernel) rt_25
    · rw [if_neg c3] at h
      refine fs_icmp_ge_f (off := 82) (t := 119) (p := 40) (by decide +kernel) (by decide +kernel) rfl c3 ?_
      refine fs_aload_n (k := 0) (p := 41) (by decide +kernel) rfl rfl ?_
      refine fs_gfr (idx := 41) (ci := 2) (j := 10) (p := 44) (by decide +kernel) rfl (by decide +kernel) g0 (fr_2_10 g0) ?_
      refine fs_iconst (n := 0) (p := 45) (by decide +kernel) rfl kc_0 ?_
      refine fs_iload_n (k := 2) (p := 46) (by decide +kernel) rfl rfl ?_
      obtain ⟨q5, w4, h⟩ := fx_bd h
      refine fs_callV (idx := 136) (mj := 60) (ci := 6) (na := 2) (mx := 3) (p := 49) (args := [.ref 1, .int (0 : Int32), .int x2]) (rest := []) (al2 := [some (.ref 1), some (.int (0 : Int32)), some (.int x2)]) (by decide +kernel) rfl (by decide +kernel) fo_1 rfl rfl rfl rfl rfl rfl rfl (by omega) (fun d' hd' => fe_60 (by omega) w4) rfl ?_
      refine fs_istore_n (k := 3) (p := 50) (M := 6) (al' := [some (.ref x0), some (.int x1), some (.int x2), some (.int q5.1), o4, o5]) (by decide +kernel) rfl mx_25 rfl rfl ?_
      refine fs_aload_n (k := 0) (p := 51) (by decide +kernel) rfl rfl ?_
      refine fs_gfr (idx := 41) (ci := 2) (j := 10) (p := 54) (by decide +kernel) rfl (by decide +kernel) g0 (fr_2_10 g0) ?_
      refine fs_iconst (n := 1) (p := 55) (by decide +kernel) rfl kc_1 ?_
      refine fs_iload_n (k := 2) (p := 56) (by decide +kernel) rfl rfl ?_
      obtain ⟨q7, w6, h⟩ := fx_bd h
      refine fs_callV (idx := 136) (mj := 60) (ci := 6) (na := 2) (mx := 3) (p := 59) (args := [.ref 1, .int (1 : Int32), .int x2]) (rest := []) (al2 := [some (.ref 1), some (.int (1 : Int32)), some (.int x2)]) (by decide +kernel) rfl (by decide +kernel) fo_1 rfl rfl rfl rfl rfl rfl rfl (by omega) (fun d' hd' => fe_60 (by omega) w6) rfl ?_
      refine fs_istore (k := 4) (p := 61) (M := 6) (al' := [some (.ref x0), some (.int x1), some (.int x2), some (.int q5.1), some (.int q7.1), o5]) (by decide +kernel) rfl mx_25 rfl rfl ?_
      refine fs_iload_n (k := 3) (p := 62) (by decide +kernel) rfl rfl ?_
      refine fs_bipush (n := 8) (p := 64) (by decide +kernel) rfl kb_8 ?_
      by_cases c9 : (8 : Int32) ≤ q5.1
      · rw [if_pos c9] at h
        refine fs_icmp_ge_t (off := 49) (t := 113) (by decide +kernel) (by decide +kernel) c9 ?_
        exact fe_25_113 hd ih _ _ _ _ _ _ _ _ g0 h
      · rw [if_neg c9] at h
        refine fs_icmp_ge_f (off := 49) (t := 113) (p := 67) (by decide +kernel) (by decide +kernel) rfl c9 ?_
        refine fs_iload (k := 4) (p := 69) (by decide +kernel) rfl rfl ?_
        refine fs_bipush (n := 8) (p := 71) (by decide +kernel) rfl kb_8 ?_
        by_cases c11 : (8 : Int32) ≤ q7.1
        · rw [if_pos c11] at h
          refine fs_icmp_ge_t (off := 16) (t := 87) (by decide +kernel) (by decide +kernel) c11 ?_
          refine fs_iconst (n := 4) (p := 88) (by decide +kernel) rfl kc_4 ?_
          exact fe_25_88 hd ih _ _ _ _ _ _ _ _ _ g0 h
        · rw [if_neg c11] at h
          refine fs_icmp_ge_f (off := 16) (t := 87) (p := 74) (by decide +kernel) (by decide +kernel) rfl c11 ?_
          refine fs_aload_n (k := 0) (p := 75) (by decide +kernel) rfl rfl ?_
          refine fs_gfr (idx := 41) (ci := 2) (j := 10) (p := 78) (by decide +kernel) rfl (by decide +kernel) g0 (fr_2_10 g0) ?_
          refine fs_gfr (idx := 145) (ci := 6) (j := 3) (p := 81) (by decide +kernel) rfl (by decide +kernel) fo_1 (fr_a1_3) ?_
          refine fs_iload (k := 4) (p := 83) (by decide +kernel) rfl rfl ?_
          obtain ⟨v12, w13, h⟩ := fx_bd h
          refine fs_iaload (p := 84) (by decide +kernel) rfl w13 ?_
          refine fs_goto (off := 4) (p := 88) (by decide +kernel) (by decide +kernel) ?_
          exact fe_25_88 hd ih _ _ _ _ _ _ _ _ _ g0 h
def fm_25 (x0 : Nat) (σ : fx_S) : Option (fx_S) :=
  if fx_oc x0 2 = true then (
  (fm_68 (x0 + 21) σ).bind fun q44 =>
  (fx_cpy q44 (x0 + 1) (0 : Int32) ((x0 + 21) + 1) (0 : Int32) (8 : Int32)).bind fun t45 =>
  (fm_58 1 t45).bind fun q48 =>
  fm_25_35 100000 x0 q48.1 (0 : Int32) q48.2) else none
theorem fe_25 {d : Nat} (hd : 2 ≤ d) {x0 : Nat} {σ : fx_S} {q : fx_S} (h : fm_25 x0 σ = some q) : fx_E none 25 d 0 [some (.ref x0), none, none, none, none, none] [] σ none q := by
  unfold fm_25 at h
  obtain ⟨g0, h⟩ := fx_gd h
  refine fs_aload_n (k := 0) (p := 1) (by decide +kernel) rfl rfl ?_
  refine fs_gfr (idx := 28) (ci := 2) (j := 4) (p := 4) (by decide +kernel) rfl (by decide +kernel) g0 (fr_2_4 g0) ?_
  obtain ⟨q44, w43, h⟩ := fx_bd h
  refine fs_callV (idx := 88) (mj := 68) (ci := 7) (na := 0) (mx := 1) (p := 7) (args := [.ref (x0 + 21)]) (rest := []) (al2 := [some (.ref (x0 + 21))]) (by decide +kernel) rfl (by decide +kernel) (fg_2_4 g0) rfl rfl rfl rfl rfl rfl rfl (by omega) (fun d' hd' => fe_68 (by omega) w43) rfl ?_
  refine fs_aload_n (k := 0) (p := 8) (by decide +kernel) rfl rfl ?_
  refine fs_gfr (idx := 9) (ci := 2) (j := 0) (p := 11) (by decide +kernel) rfl (by decide +kernel) g0 (fr_2_0 g0) ?_
  refine fs_iconst (n := 0) (p := 12) (by decide +kernel) rfl kc_0 ?_
  refine fs_aload_n (k := 0) (p := 13) (by decide +kernel) rfl rfl ?_
  refine fs_gfr (idx := 28) (ci := 2) (j := 4) (p := 16) (by decide +kernel) rfl (by decide +kernel) g0 (fr_2_4 g0) ?_
  refine fs_gfr (idx := 114) (ci := 7) (j := 0) (p := 19) (by decide +kernel) rfl (by decide +kernel) (fg_2_4 g0) (fr_7_0 (fg_2_4 g0)) ?_
  refine fs_iconst (n := 0) (p := 20) (by decide +kernel) rfl kc_0 ?_
  refine fs_bipush (n := 8) (p := 22) (by decide +kernel) rfl kb_8 ?_
  obtain ⟨t45, w46, h⟩ := fx_bd h
  refine fs_cpy (idx := 126) (p := 25) (by decide +kernel) rfl (by decide +kernel) rfl w46 ?_
  refine fs_aload_n (k := 0) (p := 26) (by decide +kernel) rfl rfl ?_
  refine fs_gfr (idx := 41) (ci := 2) (j := 10) (p := 29) (by decide +kernel) rfl (by decide +kernel) g0 (fr_2_10 g0) ?_
  obtain ⟨q48, w47, h⟩ := fx_bd h
  refine fs_callV (idx := 132) (mj := 58) (ci := 6) (na := 0) (mx := 1) (p := 32) (args := [.ref 1]) (rest := []) (al2 := [some (.ref 1)]) (by decide +kernel) rfl (by decide +kernel) fo_1 rfl rfl rfl rfl rfl rfl rfl (by omega) (fun d' hd' => fe_58 (by omega) w47) rfl ?_
  refine fs_istore_n (k := 1) (p := 33) (M := 6) (al' := [some (.ref x0), some (.int q48.1), none, none, none, none]) (by decide +kernel) rfl mx_25 rfl rfl ?_
  refine fs_iconst (n := 0) (p := 34) (by decide +kernel) rfl kc_0 ?_
  refine fs_istore_n (k := 2) (p := 35) (M := 6) (al' := [some (.ref x0), some (.int q48.1), some (.int (0 : Int32)), none, none, none]) (by decide +kernel) rfl mx_25 rfl rfl ?_
  exact fe_25_35 hd 100000 _ _ _ _ _ _ _ _ g0 h

/-! ZoneShares$Group.fillWay()V -/
theorem mx_26 : iv_mx 26 = 4 := by decide +kernel
theorem rt_26 : iv_rt 26 = none := by decide +kernel
def fm_26_76 : Nat → Nat → Int32 → fx_S → Option (fx_S)
  | 0, _, _, _ => none
  | n + 1, x0, x2, σ =>
    if (4 : Int32) ≤ x2 then (
      some σ) else (
      (fm_76 (x0 + 21) x2 σ).bind fun q4 =>
      (fx_st q4.2 ((x0 + 30) + 1) x2 q4.1).bind fun t5 =>
      fm_26_76 n x0 (x2 + (1 : Int32)) t5)
theorem fe_26_76 {d : Nat} (hd : 2 ≤ d) : ∀ (n : Nat) (x0 : Nat) (x2 : Int32) (o1 : Option Value) (o3 : Option Value) (σ : fx_S) (q : fx_S) (g0 : fx_oc x0 2 = true), fm_26_76 n x0 x2 σ = some q → fx_E none 26 d 76 [some (.ref x0), o1, some (.int x2), o3] [] σ none q := by
  intro n
  induction n with
  | zero =>
    intro x0 x2 o1 o3 σ q g0 h
    rw [fm_26_76] at h
    exact fx_no h
  | succ n ih =>
    intro x0 x2 o1 o3 σ q g0 h
    rw [fm_26_76] at h
    refine fs_iload_n (k := 2) (p := 77) (by decide +kernel) rfl rfl ?_
    refine fs_iconst (n := 4) (p := 78) (by decide +kernel) rfl kc_4 ?_
    by_cases c2 : (4 : Int32) ≤ x2
    · rw [if_pos c2] at h
      refine fs_icmp_ge_t (off := 26) (t := 104) (by decide +kernel) (by decide +kernel) c2 ?_
      have h := Option.some.inj h
      subst h
      exact fs_ret (by decide +kernel) rt_26
    · rw [if_neg c2] at h
      refine fs_icmp_ge_f (off := 26) (t := 104) (p := 81) (by decide +kernel) (by decide +kernel) rfl c2 ?_
      refine fs_aload_n (k := 0) (p := 82) (by decide +kernel) rfl rfl ?_
      refine fs_gfr (idx := 31) (ci := 2) (j := 5) (p := 85) (by decide +kernel) rfl (by decide +kernel) g0 (fr_2_5 g0) ?_
      refine fs_gfr (idx := 114) (ci := 7) (j := 0) (p := 88) (by decide +kernel) rfl (by decide +kernel) (fg_2_5 g0) (fr_7_0 (fg_2_5 g0)) ?_
      refine fs_iload_n (k := 2) (p := 89) (by decide +kernel) rfl rfl ?_
      refine fs_aload_n (k := 0) (p := 90) (by decide +kernel) rfl rfl ?_
      refine fs_gfr (idx := 28) (ci := 2) (j := 4) (p := 93) (by decide +kernel) rfl (by decide +kernel) g0 (fr_2_4 g0) ?_
      refine fs_iload_n (k := 2) (p := 94) (by decide +kernel) rfl rfl ?_
      obtain ⟨q4, w3, h⟩ := fx_bd h
      refine fs_callV (idx := 142) (mj := 76) (ci := 7) (na := 1) (mx := 4) (p := 97) (args := [.ref (x0 + 21), .int x2]) (rest := [.int x2, .ref ((x0 + 30) + 1)]) (al2 := [some (.ref (x0 + 21)), some (.int x2), none, none]) (by decide +kernel) rfl (by decide +kernel) (fg_2_4 g0) rfl rfl rfl rfl rfl rfl rfl (by omega) (fun d' hd' => fe_76 (by omega) w3) rfl ?_
      obtain ⟨t5, w6, h⟩ := fx_bd h
      refine fs_iastore (p := 98) (by decide +kernel) rfl w6 ?_
      refine fs_iinc (k := 2) (n := 1) (p := 101) (M := 4) (al' := [some (.ref x0), (fx_kl o1), some (.int (x2 + (1 : Int32))), o3]) (by decide +kernel) rfl kc_1 mx_26 rfl rfl rfl ?_
      refine fs_goto (off := -25) (p := 76) (by decide +kernel) (by decide +kernel) ?_
      exact ih _ _ _ _ _ _ g0 h
def fm_26_68 (k_17 : Nat → Int32 → Int32 → fx_S → Option (fx_S)) (x0 : Nat) (x1 : Int32) (x2 : Int32) (σ : fx_S) : Option (fx_S) :=
  k_17 x0 x1 (x2 + (1 : Int32)) σ
theorem fe_26_68 {d : Nat} (hd : 2 ≤ d) {k_17 : Nat → Int32 → Int32 → fx_S → Option (fx_S)} (hk_17 : ∀ (x0 : Nat) (x1 : Int32) (x2 : Int32) (o3 : Option Value) (σ : fx_S) (q : fx_S) (g0 : fx_oc x0 2 = true), k_17 x0 x1 x2 σ = some q → fx_E none 26 d 17 [some (.ref x0), some (.int x1), some (.int x2), o3] [] σ none q) (x0 : Nat) (x1 : Int32) (x2 : Int32) (o3 : Option Value) (σ : fx_S) (q : fx_S) (g0 : fx_oc x0 2 = true) (h : fm_26_68 k_17  x0 x1 x2 σ = some q) : fx_E none 26 d 68 [some (.ref x0), some (.int x1), some (.int x2), o3] [] σ none q := by
  unfold fm_26_68 at h
  refine fs_iinc (k := 2) (n := 1) (p := 71) (M := 4) (al' := [some (.ref x0), some (.int x1), some (.int (x2 + (1 : Int32))), o3]) (by decide +kernel) rfl kc_1 mx_26 rfl rfl rfl ?_
  refine fs_goto (off := -54) (p := 17) (by decide +kernel) (by decide +kernel) ?_
  exact hk_17 _ _ _ _ _ _ g0 h
def fm_26_17 : Nat → Nat → Int32 → Int32 → fx_S → Option (fx_S)
  | 0, _, _, _, _ => none
  | n + 1, x0, x1, x2, σ =>
    if x1 ≤ x2 then (
      fm_26_76 100000 x0 (0 : Int32) σ) else (
      (fm_60 1 (1 : Int32) x2 σ).bind fun q5 =>
      if (8 : Int32) ≤ q5.1 then (
        fm_26_68 (fm_26_17 n) x0 x1 x2 q5.2) else (
        (fx_ld q5.2 5 q5.1).bind fun v8 =>
        (fm_61 1 (q5.2.1 x0 9) x2 q5.2).bind fun q12 =>
        (fm_69 (x0 + 30) v8 q5.1 q12.1 (1 : Int32) q12.2).bind fun q14 =>
        fm_26_68 (fm_26_17 n) x0 x1 x2 q14))
theorem fe_26_17 {d : Nat} (hd : 2 ≤ d) : ∀ (n : Nat) (x0 : Nat) (x1 : Int32) (x2 : Int32) (o3 : Option Value) (σ : fx_S) (q : fx_S) (g0 : fx_oc x0 2 = true), fm_26_17 n x0 x1 x2 σ = some q → fx_E none 26 d 17 [some (.ref x0), some (.int x1), some (.int x2), o3] [] σ none q := by
  intro n
  induction n with
  | zero =>
    intro x0 x1 x2 o3 σ q g0 h
    rw [fm_26_17] at h
    exact fx_no h
  | succ n ih =>
    intro x0 x1 x2 o3 σ q g0 h
    rw [fm_26_17] at h
    refine fs_iload_n (k := 2) (p := 18) (by decide +kernel) rfl rfl ?_
    refine fs_iload_n (k := 1) (p := 19) (by decide +kernel) rfl rfl ?_
    by_cases c3 : x1 ≤ x2
    · rw [if_pos c3] at h
      refine fs_icmp_ge_t (off := 55) (t := 74) (by decide +kernel) (by decide +kernel) c3 ?_
      refine fs_iconst (n := 0) (p := 75) (by decide +kernel) rfl kc_0 ?_
      refine fs_istore_n (k := 2) (p := 76) (M := 4) (al' := [some (.ref x0), some (.int x1), some (.int (0 : Int32)), o3]) (by decide +kernel) rfl mx_26 rfl rfl ?_
      exact fe_26_76 hd 100000 _ _ _ _ _ _ g0 h
    · rw [if_neg c3] at h
      refine fs_icmp_ge_f (off := 55) (t := 74) (p := 22) (by decide +kernel) (by decide +kernel) rfl c3 ?_
      refine fs_aload_n (k := 0) (p := 23) (by decide +kernel) rfl rfl ?_
      refine fs_gfr (idx := 41) (ci := 2) (j := 10) (p := 26) (by decide +kernel) rfl (by decide +kernel) g0 (fr_2_10 g0) ?_
      refine fs_iconst (n := 1) (p := 27) (by decide +kernel) rfl kc_1 ?_
      refine fs_iload_n (k := 2) (p := 28) (by decide +kernel) rfl rfl ?_
      obtain ⟨q5, w4, h⟩ := fx_bd h
      refine fs_callV (idx := 136) (mj := 60) (ci := 6) (na := 2) (mx := 3) (p := 31) (args := [.ref 1, .int (1 : Int32), .int x2]) (rest := []) (al2 := [some (.ref 1), some (.int (1 : Int32)), some (.int x2)]) (by decide +kernel) rfl (by decide +kernel) fo_1 rfl rfl rfl rfl rfl rfl rfl (by omega) (fun d' hd' => fe_60 (by omega) w4) rfl ?_
      refine fs_istore_n (k := 3) (p := 32) (M := 4) (al' := [some (.ref x0), some (.int x1), some (.int x2), some (.int q5.1)]) (by decide +kernel) rfl mx_26 rfl rfl ?_
      refine fs_iload_n (k := 3) (p := 33) (by decide +kernel) rfl rfl ?_
      refine fs_bipush (n := 8) (p := 35) (by decide +kernel) rfl kb_8 ?_
      by_cases c7 : (8 : Int32) ≤ q5.1
      · rw [if_pos c7] at h
        refine fs_icmp_ge_t (off := 33) (t := 68) (by decide +kernel) (by decide +kernel) c7 ?_
        exact fe_26_68 hd ih _ _ _ _ _ _ g0 h
      · rw [if_neg c7] at h
        refine fs_icmp_ge_f (off := 33) (t := 68) (p := 38) (by decide +kernel) (by decide +kernel) rfl c7 ?_
        refine fs_aload_n (k := 0) (p := 39) (by decide +kernel) rfl rfl ?_
        refine fs_gfr (idx := 31) (ci := 2) (j := 5) (p := 42) (by decide +kernel) rfl (by decide +kernel) g0 (fr_2_5 g0) ?_
        refine fs_aload_n (k := 0) (p := 43) (by decide +kernel) rfl rfl ?_
        refine fs_gfr (idx := 41) (ci := 2) (j := 10) (p := 46) (by decide +kernel) rfl (by decide +kernel) g0 (fr_2_10 g0) ?_
        refine fs_gfr (idx := 145) (ci := 6) (j := 3) (p := 49) (by decide +kernel) rfl (by decide +kernel) fo_1 (fr_a1_3) ?_
        refine fs_iload_n (k := 3) (p := 50) (by decide +kernel) rfl rfl ?_
        obtain ⟨v8, w9, h⟩ := fx_bd h
        refine fs_iaload (p := 51) (by decide +kernel) rfl w9 ?_
        refine fs_iload_n (k := 3) (p := 52) (by decide +kernel) rfl rfl ?_
        refine fs_aload_n (k := 0) (p := 53) (by decide +kernel) rfl rfl ?_
        refine fs_gfr (idx := 41) (ci := 2) (j := 10) (p := 56) (by decide +kernel) rfl (by decide +kernel) g0 (fr_2_10 g0) ?_
        refine fs_aload_n (k := 0) (p := 57) (by decide +kernel) rfl rfl ?_
        refine fs_gfi (idx := 37) (ci := 2) (j := 9) (p := 60) (by decide +kernel) rfl (by decide +kernel) g0 ?_
        refine fs_iload_n (k := 2) (p := 61) (by decide +kernel) rfl rfl ?_
        obtain ⟨q12, w11, h⟩ := fx_bd h
        refine fs_callV (idx := 139) (mj := 61) (ci := 6) (na := 2) (mx := 3) (p := 64) (args := [.ref 1, .int (q5.2.1 x0 9), .int x2]) (rest := [.int q5.1, .int v8, .ref (x0 + 30)]) (al2 := [some (.ref 1), some (.int (q5.2.1 x0 9)), some (.int x2)]) (by decide +kernel) rfl (by decide +kernel) fo_1 rfl rfl rfl rfl rfl rfl rfl (by omega) (fun d' hd' => fe_61 (by omega) w11) rfl ?_
        refine fs_iconst (n := 1) (p := 65) (by decide +kernel) rfl kc_1 ?_
        obtain ⟨q14, w13, h⟩ := fx_bd h
        refine fs_callV (idx := 98) (mj := 69) (ci := 7) (na := 4) (mx := 6) (p := 68) (args := [.ref (x0 + 30), .int v8, .int q5.1, .int q12.1, .int (1 : Int32)]) (rest := []) (al2 := [some (.ref (x0 + 30)), some (.int v8), some (.int q5.1), some (.int q12.1), some (.int (1 : Int32)), none]) (by decide +kernel) rfl (by decide +kernel) (fg_2_5 g0) rfl rfl rfl rfl rfl rfl rfl (by omega) (fun d' hd' => fe_69 (by omega) w13) rfl ?_
        exact fe_26_68 hd ih _ _ _ _ _ _ g0 h
def fm_26 (x0 : Nat) (σ : fx_S) : Option (fx_S) :=
  if fx_oc x0 2 = true then (
  (fm_68 (x0 + 30) σ).bind fun q48 =>
  (fm_58 1 q48).bind fun q50 =>
  fm_26_17 100000 x0 q50.1 (0 : Int32) q50.2) else none
theorem fe_26 {d : Nat} (hd : 2 ≤ d) {x0 : Nat} {σ : fx_S} {q : fx_S} (h : fm_26 x0 σ = some q) : fx_E none 26 d 0 [some (.ref x0), none, none, none] [] σ none q := by
  unfold fm_26 at h
  obtain ⟨g0, h⟩ := fx_gd h
  refine fs_aload_n (k := 0) (p := 1) (by decide +kernel) rfl rfl ?_
  refine fs_gfr (idx := 31) (ci := 2) (j := 5) (p := 4) (by decide +kernel) rfl (by decide +kernel) g0 (fr_2_5 g0) ?_
  obtain ⟨q48, w47, h⟩ := fx_bd h
  refine fs_callV (idx := 88) (mj := 68) (ci := 7) (na := 0) (mx := 1) (p := 7) (args := [.ref (x0 + 30)]) (rest := []) (al2 := [some (.ref (x0 + 30))]) (by decide +kernel) rfl (by decide +kernel) (fg_2_5 g0) rfl rfl rfl rfl rfl rfl rfl (by omega) (fun d' hd' => fe_68 (by omega) w47) rfl ?_
  refine fs_aload_n (k := 0) (p := 8) (by decide +kernel) rfl rfl ?_
  refine fs_gfr (idx := 41) (ci := 2) (j := 10) (p := 11) (by decide +kernel) rfl (by decide +kernel) g0 (fr_2_10 g0) ?_
  obtain ⟨q50, w49, h⟩ := fx_bd h
  refine fs_callV (idx := 132) (mj := 58) (ci := 6) (na := 0) (mx := 1) (p := 14) (args := [.ref 1]) (rest := []) (al2 := [some (.ref 1)]) (by decide +kernel) rfl (by decide +kernel) fo_1 rfl rfl rfl rfl rfl rfl rfl (by omega) (fun d' hd' => fe_58 (by omega) w49) rfl ?_
  refine fs_istore_n (k := 1) (p := 15) (M := 4) (al' := [some (.ref x0), some (.int q50.1), none, none]) (by decide +kernel) rfl mx_26 rfl rfl ?_
  refine fs_iconst (n := 0) (p := 16) (by decide +kernel) rfl kc_0 ?_
  refine fs_istore_n (k := 2) (p := 17) (M := 4) (al' := [some (.ref x0), some (.int q50.1), some (.int (0 : Int32)), none]) (by decide +kernel) rfl mx_26 rfl rfl ?_
  exact fe_26_17 hd 100000 _ _ _ _ _ _ g0 h

/-! ZoneShares$Rounder.open(LZoneShares$Table;)V -/
theorem mx_42 : iv_mx 42 = 7 := by decide +kernel
theorem rt_42 : iv_rt 42 = none := by decide +kernel
def fm_42_115 (k_54 : Nat → Int64 → Int32 → fx_S → Option (fx_S)) (x1 : Nat) (x2 : Int64) (x4 : Int32) (s1 : Int32) (s2 : Int32) (s3 : Int32) (σ : fx_S) : Option (fx_S) :=
  (fx_st σ 10 s1 (s2 + s3)).bind fun t1 =>
  (fx_st t1 11 x4 (0 : Int32)).bind fun t4 =>
  k_54 x1 x2 (x4 + (1 : Int32)) t4
theorem fe_42_115 {d : Nat} (hd : 2 ≤ d) {k_54 : Nat → Int64 → Int32 → fx_S → Option (fx_S)} (hk_54 : ∀ (x1 : Nat) (x2 : Int64) (x4 : Int32) (o5 : Option Value) (σ : fx_S) (q : fx_S) (g1 : fx_oc x1 7 = true), k_54 x1 x2 x4 σ = some q → fx_E none 42 d 54 [some (.ref 6), some (.ref x1), some (.long x2), none, some (.int x4), o5, none] [] σ none q) (x1 : Nat) (x2 : Int64) (x4 : Int32) (s1 : Int32) (s2 : Int32) (s3 : Int32) (o5 : Option Value) (σ : fx_S) (q : fx_S) (g1 : fx_oc x1 7 = true) (h : fm_42_115 k_54  x1 x2 x4 s1 s2 s3 σ = some q) : fx_E none 42 d 115 [some (.ref 6), some (.ref x1), some (.long x2), none, some (.int x4), o5, none] [.int s3, .int s2, .int s1, .ref 10] σ none q := by
  unfold fm_42_115 at h
  refine fs_iadd (p := 116) (by decide +kernel) rfl ?_
  obtain ⟨t1, w2, h⟩ := fx_bd h
  refine fs_iastore (p := 117) (by decide +kernel) rfl w2 ?_
  refine fs_aload_n (k := 0) (p := 118) (by decide +kernel) rfl rfl ?_
  refine fs_gfr (idx := 24) (ci := 5) (j := 4) (p := 121) (by decide +kernel) rfl (by decide +kernel) fo_6 (fr_a6_4) ?_
  refine fs_iload (k := 4) (p := 123) (by decide +kernel) rfl rfl ?_
  refine fs_iconst (n := 0) (p := 124) (by decide +kernel) rfl kc_0 ?_
  obtain ⟨t4, w5, h⟩ := fx_bd h
  refine fs_iastore (p := 125) (by decide +kernel) rfl w5 ?_
  refine fs_iinc (k := 4) (n := 1) (p := 128) (M := 7) (al' := [some (.ref 6), some (.ref x1), some (.long x2), none, some (.int (x4 + (1 : Int32))), o5, none]) (by decide +kernel) rfl kc_1 mx_42 rfl rfl rfl ?_
  refine fs_goto (off := -74) (p := 54) (by decide +kernel) (by decide +kernel) ?_
  exact hk_54 _ _ _ _ _ _ g1 h
def fm_42_54 : Nat → Nat → Int64 → Int32 → fx_S → Option (fx_S)
  | 0, _, _, _, _ => none
  | n + 1, x1, x2, x4, σ =>
    if (9 : Int32) ≤ x4 then (
      some σ) else (
      if x2 ≤ (0 : Int64) then (
        some σ) else (
        (fm_79 x1 x4 x2 σ).bind fun q6 =>
        if ¬ x2 = 0 then (
        (fx_st q6.2 9 x4 ((q6.1 / x2)).toInt32).bind fun t9 =>
        (fx_ld t9 9 x4).bind fun v12 =>
        if ¬ x2 = 0 then (
        if ¬ (q6.1 - q6.1 / x2 * x2) = (0 : Int64) then (
          fm_42_115 (fm_42_54 n) x1 x2 x4 x4 v12 (1 : Int32) t9) else (
          fm_42_115 (fm_42_54 n) x1 x2 x4 x4 v12 (0 : Int32) t9)) else none) else none))
theorem fe_42_54 {d : Nat} (hd : 2 ≤ d) : ∀ (n : Nat) (x1 : Nat) (x2 : Int64) (x4 : Int32) (o5 : Option Value) (σ : fx_S) (q : fx_S) (g1 : fx_oc x1 7 = true), fm_42_54 n x1 x2 x4 σ = some q → fx_E none 42 d 54 [some (.ref 6), some (.ref x1), some (.long x2), none, some (.int x4), o5, none] [] σ none q := by
  intro n
  induction n with
  | zero =>
    intro x1 x2 x4 o5 σ q g1 h
    rw [fm_42_54] at h
    exact fx_no h
  | succ n ih =>
    intro x1 x2 x4 o5 σ q g1 h
    rw [fm_42_54] at h
    refine fs_iload (k := 4) (p := 56) (by decide +kernel) rfl rfl ?_
    refine fs_bipush (n := 9) (p := 58) (by decide +kernel) rfl kb_9 ?_
    by_cases c2 : (9 : Int32) ≤ x4
    · rw [if_pos c2] at h
      refine fs_icmp_ge_t (off := 73) (t := 131) (by decide +kernel) (by decide +kernel) c2 ?_
      have h := Option.some.inj h
      subst h
      exact fs_ret (by decide +kernel) rt_42
    · rw [if_neg c2] at h
      refine fs_icmp_ge_f (off := 73) (t := 131) (p := 61) (by decide +kernel) (by decide +kernel) rfl c2 ?_
      refine fs_lload_n (k := 2) (p := 62) (by decide +kernel) rfl rfl ?_
      refine fs_lconst (n := 0) (p := 63) (by decide +kernel) rfl kl_0 ?_
      by_cases c4 : x2 ≤ (0 : Int64)
      · rw [if_pos c4] at h
        refine fs_lcmp_le_t (off := 67) (t := 131) (by decide +kernel) (by decide +kernel) (by decide +kernel) c4 ?_
        have h := Option.some.inj h
        subst h
        exact fs_ret (by decide +kernel) rt_42
      · rw [if_neg c4] at h
        refine fs_lcmp_le_f (off := 67) (t := 131) (p := 67) (by decide +kernel) (by decide +kernel) (by decide +kernel) rfl c4 ?_
        refine fs_aload_n (k := 1) (p := 68) (by decide +kernel) rfl rfl ?_
        refine fs_iload (k := 4) (p := 70) (by decide +kernel) rfl rfl ?_
        refine fs_lload_n (k := 2) (p := 71) (by decide +kernel) rfl rfl ?_
        obtain ⟨q6, w5, h⟩ := fx_bd h
        refine fs_callV (idx := 73) (mj := 79) (ci := 7) (na := 2) (mx := 7) (p := 74) (args := [.ref x1, .int x4, .long x2]) (rest := []) (al2 := [some (.ref x1), some (.int x4), some (.long x2), none, none, none, none]) (by decide +kernel) rfl (by decide +kernel) g1 rfl rfl rfl rfl rfl rfl rfl (by omega) (fun d' hd' => fe_79 (by omega) w5) rfl ?_
        refine fs_lstore (k := 5) (p := 76) (M := 7) (al' := [some (.ref 6), some (.ref x1), some (.long x2), none, some (.int x4), some (.long q6.1), none]) (by decide +kernel) rfl mx_42 rfl rfl ?_
        refine fs_aload_n (k := 0) (p := 77) (by decide +kernel) rfl rfl ?_
        refine fs_gfr (idx := 18) (ci := 5) (j := 2) (p := 80) (by decide +kernel) rfl (by decide +kernel) fo_6 (fr_a6_2) ?_
        refine fs_iload (k := 4) (p := 82) (by decide +kernel) rfl rfl ?_
        refine fs_lload (k := 5) (p := 84) (by decide +kernel) rfl rfl ?_
        refine fs_lload_n (k := 2) (p := 85) (by decide +kernel) rfl rfl ?_
        obtain ⟨z8, h⟩ := fx_gd h
        refine fs_ldiv (p := 86) (by decide +kernel) rfl z8 ?_
        refine fs_l2i (p := 87) (by decide +kernel) rfl ?_
        obtain ⟨t9, w10, h⟩ := fx_bd h
        refine fs_iastore (p := 88) (by decide +kernel) rfl w10 ?_
        refine fs_aload_n (k := 0) (p := 89) (by decide +kernel) rfl rfl ?_
        refine fs_gfr (idx := 21) (ci := 5) (j := 3) (p := 92) (by decide +kernel) rfl (by decide +kernel) fo_6 (fr_a6_3) ?_
        refine fs_iload (k := 4) (p := 94) (by decide +kernel) rfl rfl ?_
        refine fs_aload_n (k := 0) (p := 95) (by decide +kernel) rfl rfl ?_
        refine fs_gfr (idx := 18) (ci := 5) (j := 2) (p := 98) (by decide +kernel) rfl (by decide +kernel) fo_6 (fr_a6_2) ?_
        refine fs_iload (k := 4) (p := 100) (by decide +kernel) rfl rfl ?_
        obtain ⟨v12, w13, h⟩ := fx_bd h
        refine fs_iaload (p := 101) (by decide +kernel) rfl w13 ?_
        refine fs_lload (k := 5) (p := 103) (by decide +kernel) rfl rfl ?_
        refine fs_lload_n (k := 2) (p := 104) (by decide +kernel) rfl rfl ?_
        obtain ⟨z14, h⟩ := fx_gd h
        refine fs_lrem (p := 105) (by decide +kernel) rfl z14 ?_
        refine fs_lconst (n := 0) (p := 106) (by decide +kernel) rfl kl_0 ?_
        by_cases c16 : ¬ (q6.1 - q6.1 / x2 * x2) = (0 : Int64)
        · rw [if_pos c16] at h
          refine fs_lcmp_ne_t (off := 7) (t := 114) (by decide +kernel) (by decide +kernel) (by decide +kernel) c16 ?_
          refine fs_iconst (n := 1) (p := 115) (by decide +kernel) rfl kc_1 ?_
          exact fe_42_115 hd ih _ _ _ _ _ _ _ _ _ g1 h
        · rw [if_neg c16] at h
          refine fs_lcmp_ne_f (off := 7) (t := 114) (p := 110) (by decide +kernel) (by decide +kernel) (by decide +kernel) rfl c16 ?_
          refine fs_iconst (n := 0) (p := 111) (by decide +kernel) rfl kc_0 ?_
          refine fs_goto (off := 4) (p := 115) (by decide +kernel) (by decide +kernel) ?_
          exact fe_42_115 hd ih _ _ _ _ _ _ _ _ _ g1 h
def fm_42_36 (k_8 : Nat → Int64 → Int32 → fx_S → Option (fx_S)) (x1 : Nat) (x2 : Int64) (x4 : Int32) (s1 : Int32) (s2 : Int32) (σ : fx_S) : Option (fx_S) :=
  (fx_st σ 7 s1 s2).bind fun t1 =>
  (fx_st t1 8 x4 (0 : Int32)).bind fun t4 =>
  k_8 x1 x2 (x4 + (1 : Int32)) t4
theorem fe_42_36 {d : Nat} (hd : 2 ≤ d) {k_8 : Nat → Int64 → Int32 → fx_S → Option (fx_S)} (hk_8 : ∀ (x1 : Nat) (x2 : Int64) (x4 : Int32) (σ : fx_S) (q : fx_S) (g1 : fx_oc x1 7 = true), k_8 x1 x2 x4 σ = some q → fx_E none 42 d 8 [some (.ref 6), some (.ref x1), some (.long x2), none, some (.int x4), none, none] [] σ none q) (x1 : Nat) (x2 : Int64) (x4 : Int32) (s1 : Int32) (s2 : Int32) (σ : fx_S) (q : fx_S) (g1 : fx_oc x1 7 = true) (h : fm_42_36 k_8  x1 x2 x4 s1 s2 σ = some q) : fx_E none 42 d 36 [some (.ref 6), some (.ref x1), some (.long x2), none, some (.int x4), none, none] [.int s2, .int s1, .ref 7] σ none q := by
  unfold fm_42_36 at h
  obtain ⟨t1, w2, h⟩ := fx_bd h
  refine fs_iastore (p := 37) (by decide +kernel) rfl w2 ?_
  refine fs_aload_n (k := 0) (p := 38) (by decide +kernel) rfl rfl ?_
  refine fs_gfr (idx := 15) (ci := 5) (j := 1) (p := 41) (by decide +kernel) rfl (by decide +kernel) fo_6 (fr_a6_1) ?_
  refine fs_iload (k := 4) (p := 43) (by decide +kernel) rfl rfl ?_
  refine fs_iconst (n := 0) (p := 44) (by decide +kernel) rfl kc_0 ?_
  obtain ⟨t4, w5, h⟩ := fx_bd h
  refine fs_iastore (p := 45) (by decide +kernel) rfl w5 ?_
  refine fs_iinc (k := 4) (n := 1) (p := 48) (M := 7) (al' := [some (.ref 6), some (.ref x1), some (.long x2), none, some (.int (x4 + (1 : Int32))), none, none]) (by decide +kernel) rfl kc_1 mx_42 rfl rfl rfl ?_
  refine fs_goto (off := -40) (p := 8) (by decide +kernel) (by decide +kernel) ?_
  exact hk_8 _ _ _ _ _ g1 h
def fm_42_8 : Nat → Nat → Int64 → Int32 → fx_S → Option (fx_S)
  | 0, _, _, _, _ => none
  | n + 1, x1, x2, x4, σ =>
    if (72 : Int32) ≤ x4 then (
      fm_42_54 100000 x1 x2 (0 : Int32) σ) else (
      (fx_ld σ (x1 + 7) x4).bind fun v3 =>
      if v3 ≤ 0 then (
        fm_42_36 (fm_42_8 n) x1 x2 x4 x4 (0 : Int32) σ) else (
        fm_42_36 (fm_42_8 n) x1 x2 x4 x4 (1 : Int32) σ))
theorem fe_42_8 {d : Nat} (hd : 2 ≤ d) : ∀ (n : Nat) (x1 : Nat) (x2 : Int64) (x4 : Int32) (σ : fx_S) (q : fx_S) (g1 : fx_oc x1 7 = true), fm_42_8 n x1 x2 x4 σ = some q → fx_E none 42 d 8 [some (.ref 6), some (.ref x1), some (.long x2), none, some (.int x4), none, none] [] σ none q := by
  intro n
  induction n with
  | zero =>
    intro x1 x2 x4 σ q g1 h
    rw [fm_42_8] at h
    exact fx_no h
  | succ n ih =>
    intro x1 x2 x4 σ q g1 h
    rw [fm_42_8] at h
    refine fs_iload (k := 4) (p := 10) (by decide +kernel) rfl rfl ?_
    refine fs_bipush (n := 72) (p := 12) (by decide +kernel) rfl kb_72 ?_
    by_cases c2 : (72 : Int32) ≤ x4
    · rw [if_pos c2] at h
      refine fs_icmp_ge_t (off := 39) (t := 51) (by decide +kernel) (by decide +kernel) c2 ?_
      refine fs_iconst (n := 0) (p := 52) (by decide +kernel) rfl kc_0 ?_
      refine fs_istore (k := 4) (p := 54) (M := 7) (al' := [some (.ref 6), some (.ref x1), some (.long x2), none, some (.int (0 : Int32)), none, none]) (by decide +kernel) rfl mx_42 rfl rfl ?_
      exact fe_42_54 hd 100000 _ _ _ _ _ _ g1 h
    · rw [if_neg c2] at h
      refine fs_icmp_ge_f (off := 39) (t := 51) (p := 15) (by decide +kernel) (by decide +kernel) rfl c2 ?_
      refine fs_aload_n (k := 0) (p := 16) (by decide +kernel) rfl rfl ?_
      refine fs_gfr (idx := 11) (ci := 5) (j := 0) (p := 19) (by decide +kernel) rfl (by decide +kernel) fo_6 (fr_a6_0) ?_
      refine fs_iload (k := 4) (p := 21) (by decide +kernel) rfl rfl ?_
      refine fs_aload_n (k := 1) (p := 22) (by decide +kernel) rfl rfl ?_
      refine fs_gfr (idx := 70) (ci := 7) (j := 6) (p := 25) (by decide +kernel) rfl (by decide +kernel) g1 (fr_7_6 g1) ?_
      refine fs_iload (k := 4) (p := 27) (by decide +kernel) rfl rfl ?_
      obtain ⟨v3, w4, h⟩ := fx_bd h
      refine fs_iaload (p := 28) (by decide +kernel) rfl w4 ?_
      by_cases c7 : v3 ≤ 0
      · rw [if_pos c7] at h
        refine fs_if_le_t (off := 7) (t := 35) (by decide +kernel) (by decide +kernel) c7 ?_
        refine fs_iconst (n := 0) (p := 36) (by decide +kernel) rfl kc_0 ?_
        exact fe_42_36 hd ih _ _ _ _ _ _ _ g1 h
      · rw [if_neg c7] at h
        refine fs_if_le_f (off := 7) (t := 35) (p := 31) (by decide +kernel) (by decide +kernel) rfl c7 ?_
        refine fs_iconst (n := 1) (p := 32) (by decide +kernel) rfl kc_1 ?_
        refine fs_goto (off := 4) (p := 36) (by decide +kernel) (by decide +kernel) ?_
        exact fe_42_36 hd ih _ _ _ _ _ _ _ g1 h
def fm_42 (x1 : Nat) (σ : fx_S) : Option (fx_S) :=
  if fx_oc x1 7 = true then (
  (fm_78 x1 σ).bind fun q55 =>
  fm_42_8 100000 x1 q55.1 (0 : Int32) q55.2) else none
theorem fe_42 {d : Nat} (hd : 2 ≤ d) {x1 : Nat} {σ : fx_S} {q : fx_S} (h : fm_42 x1 σ = some q) : fx_E none 42 d 0 [some (.ref 6), some (.ref x1), none, none, none, none, none] [] σ none q := by
  unfold fm_42 at h
  obtain ⟨g1, h⟩ := fx_gd h
  refine fs_aload_n (k := 1) (p := 1) (by decide +kernel) rfl rfl ?_
  obtain ⟨q55, w54, h⟩ := fx_bd h
  refine fs_callV (idx := 66) (mj := 78) (ci := 7) (na := 0) (mx := 6) (p := 4) (args := [.ref x1]) (rest := []) (al2 := [some (.ref x1), none, none, none, none, none]) (by decide +kernel) rfl (by decide +kernel) g1 rfl rfl rfl rfl rfl rfl rfl (by omega) (fun d' hd' => fe_78 (by omega) w54) rfl ?_
  refine fs_lstore_n (k := 2) (p := 5) (M := 7) (al' := [some (.ref 6), some (.ref x1), some (.long q55.1), none, none, none, none]) (by decide +kernel) rfl mx_42 rfl rfl ?_
  refine fs_iconst (n := 0) (p := 6) (by decide +kernel) rfl kc_0 ?_
  refine fs_istore (k := 4) (p := 8) (M := 7) (al' := [some (.ref 6), some (.ref x1), some (.long q55.1), none, some (.int (0 : Int32)), none, none]) (by decide +kernel) rfl mx_42 rfl rfl ?_
  exact fe_42_8 hd 100000 _ _ _ _ _ g1 h

/-! ZoneShares$Rounder.fillRow(II)V -/
theorem mx_43 : iv_mx 43 = 4 := by decide +kernel
theorem rt_43 : iv_rt 43 = none := by decide +kernel
def fm_43_30 (k_2 : Int32 → Int32 → Int32 → fx_S → Option (fx_S)) (x1 : Int32) (x2 : Int32) (x3 : Int32) (σ : fx_S) : Option (fx_S) :=
  k_2 x1 x2 (x3 + (1 : Int32)) σ
theorem fe_43_30 {d : Nat} (hd : 3 ≤ d) {k_2 : Int32 → Int32 → Int32 → fx_S → Option (fx_S)} (hk_2 : ∀ (x1 : Int32) (x2 : Int32) (x3 : Int32) (σ : fx_S) (q : fx_S), k_2 x1 x2 x3 σ = some q → fx_E none 43 d 2 [some (.ref 6), some (.int x1), some (.int x2), some (.int x3)] [] σ none q) (x1 : Int32) (x2 : Int32) (x3 : Int32) (σ : fx_S) (q : fx_S) (h : fm_43_30 k_2  x1 x2 x3 σ = some q) : fx_E none 43 d 30 [some (.ref 6), some (.int x1), some (.int x2), some (.int x3)] [] σ none q := by
  unfold fm_43_30 at h
  refine fs_iinc (k := 3) (n := 1) (p := 33) (M := 4) (al' := [some (.ref 6), some (.int x1), some (.int x2), some (.int (x3 + (1 : Int32)))]) (by decide +kernel) rfl kc_1 mx_43 rfl rfl rfl ?_
  refine fs_goto (off := -31) (p := 2) (by decide +kernel) (by decide +kernel) ?_
  exact hk_2 _ _ _ _ _ h
def fm_43_2 : Nat → Int32 → Int32 → Int32 → fx_S → Option (fx_S)
  | 0, _, _, _, _ => none
  | n + 1, x1, x2, x3, σ =>
    if x2 ≤ x3 then (
      some σ) else (
      if (9 : Int32) ≤ x3 then (
        some σ) else (
        (fm_46 x1 (17 : Int32) σ).bind fun q6 =>
        if (fx_b q6.1) = 0 then (
          fm_43_30 (fm_43_2 n) x1 x2 x3 q6.2) else (
          (fm_51 x1 (17 : Int32) q6.2).bind fun q9 =>
          fm_43_30 (fm_43_2 n) x1 x2 x3 q9)))
theorem fe_43_2 {d : Nat} (hd : 3 ≤ d) : ∀ (n : Nat) (x1 : Int32) (x2 : Int32) (x3 : Int32) (σ : fx_S) (q : fx_S), fm_43_2 n x1 x2 x3 σ = some q → fx_E none 43 d 2 [some (.ref 6), some (.int x1), some (.int x2), some (.int x3)] [] σ none q := by
  intro n
  induction n with
  | zero =>
    intro x1 x2 x3 σ q  h
    rw [fm_43_2] at h
    exact fx_no h
  | succ n ih =>
    intro x1 x2 x3 σ q  h
    rw [fm_43_2] at h
    refine fs_iload_n (k := 3) (p := 3) (by decide +kernel) rfl rfl ?_
    refine fs_iload_n (k := 2) (p := 4) (by decide +kernel) rfl rfl ?_
    by_cases c3 : x2 ≤ x3
    · rw [if_pos c3] at h
      refine fs_icmp_ge_t (off := 32) (t := 36) (by decide +kernel) (by decide +kernel) c3 ?_
      have h := Option.some.inj h
      subst h
      exact fs_ret (by decide +kernel) rt_43
    · rw [if_neg c3] at h
      refine fs_icmp_ge_f (off := 32) (t := 36) (p := 7) (by decide +kernel) (by decide +kernel) rfl c3 ?_
      refine fs_iload_n (k := 3) (p := 8) (by decide +kernel) rfl rfl ?_
      refine fs_bipush (n := 9) (p := 10) (by decide +kernel) rfl kb_9 ?_
      by_cases c4 : (9 : Int32) ≤ x3
      · rw [if_pos c4] at h
        refine fs_icmp_ge_t (off := 26) (t := 36) (by decide +kernel) (by decide +kernel) c4 ?_
        have h := Option.some.inj h
        subst h
        exact fs_ret (by decide +kernel) rt_43
      · rw [if_neg c4] at h
        refine fs_icmp_ge_f (off := 26) (t := 36) (p := 13) (by decide +kernel) (by decide +kernel) rfl c4 ?_
        refine fs_aload_n (k := 0) (p := 14) (by decide +kernel) rfl rfl ?_
        refine fs_iload_n (k := 1) (p := 15) (by decide +kernel) rfl rfl ?_
        refine fs_bipush (n := 17) (p := 17) (by decide +kernel) rfl kb_17 ?_
        obtain ⟨q6, w5, h⟩ := fx_bd h
        refine fs_callV (idx := 77) (mj := 46) (ci := 5) (na := 2) (mx := 5) (p := 20) (args := [.ref 6, .int x1, .int (17 : Int32)]) (rest := []) (al2 := [some (.ref 6), some (.int x1), some (.int (17 : Int32)), none, none]) (by decide +kernel) rfl (by decide +kernel) fo_6 rfl rfl rfl rfl rfl rfl rfl (by omega) (fun d' hd' => fe_46 (by omega) w5) rfl ?_
        by_cases c7 : (fx_b q6.1) = 0
        · rw [if_pos c7] at h
          refine fs_if_eq_t (off := 10) (t := 30) (by decide +kernel) (by decide +kernel) c7 ?_
          exact fe_43_30 hd ih _ _ _ _ _ h
        · rw [if_neg c7] at h
          refine fs_if_eq_f (off := 10) (t := 30) (p := 23) (by decide +kernel) (by decide +kernel) rfl c7 ?_
          refine fs_aload_n (k := 0) (p := 24) (by decide +kernel) rfl rfl ?_
          refine fs_iload_n (k := 1) (p := 25) (by decide +kernel) rfl rfl ?_
          refine fs_bipush (n := 17) (p := 27) (by decide +kernel) rfl kb_17 ?_
          obtain ⟨q9, w8, h⟩ := fx_bd h
          refine fs_callV (idx := 81) (mj := 51) (ci := 5) (na := 2) (mx := 5) (p := 30) (args := [.ref 6, .int x1, .int (17 : Int32)]) (rest := []) (al2 := [some (.ref 6), some (.int x1), some (.int (17 : Int32)), none, none]) (by decide +kernel) rfl (by decide +kernel) fo_6 rfl rfl rfl rfl rfl rfl rfl (by omega) (fun d' hd' => fe_51 (by omega) w8) rfl ?_
          exact fe_43_30 hd ih _ _ _ _ _ h
def fm_43 (x1 : Int32) (x2 : Int32) (σ : fx_S) : Option (fx_S) :=
  fm_43_2 100000 x1 x2 (0 : Int32) σ
theorem fe_43 {d : Nat} (hd : 3 ≤ d) {x1 : Int32} {x2 : Int32} {σ : fx_S} {q : fx_S} (h : fm_43 x1 x2 σ = some q) : fx_E none 43 d 0 [some (.ref 6), some (.int x1), some (.int x2), none] [] σ none q := by
  unfold fm_43 at h
  refine fs_iconst (n := 0) (p := 1) (by decide +kernel) rfl kc_0 ?_
  refine fs_istore_n (k := 3) (p := 2) (M := 4) (al' := [some (.ref 6), some (.int x1), some (.int x2), some (.int (0 : Int32))]) (by decide +kernel) rfl mx_43 rfl rfl ?_
  exact fe_43_2 hd 100000 _ _ _ _ _ h

/-! ZoneShares$Rounder.fillColumn(I)V -/
theorem mx_44 : iv_mx 44 = 3 := by decide +kernel
theorem rt_44 : iv_rt 44 = none := by decide +kernel
def fm_44_56 (k_2 : Int32 → Int32 → fx_S → Option (fx_S)) (x1 : Int32) (x2 : Int32) (σ : fx_S) : Option (fx_S) :=
  k_2 x1 (x2 + (1 : Int32)) σ
theorem fe_44_56 {d : Nat} (hd : 3 ≤ d) {k_2 : Int32 → Int32 → fx_S → Option (fx_S)} (hk_2 : ∀ (x1 : Int32) (x2 : Int32) (σ : fx_S) (q : fx_S), k_2 x1 x2 σ = some q → fx_E none 44 d 2 [some (.ref 6), some (.int x1), some (.int x2)] [] σ none q) (x1 : Int32) (x2 : Int32) (σ : fx_S) (q : fx_S) (h : fm_44_56 k_2  x1 x2 σ = some q) : fx_E none 44 d 56 [some (.ref 6), some (.int x1), some (.int x2)] [] σ none q := by
  unfold fm_44_56 at h
  refine fs_iinc (k := 2) (n := 1) (p := 59) (M := 3) (al' := [some (.ref 6), some (.int x1), some (.int (x2 + (1 : Int32)))]) (by decide +kernel) rfl kc_1 mx_44 rfl rfl rfl ?_
  refine fs_goto (off := -57) (p := 2) (by decide +kernel) (by decide +kernel) ?_
  exact hk_2 _ _ _ _ h
def fm_44_2 : Nat → Int32 → Int32 → fx_S → Option (fx_S)
  | 0, _, _, _ => none
  | n + 1, x1, x2, σ =>
    if (8 : Int32) ≤ x2 then (
      some σ) else (
      (fx_ld σ 11 x1).bind fun v3 =>
      (fx_ld σ 9 x1).bind fun v6 =>
      if v6 ≤ v3 then (
        some σ) else (
        (fm_46 (17 : Int32) ((8 : Int32) + x1) σ).bind fun q12 =>
        if (fx_b q12.1) = 0 then (
          fm_44_56 (fm_44_2 n) x1 x2 q12.2) else (
          (fm_51 (17 : Int32) ((8 : Int32) + x1) q12.2).bind fun q15 =>
          (fx_ld q15 11 x1).bind fun v16 =>
          (fx_st q15 11 x1 (v16 + (1 : Int32))).bind fun t18 =>
          fm_44_56 (fm_44_2 n) x1 x2 t18)))
theorem fe_44_2 {d : Nat} (hd : 3 ≤ d) : ∀ (n : Nat) (x1 : Int32) (x2 : Int32) (σ : fx_S) (q : fx_S), fm_44_2 n x1 x2 σ = some q → fx_E none 44 d 2 [some (.ref 6), some (.int x1), some (.int x2)] [] σ none q := by
  intro n
  induction n with
  | zero =>
    intro x1 x2 σ q  h
    rw [fm_44_2] at h
    exact fx_no h
  | succ n ih =>
    intro x1 x2 σ q  h
    rw [fm_44_2] at h
    refine fs_iload_n (k := 2) (p := 3) (by decide +kernel) rfl rfl ?_
    refine fs_bipush (n := 8) (p := 5) (by decide +kernel) rfl kb_8 ?_
    by_cases c2 : (8 : Int32) ≤ x2
    · rw [if_pos c2] at h
      refine fs_icmp_ge_t (off := 57) (t := 62) (by decide +kernel) (by decide +kernel) c2 ?_
      have h := Option.some.inj h
      subst h
      exact fs_ret (by decide +kernel) rt_44
    · rw [if_neg c2] at h
      refine fs_icmp_ge_f (off := 57) (t := 62) (p := 8) (by decide +kernel) (by decide +kernel) rfl c2 ?_
      refine fs_aload_n (k := 0) (p := 9) (by decide +kernel) rfl rfl ?_
      refine fs_gfr (idx := 24) (ci := 5) (j := 4) (p := 12) (by decide +kernel) rfl (by decide +kernel) fo_6 (fr_a6_4) ?_
      refine fs_iload_n (k := 1) (p := 13) (by decide +kernel) rfl rfl ?_
      obtain ⟨v3, w4, h⟩ := fx_bd h
      refine fs_iaload (p := 14) (by decide +kernel) rfl w4 ?_
      refine fs_aload_n (k := 0) (p := 15) (by decide +kernel) rfl rfl ?_
      refine fs_gfr (idx := 18) (ci := 5) (j := 2) (p := 18) (by decide +kernel) rfl (by decide +kernel) fo_6 (fr_a6_2) ?_
      refine fs_iload_n (k := 1) (p := 19) (by decide +kernel) rfl rfl ?_
      obtain ⟨v6, w7, h⟩ := fx_bd h
      refine fs_iaload (p := 20) (by decide +kernel) rfl w7 ?_
      by_cases c10 : v6 ≤ v3
      · rw [if_pos c10] at h
        refine fs_icmp_ge_t (off := 42) (t := 62) (by decide +kernel) (by decide +kernel) c10 ?_
        have h := Option.some.inj h
        subst h
        exact fs_ret (by decide +kernel) rt_44
      · rw [if_neg c10] at h
        refine fs_icmp_ge_f (off := 42) (t := 62) (p := 23) (by decide +kernel) (by decide +kernel) rfl c10 ?_
        refine fs_aload_n (k := 0) (p := 24) (by decide +kernel) rfl rfl ?_
        refine fs_bipush (n := 17) (p := 26) (by decide +kernel) rfl kb_17 ?_
        refine fs_bipush (n := 8) (p := 28) (by decide +kernel) rfl kb_8 ?_
        refine fs_iload_n (k := 1) (p := 29) (by decide +kernel) rfl rfl ?_
        refine fs_iadd (p := 30) (by decide +kernel) rfl ?_
        obtain ⟨q12, w11, h⟩ := fx_bd h
        refine fs_callV (idx := 77) (mj := 46) (ci := 5) (na := 2) (mx := 5) (p := 33) (args := [.ref 6, .int (17 : Int32), .int ((8 : Int32) + x1)]) (rest := []) (al2 := [some (.ref 6), some (.int (17 : Int32)), some (.int ((8 : Int32) + x1)), none, none]) (by decide +kernel) rfl (by decide +kernel) fo_6 rfl rfl rfl rfl rfl rfl rfl (by omega) (fun d' hd' => fe_46 (by omega) w11) rfl ?_
        by_cases c13 : (fx_b q12.1) = 0
        · rw [if_pos c13] at h
          refine fs_if_eq_t (off := 23) (t := 56) (by decide +kernel) (by decide +kernel) c13 ?_
          exact fe_44_56 hd ih _ _ _ _ h
        · rw [if_neg c13] at h
          refine fs_if_eq_f (off := 23) (t := 56) (p := 36) (by decide +kernel) (by decide +kernel) rfl c13 ?_
          refine fs_aload_n (k := 0) (p := 37) (by decide +kernel) rfl rfl ?_
          refine fs_bipush (n := 17) (p := 39) (by decide +kernel) rfl kb_17 ?_
          refine fs_bipush (n := 8) (p := 41) (by decide +kernel) rfl kb_8 ?_
          refine fs_iload_n (k := 1) (p := 42) (by decide +kernel) rfl rfl ?_
          refine fs_iadd (p := 43) (by decide +kernel) rfl ?_
          obtain ⟨q15, w14, h⟩ := fx_bd h
          refine fs_callV (idx := 81) (mj := 51) (ci := 5) (na := 2) (mx := 5) (p := 46) (args := [.ref 6, .int (17 : Int32), .int ((8 : Int32) + x1)]) (rest := []) (al2 := [some (.ref 6), some (.int (17 : Int32)), some (.int ((8 : Int32) + x1)), none, none]) (by decide +kernel) rfl (by decide +kernel) fo_6 rfl rfl rfl rfl rfl rfl rfl (by omega) (fun d' hd' => fe_51 (by omega) w14) rfl ?_
          refine fs_aload_n (k := 0) (p := 47) (by decide +kernel) rfl rfl ?_
          refine fs_gfr (idx := 24) (ci := 5) (j := 4) (p := 50) (by decide +kernel) rfl (by decide +kernel) fo_6 (fr_a6_4) ?_
          refine fs_iload_n (k := 1) (p := 51) (by decide +kernel) rfl rfl ?_
          refine fs_dup2 (p := 52) (by decide +kernel) rfl rfl rfl ?_
          obtain ⟨v16, w17, h⟩ := fx_bd h
          refine fs_iaload (p := 53) (by decide +kernel) rfl w17 ?_
          refine fs_iconst (n := 1) (p := 54) (by decide +kernel) rfl kc_1 ?_
          refine fs_iadd (p := 55) (by decide +kernel) rfl ?_
          obtain ⟨t18, w19, h⟩ := fx_bd h
          refine fs_iastore (p := 56) (by decide +kernel) rfl w19 ?_
          exact fe_44_56 hd ih _ _ _ _ h
def fm_44 (x1 : Int32) (σ : fx_S) : Option (fx_S) :=
  fm_44_2 100000 x1 (0 : Int32) σ
theorem fe_44 {d : Nat} (hd : 3 ≤ d) {x1 : Int32} {σ : fx_S} {q : fx_S} (h : fm_44 x1 σ = some q) : fx_E none 44 d 0 [some (.ref 6), some (.int x1), none] [] σ none q := by
  unfold fm_44 at h
  refine fs_iconst (n := 0) (p := 1) (by decide +kernel) rfl kc_0 ?_
  refine fs_istore_n (k := 2) (p := 2) (M := 3) (al' := [some (.ref 6), some (.int x1), some (.int (0 : Int32))]) (by decide +kernel) rfl mx_44 rfl rfl ?_
  exact fe_44_2 hd 100000 _ _ _ _ h

/-! ZoneShares$Rounder.fix(I)V -/
theorem mx_45 : iv_mx 45 = 4 := by decide +kernel
theorem rt_45 : iv_rt 45 = none := by decide +kernel
def fm_45 (x1 : Int32) (σ : fx_S) : Option (fx_S) :=
  (fx_st σ 7 x1 (0 : Int32)).bind fun t16 =>
  (fx_ld t16 8 x1).bind fun v20 =>
  if ¬ v20 = 0 then (
    some t16) else (
    (fm_46 ((8 : Int32) + (x1 - x1 / (9 : Int32) * (9 : Int32))) (x1 / (9 : Int32)) t16).bind fun q25 =>
    if (fx_b q25.1) = 0 then (
      some q25.2) else (
      (fm_51 ((8 : Int32) + (x1 - x1 / (9 : Int32) * (9 : Int32))) (x1 / (9 : Int32)) q25.2).bind fun q28 =>
      (fx_st q28 8 x1 (1 : Int32)).bind fun t29 =>
      some t29))
theorem fe_45 {d : Nat} (hd : 3 ≤ d) {x1 : Int32} {σ : fx_S} {q : fx_S} (h : fm_45 x1 σ = some q) : fx_E none 45 d 0 [some (.ref 6), some (.int x1), none, none] [] σ none q := by
  unfold fm_45 at h
  refine fs_aload_n (k := 0) (p := 1) (by decide +kernel) rfl rfl ?_
  refine fs_gfr (idx := 11) (ci := 5) (j := 0) (p := 4) (by decide +kernel) rfl (by decide +kernel) fo_6 (fr_a6_0) ?_
  refine fs_iload_n (k := 1) (p := 5) (by decide +kernel) rfl rfl ?_
  refine fs_iconst (n := 0) (p := 6) (by decide +kernel) rfl kc_0 ?_
  obtain ⟨t16, w17, h⟩ := fx_bd h
  refine fs_iastore (p := 7) (by decide +kernel) rfl w17 ?_
  refine fs_iload_n (k := 1) (p := 8) (by decide +kernel) rfl rfl ?_
  refine fs_bipush (n := 9) (p := 10) (by decide +kernel) rfl kb_9 ?_
  refine fs_idiv (p := 11) (by decide +kernel) rfl (by decide) ?_
  refine fs_istore_n (k := 2) (p := 12) (M := 4) (al' := [some (.ref 6), some (.int x1), some (.int (x1 / (9 : Int32))), none]) (by decide +kernel) rfl mx_45 rfl rfl ?_
  refine fs_bipush (n := 8) (p := 14) (by decide +kernel) rfl kb_8 ?_
  refine fs_iload_n (k := 1) (p := 15) (by decide +kernel) rfl rfl ?_
  refine fs_bipush (n := 9) (p := 17) (by decide +kernel) rfl kb_9 ?_
  refine fs_irem (p := 18) (by decide +kernel) rfl (by decide) ?_
  refine fs_iadd (p := 19) (by decide +kernel) rfl ?_
  refine fs_istore_n (k := 3) (p := 20) (M := 4) (al' := [some (.ref 6), some (.int x1), some (.int (x1 / (9 : Int32))), some (.int ((8 : Int32) + (x1 - x1 / (9 : Int32) * (9 : Int32))))]) (by decide +kernel) rfl mx_45 rfl rfl ?_
  refine fs_aload_n (k := 0) (p := 21) (by decide +kernel) rfl rfl ?_
  refine fs_gfr (idx := 15) (ci := 5) (j := 1) (p := 24) (by decide +kernel) rfl (by decide +kernel) fo_6 (fr_a6_1) ?_
  refine fs_iload_n (k := 1) (p := 25) (by decide +kernel) rfl rfl ?_
  obtain ⟨v20, w21, h⟩ := fx_bd h
  refine fs_iaload (p := 26) (by decide +kernel) rfl w21 ?_
  by_cases c23 : ¬ v20 = 0
  · rw [if_pos c23] at h
    refine fs_if_ne_t (off := 25) (t := 51) (by decide +kernel) (by decide +kernel) c23 ?_
    have h := Option.some.inj h
    subst h
    exact fs_ret (by decide +kernel) rt_45
  · rw [if_neg c23] at h
    refine fs_if_ne_f (off := 25) (t := 51) (p := 29) (by decide +kernel) (by decide +kernel) rfl c23 ?_
    refine fs_aload_n (k := 0) (p := 30) (by decide +kernel) rfl rfl ?_
    refine fs_iload_n (k := 3) (p := 31) (by decide +kernel) rfl rfl ?_
    refine fs_iload_n (k := 2) (p := 32) (by decide +kernel) rfl rfl ?_
    obtain ⟨q25, w24, h⟩ := fx_bd h
    refine fs_callV (idx := 77) (mj := 46) (ci := 5) (na := 2) (mx := 5) (p := 35) (args := [.ref 6, .int ((8 : Int32) + (x1 - x1 / (9 : Int32) * (9 : Int32))), .int (x1 / (9 : Int32))]) (rest := []) (al2 := [some (.ref 6), some (.int ((8 : Int32) + (x1 - x1 / (9 : Int32) * (9 : Int32)))), some (.int (x1 / (9 : Int32))), none, none]) (by decide +kernel) rfl (by decide +kernel) fo_6 rfl rfl rfl rfl rfl rfl rfl (by omega) (fun d' hd' => fe_46 (by omega) w24) rfl ?_
    by_cases c26 : (fx_b q25.1) = 0
    · rw [if_pos c26] at h
      refine fs_if_eq_t (off := 16) (t := 51) (by decide +kernel) (by decide +kernel) c26 ?_
      have h := Option.some.inj h
      subst h
      exact fs_ret (by decide +kernel) rt_45
    · rw [if_neg c26] at h
      refine fs_if_eq_f (off := 16) (t := 51) (p := 38) (by decide +kernel) (by decide +kernel) rfl c26 ?_
      refine fs_aload_n (k := 0) (p := 39) (by decide +kernel) rfl rfl ?_
      refine fs_iload_n (k := 3) (p := 40) (by decide +kernel) rfl rfl ?_
      refine fs_iload_n (k := 2) (p := 41) (by decide +kernel) rfl rfl ?_
      obtain ⟨q28, w27, h⟩ := fx_bd h
      refine fs_callV (idx := 81) (mj := 51) (ci := 5) (na := 2) (mx := 5) (p := 44) (args := [.ref 6, .int ((8 : Int32) + (x1 - x1 / (9 : Int32) * (9 : Int32))), .int (x1 / (9 : Int32))]) (rest := []) (al2 := [some (.ref 6), some (.int ((8 : Int32) + (x1 - x1 / (9 : Int32) * (9 : Int32)))), some (.int (x1 / (9 : Int32))), none, none]) (by decide +kernel) rfl (by decide +kernel) fo_6 rfl rfl rfl rfl rfl rfl rfl (by omega) (fun d' hd' => fe_51 (by omega) w27) rfl ?_
      refine fs_aload_n (k := 0) (p := 45) (by decide +kernel) rfl rfl ?_
      refine fs_gfr (idx := 15) (ci := 5) (j := 1) (p := 48) (by decide +kernel) rfl (by decide +kernel) fo_6 (fr_a6_1) ?_
      refine fs_iload_n (k := 1) (p := 49) (by decide +kernel) rfl rfl ?_
      refine fs_iconst (n := 1) (p := 50) (by decide +kernel) rfl kc_1 ?_
      obtain ⟨t29, w30, h⟩ := fx_bd h
      refine fs_iastore (p := 51) (by decide +kernel) rfl w30 ?_
      have h := Option.some.inj h
      subst h
      exact fs_ret (by decide +kernel) rt_45

/-! ZoneShares.layer(I)I -/
theorem mx_87 : iv_mx 87 = 3 := by decide +kernel
theorem rt_87 : iv_rt 87 = some .int := by decide +kernel
def fm_87_26 (x1 : Int32) (σ : fx_S) : Option (Int32 × fx_S) :=
  (fm_34 x1 1 σ).bind fun q2 =>
  if q2.1 = (-1 : Int32) then (
    (fm_119 (fx_w1 q2.2 14 1 (0 : Int32))).bind fun q6 =>
    (fm_55 1 x1 q6).bind fun q8 =>
    (fm_58 1 q8).bind fun q10 =>
    some (q10.1, q10.2)) else (
    some (((-2 : Int32) - q2.1), (fx_w1 q2.2 14 1 (0 : Int32))))
theorem fe_87_26 {d : Nat} (hd : 3 ≤ d) (x1 : Int32) (σ : fx_S) (q : Int32 × fx_S) (h : fm_87_26  x1 σ = some q) : fx_E none 87 d 26 [some (.ref 0), some (.int x1), none] [] σ (some (.int q.1)) q.2 := by
  unfold fm_87_26 at h
  refine fs_aload_n (k := 0) (p := 27) (by decide +kernel) rfl rfl ?_
  refine fs_gfr (idx := 36) (ci := 9) (j := 3) (p := 30) (by decide +kernel) rfl (by decide +kernel) fo_0 (fr_a0_3) ?_
  refine fs_aload_n (k := 0) (p := 31) (by decide +kernel) rfl rfl ?_
  refine fs_gfr (idx := 22) (ci := 9) (j := 0) (p := 34) (by decide +kernel) rfl (by decide +kernel) fo_0 (fr_a0_0) ?_
  refine fs_iload_n (k := 1) (p := 35) (by decide +kernel) rfl rfl ?_
  refine fs_aload_n (k := 0) (p := 36) (by decide +kernel) rfl rfl ?_
  refine fs_gfr (idx := 13) (ci := 9) (j := 1) (p := 39) (by decide +kernel) rfl (by decide +kernel) fo_0 (fr_a0_1) ?_
  obtain ⟨q2, w1, h⟩ := fx_bd h
  refine fs_callV (idx := 79) (mj := 34) (ci := 4) (na := 3) (mx := 8) (p := 42) (args := [.ref 58, .ref 14, .int x1, .ref 1]) (rest := []) (al2 := [some (.ref 58), some (.ref 14), some (.int x1), some (.ref 1), none, none, none, none]) (by decide +kernel) rfl (by decide +kernel) fo_58 rfl rfl rfl rfl rfl rfl rfl (by omega) (fun d' hd' => fe_34 (by omega) w1) rfl ?_
  refine fs_istore_n (k := 2) (p := 43) (M := 3) (al' := [some (.ref 0), some (.int x1), some (.int q2.1)]) (by decide +kernel) rfl mx_87 rfl rfl ?_
  refine fs_aload_n (k := 0) (p := 44) (by decide +kernel) rfl rfl ?_
  refine fs_gfr (idx := 22) (ci := 9) (j := 0) (p := 47) (by decide +kernel) rfl (by decide +kernel) fo_0 (fr_a0_0) ?_
  refine fs_iconst (n := 0) (p := 48) (by decide +kernel) rfl kc_0 ?_
  refine fs_pfi (idx := 67) (ci := 8) (j := 1) (p := 51) (by decide +kernel) rfl (by decide +kernel) (by decide +kernel) fo_14 (fx_oki _ (by decide +kernel)) ?_
  refine fs_iload_n (k := 2) (p := 52) (by decide +kernel) rfl rfl ?_
  refine fs_iconst (n := -1) (p := 53) (by decide +kernel) rfl kc_m1 ?_
  by_cases c4 : q2.1 = (-1 : Int32)
  · rw [if_pos c4] at h
    refine fs_icmp_eq_t (off := 8) (t := 61) (by decide +kernel) (by decide +kernel) c4 ?_
    refine fs_aload_n (k := 0) (p := 62) (by decide +kernel) rfl rfl ?_
    obtain ⟨q6, w5, h⟩ := fx_bd h
    refine fs_callV (idx := 83) (mj := 119) (ci := 9) (na := 0) (mx := 1) (p := 65) (args := [.ref 0]) (rest := []) (al2 := [some (.ref 0)]) (by decide +kernel) rfl (by decide +kernel) fo_0 rfl rfl rfl rfl rfl rfl rfl (by omega) (fun d' hd' => fe_119 (by omega) w5) rfl ?_
    refine fs_aload_n (k := 0) (p := 66) (by decide +kernel) rfl rfl ?_
    refine fs_gfr (idx := 13) (ci := 9) (j := 1) (p := 69) (by decide +kernel) rfl (by decide +kernel) fo_0 (fr_a0_1) ?_
    refine fs_iload_n (k := 1) (p := 70) (by decide +kernel) rfl rfl ?_
    refine fs_aload_n (k := 0) (p := 71) (by decide +kernel) rfl rfl ?_
    refine fs_gfr (idx := 36) (ci := 9) (j := 3) (p := 74) (by decide +kernel) rfl (by decide +kernel) fo_0 (fr_a0_3) ?_
    obtain ⟨q8, w7, h⟩ := fx_bd h
    refine fs_callV (idx := 86) (mj := 55) (ci := 6) (na := 2) (mx := 3) (p := 77) (args := [.ref 1, .int x1, .ref 58]) (rest := []) (al2 := [some (.ref 1), some (.int x1), some (.ref 58)]) (by decide +kernel) rfl (by decide +kernel) fo_1 rfl rfl rfl rfl rfl rfl rfl (by omega) (fun d' hd' => fe_55 (by omega) w7) rfl ?_
    refine fs_aload_n (k := 0) (p := 78) (by decide +kernel) rfl rfl ?_
    refine fs_gfr (idx := 13) (ci := 9) (j := 1) (p := 81) (by decide +kernel) rfl (by decide +kernel) fo_0 (fr_a0_1) ?_
    obtain ⟨q10, w9, h⟩ := fx_bd h
    refine fs_callV (idx := 90) (mj := 58) (ci := 6) (na := 0) (mx := 1) (p := 84) (args := [.ref 1]) (rest := []) (al2 := [some (.ref 1)]) (by decide +kernel) rfl (by decide +kernel) fo_1 rfl rfl rfl rfl rfl rfl rfl (by omega) (fun d' hd' => fe_58 (by omega) w9) rfl ?_
    have h := Option.some.inj h
    subst h
    exact fs_iret (by decide +kernel) rt_87
  · rw [if_neg c4] at h
    refine fs_icmp_eq_f (off := 8) (t := 61) (p := 56) (by decide +kernel) (by decide +kernel) rfl c4 ?_
    refine fs_bipush (n := -2) (p := 58) (by decide +kernel) rfl kb_m2 ?_
    refine fs_iload_n (k := 2) (p := 59) (by decide +kernel) rfl rfl ?_
    refine fs_isub (p := 60) (by decide +kernel) rfl ?_
    have h := Option.some.inj h
    subst h
    exact fs_iret (by decide +kernel) rt_87
def fm_87 (x1 : Int32) (σ : fx_S) : Option (Int32 × fx_S) :=
  if x1 < 0 then (
    some ((-1 : Int32), σ)) else (
    if (2 : Int32) < x1 then (
      some ((-1 : Int32), σ)) else (
      if x1 = 0 then (
        fm_87_26 x1 σ) else (
        (fm_56 1 (0 : Int32) σ).bind fun q23 =>
        if ¬ (fx_b q23.1) = 0 then (
          fm_87_26 x1 q23.2) else (
          some ((-1 : Int32), q23.2)))))
theorem fe_87 {d : Nat} (hd : 3 ≤ d) {x1 : Int32} {σ : fx_S} {q : Int32 × fx_S} (h : fm_87 x1 σ = some q) : fx_E none 87 d 0 [some (.ref 0), some (.int x1), none] [] σ (some (.int q.1)) q.2 := by
  unfold fm_87 at h
  refine fs_iload_n (k := 1) (p := 1) (by decide +kernel) rfl rfl ?_
  by_cases c19 : x1 < 0
  · rw [if_pos c19] at h
    refine fs_if_lt_t (off := 23) (t := 24) (by decide +kernel) (by decide +kernel) c19 ?_
    refine fs_iconst (n := -1) (p := 25) (by decide +kernel) rfl kc_m1 ?_
    have h := Option.some.inj h
    subst h
    exact fs_iret (by decide +kernel) rt_87
  · rw [if_neg c19] at h
    refine fs_if_lt_f (off := 23) (t := 24) (p := 4) (by decide +kernel) (by decide +kernel) rfl c19 ?_
    refine fs_iload_n (k := 1) (p := 5) (by decide +kernel) rfl rfl ?_
    refine fs_iconst (n := 2) (p := 6) (by decide +kernel) rfl kc_2 ?_
    by_cases c20 : (2 : Int32) < x1
    · rw [if_pos c20] at h
      refine fs_icmp_gt_t (off := 18) (t := 24) (by decide +kernel) (by decide +kernel) c20 ?_
      refine fs_iconst (n := -1) (p := 25) (by decide +kernel) rfl kc_m1 ?_
      have h := Option.some.inj h
      subst h
      exact fs_iret (by decide +kernel) rt_87
    · rw [if_neg c20] at h
      refine fs_icmp_gt_f (off := 18) (t := 24) (p := 9) (by decide +kernel) (by decide +kernel) rfl c20 ?_
      refine fs_iload_n (k := 1) (p := 10) (by decide +kernel) rfl rfl ?_
      by_cases c21 : x1 = 0
      · rw [if_pos c21] at h
        refine fs_if_eq_t (off := 16) (t := 26) (by decide +kernel) (by decide +kernel) c21 ?_
        exact fe_87_26 hd _ _ _ h
      · rw [if_neg c21] at h
        refine fs_if_eq_f (off := 16) (t := 26) (p := 13) (by decide +kernel) (by decide +kernel) rfl c21 ?_
        refine fs_aload_n (k := 0) (p := 14) (by decide +kernel) rfl rfl ?_
        refine fs_gfr (idx := 13) (ci := 9) (j := 1) (p := 17) (by decide +kernel) rfl (by decide +kernel) fo_0 (fr_a0_1) ?_
        refine fs_iconst (n := 0) (p := 18) (by decide +kernel) rfl kc_0 ?_
        obtain ⟨q23, w22, h⟩ := fx_bd h
        refine fs_callV (idx := 75) (mj := 56) (ci := 6) (na := 1) (mx := 2) (p := 21) (args := [.ref 1, .int (0 : Int32)]) (rest := []) (al2 := [some (.ref 1), some (.int (0 : Int32))]) (by decide +kernel) rfl (by decide +kernel) fo_1 rfl rfl rfl rfl rfl rfl rfl (by omega) (fun d' hd' => fe_56 (by omega) w22) rfl ?_
        by_cases c24 : ¬ (fx_b q23.1) = 0
        · rw [if_pos c24] at h
          refine fs_if_ne_t (off := 5) (t := 26) (by decide +kernel) (by decide +kernel) c24 ?_
          exact fe_87_26 hd _ _ _ h
        · rw [if_neg c24] at h
          refine fs_if_ne_f (off := 5) (t := 26) (p := 24) (by decide +kernel) (by decide +kernel) rfl c24 ?_
          refine fs_iconst (n := -1) (p := 25) (by decide +kernel) rfl kc_m1 ?_
          have h := Option.some.inj h
          subst h
          exact fs_iret (by decide +kernel) rt_87
end
section
/-! ZoneShares.weigh(III)I -/
theorem mx_89 : iv_mx 89 = 9 := by decide +kernel
theorem rt_89 : iv_rt 89 = some .int := by decide +kernel
def fm_89_137 : Nat → Int32 → Int32 → Int32 → Int32 → Int32 → fx_S → Option (Int32 × fx_S)
  | 0, _, _, _, _, _, _ => none
  | n + 1, x2, x3, x5, x7, x8, σ =>
    if x5 < x8 then (
      some (x7, σ)) else (
      (fx_st σ 4 ((x8 * (4 : Int32)) + x2) x3).bind fun t4 =>
      fm_89_137 n x2 x3 x5 x7 (x8 + (1 : Int32)) t4)
theorem fe_89_137 {d : Nat} (hd : 3 ≤ d) : ∀ (n : Nat) (x2 : Int32) (x3 : Int32) (x5 : Int32) (x7 : Int32) (x8 : Int32) (o1 : Option Value) (o4 : Option Value) (o6 : Option Value) (σ : fx_S) (q : Int32 × fx_S), fm_89_137 n x2 x3 x5 x7 x8 σ = some q → fx_E none 89 d 137 [some (.ref 0), o1, some (.int x2), some (.int x3), o4, some (.int x5), o6, some (.int x7), some (.int x8)] [] σ (some (.int q.1)) q.2 := by
  intro n
  induction n with
  | zero =>
    intro x2 x3 x5 x7 x8 o1 o4 o6 σ q  h
    rw [fm_89_137] at h
    exact fx_no h
  | succ n ih =>
    intro x2 x3 x5 x7 x8 o1 o4 o6 σ q  h
    rw [fm_89_137] at h
    refine fs_iload (k := 8) (p := 139) (by decide +kernel) rfl rfl ?_
    refine fs_iload (k := 5) (p := 141) (by decide +kernel) rfl rfl ?_
    by_cases c3 : x5 < x8
    · rw [if_pos c3] at h
      refine fs_icmp_gt_t (off := 24) (t := 165) (by decide +kernel) (by decide +kernel) c3 ?_
      refine fs_iload (k := 7) (p := 167) (by decide +kernel) rfl rfl ?_
      have h := Option.some.inj h
      subst h
      exact fs_iret (by decide +kernel) rt_89
    · rw [if_neg c3] at h
      refine fs_icmp_gt_f (off := 24) (t := 165) (p := 144) (by decide +kernel) (by decide +kernel) rfl c3 ?_
      refine fs_aload_n (k := 0) (p := 145) (by decide +kernel) rfl rfl ?_
      refine fs_gfr (idx := 13) (ci := 9) (j := 1) (p := 148) (by decide +kernel) rfl (by decide +kernel) fo_0 (fr_a0_1) ?_
      refine fs_gfr (idx := 119) (ci := 6) (j := 2) (p := 151) (by decide +kernel) rfl (by decide +kernel) fo_1 (fr_a1_2) ?_
      refine fs_iload (k := 8) (p := 153) (by decide +kernel) rfl rfl ?_
      refine fs_iconst (n := 4) (p := 154) (by decide +kernel) rfl kc_4 ?_
      refine fs_imul (p := 155) (by decide +kernel) rfl ?_
      refine fs_iload_n (k := 2) (p := 156) (by decide +kernel) rfl rfl ?_
      refine fs_iadd (p := 157) (by decide +kernel) rfl ?_
      refine fs_iload_n (k := 3) (p := 158) (by decide +kernel) rfl rfl ?_
      obtain ⟨t4, w5, h⟩ := fx_bd h
      refine fs_iastore (p := 159) (by decide +kernel) rfl w5 ?_
      refine fs_iinc (k := 8) (n := 1) (p := 162) (M := 9) (al' := [some (.ref 0), o1, some (.int x2), some (.int x3), o4, some (.int x5), o6, some (.int x7), some (.int (x8 + (1 : Int32)))]) (by decide +kernel) rfl kc_1 mx_89 rfl rfl rfl ?_
      refine fs_goto (off := -25) (p := 137) (by decide +kernel) (by decide +kernel) ?_
      exact ih _ _ _ _ _ _ _ _ _ _ h
def fm_89_97 (k_62 : Int32 → Int32 → Int32 → Int32 → Int32 → Int32 → fx_S → Option (Int32 × fx_S)) (x2 : Int32) (x3 : Int32) (x4 : Int32) (x5 : Int32) (x7 : Int32) (s0 : Int32) (σ : fx_S) : Option (Int32 × fx_S) :=
  k_62 x2 x3 x4 x5 s0 (x7 + (1 : Int32)) σ
theorem fe_89_97 {d : Nat} (hd : 3 ≤ d) {k_62 : Int32 → Int32 → Int32 → Int32 → Int32 → Int32 → fx_S → Option (Int32 × fx_S)} (hk_62 : ∀ (x2 : Int32) (x3 : Int32) (x4 : Int32) (x5 : Int32) (x6 : Int32) (x7 : Int32) (o1 : Option Value) (σ : fx_S) (q : Int32 × fx_S), k_62 x2 x3 x4 x5 x6 x7 σ = some q → fx_E none 89 d 62 [some (.ref 0), o1, some (.int x2), some (.int x3), some (.int x4), some (.int x5), some (.int x6), some (.int x7), none] [] σ (some (.int q.1)) q.2) (x2 : Int32) (x3 : Int32) (x4 : Int32) (x5 : Int32) (x7 : Int32) (s0 : Int32) (o1 : Option Value) (o6 : Option Value) (σ : fx_S) (q : Int32 × fx_S) (h : fm_89_97 k_62  x2 x3 x4 x5 x7 s0 σ = some q) : fx_E none 89 d 97 [some (.ref 0), o1, some (.int x2), some (.int x3), some (.int x4), some (.int x5), o6, some (.int x7), none] [.int s0] σ (some (.int q.1)) q.2 := by
  unfold fm_89_97 at h
  refine fs_istore (k := 6) (p := 99) (M := 9) (al' := [some (.ref 0), o1, some (.int x2), some (.int x3), some (.int x4), some (.int x5), some (.int s0), some (.int x7), none]) (by decide +kernel) rfl mx_89 rfl rfl ?_
  refine fs_iinc (k := 7) (n := 1) (p := 102) (M := 9) (al' := [some (.ref 0), o1, some (.int x2), some (.int x3), some (.int x4), some (.int x5), some (.int s0), some (.int (x7 + (1 : Int32))), none]) (by decide +kernel) rfl kc_1 mx_89 rfl rfl rfl ?_
  refine fs_goto (off := -40) (p := 62) (by decide +kernel) (by decide +kernel) ?_
  exact hk_62 _ _ _ _ _ _ _ _ _ h
def fm_89_62 : Nat → Int32 → Int32 → Int32 → Int32 → Int32 → Int32 → fx_S → Option (Int32 × fx_S)
  | 0, _, _, _, _, _, _, _ => none
  | n + 1, x2, x3, x4, x5, x6, x7, σ =>
    if x5 < x7 then (
      if x6 = 0 then (
        (fx_ld σ 4 ((x4 * (4 : Int32)) + x2)).bind fun v6 =>
        (fm_119 σ).bind fun q10 =>
        fm_89_137 100000 x2 x3 x5 v6 x4 q10) else (
        some ((-2 : Int32), σ))) else (
      if x6 = 0 then (
        fm_89_97 (fm_89_62 n) x2 x3 x4 x5 x7 (0 : Int32) σ) else (
        (fx_ld σ 4 ((x7 * (4 : Int32)) + x2)).bind fun v13 =>
        if ¬ v13 = x3 then (
          fm_89_97 (fm_89_62 n) x2 x3 x4 x5 x7 (0 : Int32) σ) else (
          fm_89_97 (fm_89_62 n) x2 x3 x4 x5 x7 (1 : Int32) σ)))
theorem fe_89_62 {d : Nat} (hd : 3 ≤ d) : ∀ (n : Nat) (x2 : Int32) (x3 : Int32) (x4 : Int32) (x5 : Int32) (x6 : Int32) (x7 : Int32) (o1 : Option Value) (σ : fx_S) (q : Int32 × fx_S), fm_89_62 n x2 x3 x4 x5 x6 x7 σ = some q → fx_E none 89 d 62 [some (.ref 0), o1, some (.int x2), some (.int x3), some (.int x4), some (.int x5), some (.int x6), some (.int x7), none] [] σ (some (.int q.1)) q.2 := by
  intro n
  induction n with
  | zero =>
    intro x2 x3 x4 x5 x6 x7 o1 σ q  h
    rw [fm_89_62] at h
    exact fx_no h
  | succ n ih =>
    intro x2 x3 x4 x5 x6 x7 o1 σ q  h
    rw [fm_89_62] at h
    refine fs_iload (k := 7) (p := 64) (by decide +kernel) rfl rfl ?_
    refine fs_iload (k := 5) (p := 66) (by decide +kernel) rfl rfl ?_
    by_cases c3 : x5 < x7
    · rw [if_pos c3] at h
      refine fs_icmp_gt_t (off := 39) (t := 105) (by decide +kernel) (by decide +kernel) c3 ?_
      refine fs_iload (k := 6) (p := 107) (by decide +kernel) rfl rfl ?_
      by_cases c5 : x6 = 0
      · rw [if_pos c5] at h
        refine fs_if_eq_t (off := 6) (t := 113) (by decide +kernel) (by decide +kernel) c5 ?_
        refine fs_aload_n (k := 0) (p := 114) (by decide +kernel) rfl rfl ?_
        refine fs_gfr (idx := 13) (ci := 9) (j := 1) (p := 117) (by decide +kernel) rfl (by decide +kernel) fo_0 (fr_a0_1) ?_
        refine fs_gfr (idx := 119) (ci := 6) (j := 2) (p := 120) (by decide +kernel) rfl (by decide +kernel) fo_1 (fr_a1_2) ?_
        refine fs_iload (k := 4) (p := 122) (by decide +kernel) rfl rfl ?_
        refine fs_iconst (n := 4) (p := 123) (by decide +kernel) rfl kc_4 ?_
        refine fs_imul (p := 124) (by decide +kernel) rfl ?_
        refine fs_iload_n (k := 2) (p := 125) (by decide +kernel) rfl rfl ?_
        refine fs_iadd (p := 126) (by decide +kernel) rfl ?_
        obtain ⟨v6, w7, h⟩ := fx_bd h
        refine fs_iaload (p := 127) (by decide +kernel) rfl w7 ?_
        refine fs_istore (k := 7) (p := 129) (M := 9) (al' := [some (.ref 0), o1, some (.int x2), some (.int x3), some (.int x4), some (.int x5), some (.int x6), some (.int v6), none]) (by decide +kernel) rfl mx_89 rfl rfl ?_
        refine fs_aload_n (k := 0) (p := 130) (by decide +kernel) rfl rfl ?_
        obtain ⟨q10, w9, h⟩ := fx_bd h
        refine fs_callV (idx := 83) (mj := 119) (ci := 9) (na := 0) (mx := 1) (p := 133) (args := [.ref 0]) (rest := []) (al2 := [some (.ref 0)]) (by decide +kernel) rfl (by decide +kernel) fo_0 rfl rfl rfl rfl rfl rfl rfl (by omega) (fun d' hd' => fe_119 (by omega) w9) rfl ?_
        refine fs_iload (k := 4) (p := 135) (by decide +kernel) rfl rfl ?_
        refine fs_istore (k := 8) (p := 137) (M := 9) (al' := [some (.ref 0), o1, some (.int x2), some (.int x3), some (.int x4), some (.int x5), some (.int x6), some (.int v6), some (.int x4)]) (by decide +kernel) rfl mx_89 rfl rfl ?_
        exact fe_89_137 hd 100000 _ _ _ _ _ _ _ _ _ _ h
      · rw [if_neg c5] at h
        refine fs_if_eq_f (off := 6) (t := 113) (p := 110) (by decide +kernel) (by decide +kernel) rfl c5 ?_
        refine fs_bipush (n := -2) (p := 112) (by decide +kernel) rfl kb_m2 ?_
        have h := Option.some.inj h
        subst h
        exact fs_iret (by decide +kernel) rt_89
    · rw [if_neg c3] at h
      refine fs_icmp_gt_f (off := 39) (t := 105) (p := 69) (by decide +kernel) (by decide +kernel) rfl c3 ?_
      refine fs_iload (k := 6) (p := 71) (by decide +kernel) rfl rfl ?_
      by_cases c12 : x6 = 0
      · rw [if_pos c12] at h
        refine fs_if_eq_t (off := 25) (t := 96) (by decide +kernel) (by decide +kernel) c12 ?_
        refine fs_iconst (n := 0) (p := 97) (by decide +kernel) rfl kc_0 ?_
        exact fe_89_97 hd ih _ _ _ _ _ _ _ _ _ _ h
      · rw [if_neg c12] at h
        refine fs_if_eq_f (off := 25) (t := 96) (p := 74) (by decide +kernel) (by decide +kernel) rfl c12 ?_
        refine fs_aload_n (k := 0) (p := 75) (by decide +kernel) rfl rfl ?_
        refine fs_gfr (idx := 13) (ci := 9) (j := 1) (p := 78) (by decide +kernel) rfl (by decide +kernel) fo_0 (fr_a0_1) ?_
        refine fs_gfr (idx := 119) (ci := 6) (j := 2) (p := 81) (by decide +kernel) rfl (by decide +kernel) fo_1 (fr_a1_2) ?_
        refine fs_iload (k := 7) (p := 83) (by decide +kernel) rfl rfl ?_
        refine fs_iconst (n := 4) (p := 84) (by decide +kernel) rfl kc_4 ?_
        refine fs_imul (p := 85) (by decide +kernel) rfl ?_
        refine fs_iload_n (k := 2) (p := 86) (by decide +kernel) rfl rfl ?_
        refine fs_iadd (p := 87) (by decide +kernel) rfl ?_
        obtain ⟨v13, w14, h⟩ := fx_bd h
        refine fs_iaload (p := 88) (by decide +kernel) rfl w14 ?_
        refine fs_iload_n (k := 3) (p := 89) (by decide +kernel) rfl rfl ?_
        by_cases c18 : ¬ v13 = x3
        · rw [if_pos c18] at h
          refine fs_icmp_ne_t (off := 7) (t := 96) (by decide +kernel) (by decide +kernel) c18 ?_
          refine fs_iconst (n := 0) (p := 97) (by decide +kernel) rfl kc_0 ?_
          exact fe_89_97 hd ih _ _ _ _ _ _ _ _ _ _ h
        · rw [if_neg c18] at h
          refine fs_icmp_ne_f (off := 7) (t := 96) (p := 92) (by decide +kernel) (by decide +kernel) rfl c18 ?_
          refine fs_iconst (n := 1) (p := 93) (by decide +kernel) rfl kc_1 ?_
          refine fs_goto (off := 4) (p := 97) (by decide +kernel) (by decide +kernel) ?_
          exact fe_89_97 hd ih _ _ _ _ _ _ _ _ _ _ h
def fm_89_53 (x2 : Int32) (x3 : Int32) (x4 : Int32) (s0 : Int32) (σ : fx_S) : Option (Int32 × fx_S) :=
  fm_89_62 100000 x2 x3 x4 s0 (1 : Int32) x4 σ
theorem fe_89_53 {d : Nat} (hd : 3 ≤ d) (x2 : Int32) (x3 : Int32) (x4 : Int32) (s0 : Int32) (o1 : Option Value) (σ : fx_S) (q : Int32 × fx_S) (h : fm_89_53  x2 x3 x4 s0 σ = some q) : fx_E none 89 d 53 [some (.ref 0), o1, some (.int x2), some (.int x3), some (.int x4), none, none, none, none] [.int s0] σ (some (.int q.1)) q.2 := by
  unfold fm_89_53 at h
  refine fs_istore (k := 5) (p := 55) (M := 9) (al' := [some (.ref 0), o1, some (.int x2), some (.int x3), some (.int x4), some (.int s0), none, none, none]) (by decide +kernel) rfl mx_89 rfl rfl ?_
  refine fs_iconst (n := 1) (p := 56) (by decide +kernel) rfl kc_1 ?_
  refine fs_istore (k := 6) (p := 58) (M := 9) (al' := [some (.ref 0), o1, some (.int x2), some (.int x3), some (.int x4), some (.int s0), some (.int (1 : Int32)), none, none]) (by decide +kernel) rfl mx_89 rfl rfl ?_
  refine fs_iload (k := 4) (p := 60) (by decide +kernel) rfl rfl ?_
  refine fs_istore (k := 7) (p := 62) (M := 9) (al' := [some (.ref 0), o1, some (.int x2), some (.int x3), some (.int x4), some (.int s0), some (.int (1 : Int32)), some (.int x4), none]) (by decide +kernel) rfl mx_89 rfl rfl ?_
  exact fe_89_62 hd 100000 _ _ _ _ _ _ _ _ _ h
def fm_89_41 (x1 : Int32) (x2 : Int32) (x3 : Int32) (s0 : Int32) (σ : fx_S) : Option (Int32 × fx_S) :=
  if ¬ x1 = (-1 : Int32) then (
    fm_89_53 x2 x3 s0 x1 σ) else (
    fm_89_53 x2 x3 s0 (2 : Int32) σ)
theorem fe_89_41 {d : Nat} (hd : 3 ≤ d) (x1 : Int32) (x2 : Int32) (x3 : Int32) (s0 : Int32) (σ : fx_S) (q : Int32 × fx_S) (h : fm_89_41  x1 x2 x3 s0 σ = some q) : fx_E none 89 d 41 [some (.ref 0), some (.int x1), some (.int x2), some (.int x3), none, none, none, none, none] [.int s0] σ (some (.int q.1)) q.2 := by
  unfold fm_89_41 at h
  refine fs_istore (k := 4) (p := 43) (M := 9) (al' := [some (.ref 0), some (.int x1), some (.int x2), some (.int x3), some (.int s0), none, none, none, none]) (by decide +kernel) rfl mx_89 rfl rfl ?_
  refine fs_iload_n (k := 1) (p := 44) (by decide +kernel) rfl rfl ?_
  refine fs_iconst (n := -1) (p := 45) (by decide +kernel) rfl kc_m1 ?_
  by_cases c2 : ¬ x1 = (-1 : Int32)
  · rw [if_pos c2] at h
    refine fs_icmp_ne_t (off := 7) (t := 52) (by decide +kernel) (by decide +kernel) c2 ?_
    refine fs_iload_n (k := 1) (p := 53) (by decide +kernel) rfl rfl ?_
    exact fe_89_53 hd _ _ _ _ _ _ _ h
  · rw [if_neg c2] at h
    refine fs_icmp_ne_f (off := 7) (t := 52) (p := 48) (by decide +kernel) (by decide +kernel) rfl c2 ?_
    refine fs_iconst (n := 2) (p := 49) (by decide +kernel) rfl kc_2 ?_
    refine fs_goto (off := 4) (p := 53) (by decide +kernel) (by decide +kernel) ?_
    exact fe_89_53 hd _ _ _ _ _ _ _ h
def fm_89_12 (x1 : Int32) (x2 : Int32) (x3 : Int32) (σ : fx_S) : Option (Int32 × fx_S) :=
  (fm_116 x2 σ).bind fun q2 =>
  if (fx_b q2.1) = 0 then (
    some ((-1 : Int32), q2.2)) else (
    if x3 < 0 then (
      some ((-1 : Int32), q2.2)) else (
      if x3 ≤ (9 : Int32) then (
        if ¬ x1 = (-1 : Int32) then (
          fm_89_41 x1 x2 x3 x1 q2.2) else (
          fm_89_41 x1 x2 x3 (0 : Int32) q2.2)) else (
        some ((-1 : Int32), q2.2))))
theorem fe_89_12 {d : Nat} (hd : 3 ≤ d) (x1 : Int32) (x2 : Int32) (x3 : Int32) (σ : fx_S) (q : Int32 × fx_S) (h : fm_89_12  x1 x2 x3 σ = some q) : fx_E none 89 d 12 [some (.ref 0), some (.int x1), some (.int x2), some (.int x3), none, none, none, none, none] [] σ (some (.int q.1)) q.2 := by
  unfold fm_89_12 at h
  refine fs_iload_n (k := 2) (p := 13) (by decide +kernel) rfl rfl ?_
  obtain ⟨q2, w1, h⟩ := fx_bd h
  refine fs_callS (idx := 116) (mj := 116) (na := 1) (mx := 1) (p := 16) (args := [.int x2]) (rest := []) (al2 := [some (.int x2)]) (by decide +kernel) rfl (by decide +kernel) rfl rfl rfl rfl rfl rfl rfl (by omega) (fun d' hd' => fe_116 (by omega) w1) rfl ?_
  by_cases c3 : (fx_b q2.1) = 0
  · rw [if_pos c3] at h
    refine fs_if_eq_t (off := 13) (t := 29) (by decide +kernel) (by decide +kernel) c3 ?_
    refine fs_iconst (n := -1) (p := 30) (by decide +kernel) rfl kc_m1 ?_
    have h := Option.some.inj h
    subst h
    exact fs_iret (by decide +kernel) rt_89
  · rw [if_neg c3] at h
    refine fs_if_eq_f (off := 13) (t := 29) (p := 19) (by decide +kernel) (by decide +kernel) rfl c3 ?_
    refine fs_iload_n (k := 3) (p := 20) (by decide +kernel) rfl rfl ?_
    by_cases c5 : x3 < 0
    · rw [if_pos c5] at h
      refine fs_if_lt_t (off := 9) (t := 29) (by decide +kernel) (by decide +kernel) c5 ?_
      refine fs_iconst (n := -1) (p := 30) (by decide +kernel) rfl kc_m1 ?_
      have h := Option.some.inj h
      subst h
      exact fs_iret (by decide +kernel) rt_89
    · rw [if_neg c5] at h
      refine fs_if_lt_f (off := 9) (t := 29) (p := 23) (by decide +kernel) (by decide +kernel) rfl c5 ?_
      refine fs_iload_n (k := 3) (p := 24) (by decide +kernel) rfl rfl ?_
      refine fs_bipush (n := 9) (p := 26) (by decide +kernel) rfl kb_9 ?_
      by_cases c6 : x3 ≤ (9 : Int32)
      · rw [if_pos c6] at h
        refine fs_icmp_le_t (off := 5) (t := 31) (by decide +kernel) (by decide +kernel) c6 ?_
        refine fs_iload_n (k := 1) (p := 32) (by decide +kernel) rfl rfl ?_
        refine fs_iconst (n := -1) (p := 33) (by decide +kernel) rfl kc_m1 ?_
        by_cases c8 : ¬ x1 = (-1 : Int32)
        · rw [if_pos c8] at h
          refine fs_icmp_ne_t (off := 7) (t := 40) (by decide +kernel) (by decide +kernel) c8 ?_
          refine fs_iload_n (k := 1) (p := 41) (by decide +kernel) rfl rfl ?_
          exact fe_89_41 hd _ _ _ _ _ _ h
        · rw [if_neg c8] at h
          refine fs_icmp_ne_f (off := 7) (t := 40) (p := 36) (by decide +kernel) (by decide +kernel) rfl c8 ?_
          refine fs_iconst (n := 0) (p := 37) (by decide +kernel) rfl kc_0 ?_
          refine fs_goto (off := 4) (p := 41) (by decide +kernel) (by decide +kernel) ?_
          exact fe_89_41 hd _ _ _ _ _ _ h
      · rw [if_neg c6] at h
        refine fs_icmp_le_f (off := 5) (t := 31) (p := 29) (by decide +kernel) (by decide +kernel) rfl c6 ?_
        refine fs_iconst (n := -1) (p := 30) (by decide +kernel) rfl kc_m1 ?_
        have h := Option.some.inj h
        subst h
        exact fs_iret (by decide +kernel) rt_89
def fm_89 (x1 : Int32) (x2 : Int32) (x3 : Int32) (σ : fx_S) : Option (Int32 × fx_S) :=
  if x1 = (-1 : Int32) then (
    fm_89_12 x1 x2 x3 σ) else (
    (fm_114 x1 σ).bind fun q43 =>
    if (fx_b q43.1) = 0 then (
      some ((-1 : Int32), q43.2)) else (
      fm_89_12 x1 x2 x3 q43.2))
theorem fe_89 {d : Nat} (hd : 3 ≤ d) {x1 : Int32} {x2 : Int32} {x3 : Int32} {σ : fx_S} {q : Int32 × fx_S} (h : fm_89 x1 x2 x3 σ = some q) : fx_E none 89 d 0 [some (.ref 0), some (.int x1), some (.int x2), some (.int x3), none, none, none, none, none] [] σ (some (.int q.1)) q.2 := by
  unfold fm_89 at h
  refine fs_iload_n (k := 1) (p := 1) (by decide +kernel) rfl rfl ?_
  refine fs_iconst (n := -1) (p := 2) (by decide +kernel) rfl kc_m1 ?_
  by_cases c41 : x1 = (-1 : Int32)
  · rw [if_pos c41] at h
    refine fs_icmp_eq_t (off := 10) (t := 12) (by decide +kernel) (by decide +kernel) c41 ?_
    exact fe_89_12 hd _ _ _ _ _ h
  · rw [if_neg c41] at h
    refine fs_icmp_eq_f (off := 10) (t := 12) (p := 5) (by decide +kernel) (by decide +kernel) rfl c41 ?_
    refine fs_iload_n (k := 1) (p := 6) (by decide +kernel) rfl rfl ?_
    obtain ⟨q43, w42, h⟩ := fx_bd h
    refine fs_callS (idx := 94) (mj := 114) (na := 1) (mx := 1) (p := 9) (args := [.int x1]) (rest := []) (al2 := [some (.int x1)]) (by decide +kernel) rfl (by decide +kernel) rfl rfl rfl rfl rfl rfl rfl (by omega) (fun d' hd' => fe_114 (by omega) w42) rfl ?_
    by_cases c44 : (fx_b q43.1) = 0
    · rw [if_pos c44] at h
      refine fs_if_eq_t (off := 20) (t := 29) (by decide +kernel) (by decide +kernel) c44 ?_
      refine fs_iconst (n := -1) (p := 30) (by decide +kernel) rfl kc_m1 ?_
      have h := Option.some.inj h
      subst h
      exact fs_iret (by decide +kernel) rt_89
    · rw [if_neg c44] at h
      refine fs_if_eq_f (off := 20) (t := 29) (p := 12) (by decide +kernel) (by decide +kernel) rfl c44 ?_
      exact fe_89_12 hd _ _ _ _ _ h

/-! ZoneShares.settle(II)I -/
theorem mx_90 : iv_mx 90 = 4 := by decide +kernel
theorem rt_90 : iv_rt 90 = some .int := by decide +kernel
def fm_90_77 (x3 : Int32) (σ : fx_S) : Option (Int32 × fx_S) :=
  some (x3, σ)
theorem fe_90_77 {d : Nat} (hd : 3 ≤ d) (x3 : Int32) (o0 : Option Value) (o1 : Option Value) (o2 : Option Value) (σ : fx_S) (q : Int32 × fx_S) (h : fm_90_77  x3 σ = some q) : fx_E none 90 d 77 [o0, o1, o2, some (.int x3)] [] σ (some (.int q.1)) q.2 := by
  unfold fm_90_77 at h
  refine fs_iload_n (k := 3) (p := 78) (by decide +kernel) rfl rfl ?_
  have h := Option.some.inj h
  subst h
  exact fs_iret (by decide +kernel) rt_90
def fm_90_41 (x1 : Int32) (x2 : Int32) (s0 : Int32) (σ : fx_S) : Option (Int32 × fx_S) :=
  if ¬ s0 = x2 then (
    (fm_119 σ).bind fun q5 =>
    if ¬ x1 = 0 then (
      fm_90_77 s0 (fx_w1 q5 1 8 x2)) else (
      fm_90_77 s0 (fx_w1 q5 1 7 x2))) else (
    some ((-2 : Int32), σ))
theorem fe_90_41 {d : Nat} (hd : 3 ≤ d) (x1 : Int32) (x2 : Int32) (s0 : Int32) (σ : fx_S) (q : Int32 × fx_S) (h : fm_90_41  x1 x2 s0 σ = some q) : fx_E none 90 d 41 [some (.ref 0), some (.int x1), some (.int x2), none] [.int s0] σ (some (.int q.1)) q.2 := by
  unfold fm_90_41 at h
  refine fs_istore_n (k := 3) (p := 42) (M := 4) (al' := [some (.ref 0), some (.int x1), some (.int x2), some (.int s0)]) (by decide +kernel) rfl mx_90 rfl rfl ?_
  refine fs_iload_n (k := 3) (p := 43) (by decide +kernel) rfl rfl ?_
  refine fs_iload_n (k := 2) (p := 44) (by decide +kernel) rfl rfl ?_
  by_cases c3 : ¬ s0 = x2
  · rw [if_pos c3] at h
    refine fs_icmp_ne_t (off := 6) (t := 50) (by decide +kernel) (by decide +kernel) c3 ?_
    refine fs_aload_n (k := 0) (p := 51) (by decide +kernel) rfl rfl ?_
    obtain ⟨q5, w4, h⟩ := fx_bd h
    refine fs_callV (idx := 83) (mj := 119) (ci := 9) (na := 0) (mx := 1) (p := 54) (args := [.ref 0]) (rest := []) (al2 := [some (.ref 0)]) (by decide +kernel) rfl (by decide +kernel) fo_0 rfl rfl rfl rfl rfl rfl rfl (by omega) (fun d' hd' => fe_119 (by omega) w4) rfl ?_
    refine fs_iload_n (k := 1) (p := 55) (by decide +kernel) rfl rfl ?_
    by_cases c7 : ¬ x1 = 0
    · rw [if_pos c7] at h
      refine fs_if_ne_t (off := 14) (t := 69) (by decide +kernel) (by decide +kernel) c7 ?_
      refine fs_aload_n (k := 0) (p := 70) (by decide +kernel) rfl rfl ?_
      refine fs_gfr (idx := 13) (ci := 9) (j := 1) (p := 73) (by decide +kernel) rfl (by decide +kernel) fo_0 (fr_a0_1) ?_
      refine fs_iload_n (k := 2) (p := 74) (by decide +kernel) rfl rfl ?_
      refine fs_pfi (idx := 125) (ci := 6) (j := 8) (p := 77) (by decide +kernel) rfl (by decide +kernel) (by decide +kernel) fo_1 (fx_oki _ (by decide +kernel)) ?_
      exact fe_90_77 hd _ _ _ _ _ _ h
    · rw [if_neg c7] at h
      refine fs_if_ne_f (off := 14) (t := 69) (p := 58) (by decide +kernel) (by decide +kernel) rfl c7 ?_
      refine fs_aload_n (k := 0) (p := 59) (by decide +kernel) rfl rfl ?_
      refine fs_gfr (idx := 13) (ci := 9) (j := 1) (p := 62) (by decide +kernel) rfl (by decide +kernel) fo_0 (fr_a0_1) ?_
      refine fs_iload_n (k := 2) (p := 63) (by decide +kernel) rfl rfl ?_
      refine fs_pfi (idx := 122) (ci := 6) (j := 7) (p := 66) (by decide +kernel) rfl (by decide +kernel) (by decide +kernel) fo_1 (fx_oki _ (by decide +kernel)) ?_
      refine fs_goto (off := 11) (p := 77) (by decide +kernel) (by decide +kernel) ?_
      exact fe_90_77 hd _ _ _ _ _ _ h
  · rw [if_neg c3] at h
    refine fs_icmp_ne_f (off := 6) (t := 50) (p := 47) (by decide +kernel) (by decide +kernel) rfl c3 ?_
    refine fs_bipush (n := -2) (p := 49) (by decide +kernel) rfl kb_m2 ?_
    have h := Option.some.inj h
    subst h
    exact fs_iret (by decide +kernel) rt_90
def fm_90 (x1 : Int32) (x2 : Int32) (σ : fx_S) : Option (Int32 × fx_S) :=
  if x1 < 0 then (
    some ((-1 : Int32), σ)) else (
    if (1 : Int32) < x1 then (
      some ((-1 : Int32), σ)) else (
      if x2 < 0 then (
        some ((-1 : Int32), σ)) else (
        if x2 ≤ (1 : Int32) then (
          if ¬ x1 = 0 then (
            fm_90_41 x1 x2 (σ.1 1 8) σ) else (
            fm_90_41 x1 x2 (σ.1 1 7) σ)) else (
          some ((-1 : Int32), σ)))))
theorem fe_90 {d : Nat} (hd : 3 ≤ d) {x1 : Int32} {x2 : Int32} {σ : fx_S} {q : Int32 × fx_S} (h : fm_90 x1 x2 σ = some q) : fx_E none 90 d 0 [some (.ref 0), some (.int x1), some (.int x2), none] [] σ (some (.int q.1)) q.2 := by
  unfold fm_90 at h
  refine fs_iload_n (k := 1) (p := 1) (by decide +kernel) rfl rfl ?_
  by_cases c16 : x1 < 0
  · rw [if_pos c16] at h
    refine fs_if_lt_t (off := 17) (t := 18) (by decide +kernel) (by decide +kernel) c16 ?_
    refine fs_iconst (n := -1) (p := 19) (by decide +kernel) rfl kc_m1 ?_
    have h := Option.some.inj h
    subst h
    exact fs_iret (by decide +kernel) rt_90
  · rw [if_neg c16] at h
    refine fs_if_lt_f (off := 17) (t := 18) (p := 4) (by decide +kernel) (by decide +kernel) rfl c16 ?_
    refine fs_iload_n (k := 1) (p := 5) (by decide +kernel) rfl rfl ?_
    refine fs_iconst (n := 1) (p := 6) (by decide +kernel) rfl kc_1 ?_
    by_cases c17 : (1 : Int32) < x1
    · rw [if_pos c17] at h
      refine fs_icmp_gt_t (off := 12) (t := 18) (by decide +kernel) (by decide +kernel) c17 ?_
      refine fs_iconst (n := -1) (p := 19) (by decide +kernel) rfl kc_m1 ?_
      have h := Option.some.inj h
      subst h
      exact fs_iret (by decide +kernel) rt_90
    · rw [if_neg c17] at h
      refine fs_icmp_gt_f (off := 12) (t := 18) (p := 9) (by decide +kernel) (by decide +kernel) rfl c17 ?_
      refine fs_iload_n (k := 2) (p := 10) (by decide +kernel) rfl rfl ?_
      by_cases c19 : x2 < 0
      · rw [if_pos c19] at h
        refine fs_if_lt_t (off := 8) (t := 18) (by decide +kernel) (by decide +kernel) c19 ?_
        refine fs_iconst (n := -1) (p := 19) (by decide +kernel) rfl kc_m1 ?_
        have h := Option.some.inj h
        subst h
        exact fs_iret (by decide +kernel) rt_90
      · rw [if_neg c19] at h
        refine fs_if_lt_f (off := 8) (t := 18) (p := 13) (by decide +kernel) (by decide +kernel) rfl c19 ?_
        refine fs_iload_n (k := 2) (p := 14) (by decide +kernel) rfl rfl ?_
        refine fs_iconst (n := 1) (p := 15) (by decide +kernel) rfl kc_1 ?_
        by_cases c20 : x2 ≤ (1 : Int32)
        · rw [if_pos c20] at h
          refine fs_icmp_le_t (off := 5) (t := 20) (by decide +kernel) (by decide +kernel) c20 ?_
          refine fs_iload_n (k := 1) (p := 21) (by decide +kernel) rfl rfl ?_
          by_cases c21 : ¬ x1 = 0
          · rw [if_pos c21] at h
            refine fs_if_ne_t (off := 13) (t := 34) (by decide +kernel) (by decide +kernel) c21 ?_
            refine fs_aload_n (k := 0) (p := 35) (by decide +kernel) rfl rfl ?_
            refine fs_gfr (idx := 13) (ci := 9) (j := 1) (p := 38) (by decide +kernel) rfl (by decide +kernel) fo_0 (fr_a0_1) ?_
            refine fs_gfi (idx := 125) (ci := 6) (j := 8) (p := 41) (by decide +kernel) rfl (by decide +kernel) fo_1 ?_
            exact fe_90_41 hd _ _ _ _ _ h
          · rw [if_neg c21] at h
            refine fs_if_ne_f (off := 13) (t := 34) (p := 24) (by decide +kernel) (by decide +kernel) rfl c21 ?_
            refine fs_aload_n (k := 0) (p := 25) (by decide +kernel) rfl rfl ?_
            refine fs_gfr (idx := 13) (ci := 9) (j := 1) (p := 28) (by decide +kernel) rfl (by decide +kernel) fo_0 (fr_a0_1) ?_
            refine fs_gfi (idx := 122) (ci := 6) (j := 7) (p := 31) (by decide +kernel) rfl (by decide +kernel) fo_1 ?_
            refine fs_goto (off := 10) (p := 41) (by decide +kernel) (by decide +kernel) ?_
            exact fe_90_41 hd _ _ _ _ _ h
        · rw [if_neg c20] at h
          refine fs_icmp_le_f (off := 5) (t := 20) (p := 18) (by decide +kernel) (by decide +kernel) rfl c20 ?_
          refine fs_iconst (n := -1) (p := 19) (by decide +kernel) rfl kc_m1 ?_
          have h := Option.some.inj h
          subst h
          exact fs_iret (by decide +kernel) rt_90

/-! ZoneShares.district(II)I -/
theorem mx_91 : iv_mx 91 = 4 := by decide +kernel
theorem rt_91 : iv_rt 91 = some .int := by decide +kernel
def fm_91 (x1 : Int32) (x2 : Int32) (σ : fx_S) : Option (Int32 × fx_S) :=
  (fm_115 x1 σ).bind fun q18 =>
  if (fx_b q18.1) = 0 then (
    some ((-1 : Int32), q18.2)) else (
    (fm_117 x2 q18.2).bind fun q21 =>
    if ¬ (fx_b q21.1) = 0 then (
      (fx_ld q21.2 5 x1).bind fun v23 =>
      if ¬ v23 = x2 then (
        (fm_119 q21.2).bind fun q30 =>
        (fx_st q30 5 x1 x2).bind fun t31 =>
        some (v23, t31)) else (
        some ((-2 : Int32), q21.2))) else (
      some ((-1 : Int32), q21.2)))
theorem fe_91 {d : Nat} (hd : 3 ≤ d) {x1 : Int32} {x2 : Int32} {σ : fx_S} {q : Int32 × fx_S} (h : fm_91 x1 x2 σ = some q) : fx_E none 91 d 0 [some (.ref 0), some (.int x1), some (.int x2), none] [] σ (some (.int q.1)) q.2 := by
  unfold fm_91 at h
  refine fs_iload_n (k := 1) (p := 1) (by decide +kernel) rfl rfl ?_
  obtain ⟨q18, w17, h⟩ := fx_bd h
  refine fs_callS (idx := 128) (mj := 115) (na := 1) (mx := 1) (p := 4) (args := [.int x1]) (rest := []) (al2 := [some (.int x1)]) (by decide +kernel) rfl (by decide +kernel) rfl rfl rfl rfl rfl rfl rfl (by omega) (fun d' hd' => fe_115 (by omega) w17) rfl ?_
  by_cases c19 : (fx_b q18.1) = 0
  · rw [if_pos c19] at h
    refine fs_if_eq_t (off := 10) (t := 14) (by decide +kernel) (by decide +kernel) c19 ?_
    refine fs_iconst (n := -1) (p := 15) (by decide +kernel) rfl kc_m1 ?_
    have h := Option.some.inj h
    subst h
    exact fs_iret (by decide +kernel) rt_91
  · rw [if_neg c19] at h
    refine fs_if_eq_f (off := 10) (t := 14) (p := 7) (by decide +kernel) (by decide +kernel) rfl c19 ?_
    refine fs_iload_n (k := 2) (p := 8) (by decide +kernel) rfl rfl ?_
    obtain ⟨q21, w20, h⟩ := fx_bd h
    refine fs_callS (idx := 131) (mj := 117) (na := 1) (mx := 1) (p := 11) (args := [.int x2]) (rest := []) (al2 := [some (.int x2)]) (by decide +kernel) rfl (by decide +kernel) rfl rfl rfl rfl rfl rfl rfl (by omega) (fun d' hd' => fe_117 (by omega) w20) rfl ?_
    by_cases c22 : ¬ (fx_b q21.1) = 0
    · rw [if_pos c22] at h
      refine fs_if_ne_t (off := 5) (t := 16) (by decide +kernel) (by decide +kernel) c22 ?_
      refine fs_aload_n (k := 0) (p := 17) (by decide +kernel) rfl rfl ?_
      refine fs_gfr (idx := 13) (ci := 9) (j := 1) (p := 20) (by decide +kernel) rfl (by decide +kernel) fo_0 (fr_a0_1) ?_
      refine fs_gfr (idx := 134) (ci := 6) (j := 3) (p := 23) (by decide +kernel) rfl (by decide +kernel) fo_1 (fr_a1_3) ?_
      refine fs_iload_n (k := 1) (p := 24) (by decide +kernel) rfl rfl ?_
      obtain ⟨v23, w24, h⟩ := fx_bd h
      refine fs_iaload (p := 25) (by decide +kernel) rfl w24 ?_
      refine fs_istore_n (k := 3) (p := 26) (M := 4) (al' := [some (.ref 0), some (.int x1), some (.int x2), some (.int v23)]) (by decide +kernel) rfl mx_91 rfl rfl ?_
      refine fs_iload_n (k := 3) (p := 27) (by decide +kernel) rfl rfl ?_
      refine fs_iload_n (k := 2) (p := 28) (by decide +kernel) rfl rfl ?_
      by_cases c28 : ¬ v23 = x2
      · rw [if_pos c28] at h
        refine fs_icmp_ne_t (off := 6) (t := 34) (by decide +kernel) (by decide +kernel) c28 ?_
        refine fs_aload_n (k := 0) (p := 35) (by decide +kernel) rfl rfl ?_
        obtain ⟨q30, w29, h⟩ := fx_bd h
        refine fs_callV (idx := 83) (mj := 119) (ci := 9) (na := 0) (mx := 1) (p := 38) (args := [.ref 0]) (rest := []) (al2 := [some (.ref 0)]) (by decide +kernel) rfl (by decide +kernel) fo_0 rfl rfl rfl rfl rfl rfl rfl (by omega) (fun d' hd' => fe_119 (by omega) w29) rfl ?_
        refine fs_aload_n (k := 0) (p := 39) (by decide +kernel) rfl rfl ?_
        refine fs_gfr (idx := 13) (ci := 9) (j := 1) (p := 42) (by decide +kernel) rfl (by decide +kernel) fo_0 (fr_a0_1) ?_
        refine fs_gfr (idx := 134) (ci := 6) (j := 3) (p := 45) (by decide +kernel) rfl (by decide +kernel) fo_1 (fr_a1_3) ?_
        refine fs_iload_n (k := 1) (p := 46) (by decide +kernel) rfl rfl ?_
        refine fs_iload_n (k := 2) (p := 47) (by decide +kernel) rfl rfl ?_
        obtain ⟨t31, w32, h⟩ := fx_bd h
        refine fs_iastore (p := 48) (by decide +kernel) rfl w32 ?_
        refine fs_iload_n (k := 3) (p := 49) (by decide +kernel) rfl rfl ?_
        have h := Option.some.inj h
        subst h
        exact fs_iret (by decide +kernel) rt_91
      · rw [if_neg c28] at h
        refine fs_icmp_ne_f (off := 6) (t := 34) (p := 31) (by decide +kernel) (by decide +kernel) rfl c28 ?_
        refine fs_bipush (n := -2) (p := 33) (by decide +kernel) rfl kb_m2 ?_
        have h := Option.some.inj h
        subst h
        exact fs_iret (by decide +kernel) rt_91
    · rw [if_neg c22] at h
      refine fs_if_ne_f (off := 5) (t := 16) (p := 14) (by decide +kernel) (by decide +kernel) rfl c22 ?_
      refine fs_iconst (n := -1) (p := 15) (by decide +kernel) rfl kc_m1 ?_
      have h := Option.some.inj h
      subst h
      exact fs_iret (by decide +kernel) rt_91

/-! ZoneShares.piece(II)I -/
theorem mx_96 : iv_mx 96 = 5 := by decide +kernel
theorem rt_96 : iv_rt 96 = some .int := by decide +kernel
def fm_96 (x1 : Int32) (x2 : Int32) (σ : fx_S) : Option (Int32 × fx_S) :=
  (fm_57 1 σ).bind fun q27 =>
  if (fx_b q27.1) = 0 then (
    some ((-1 : Int32), q27.2)) else (
    if x1 < (-1 : Int32) then (
      some ((-1 : Int32), q27.2)) else (
      if x2 < 0 then (
        some ((-1 : Int32), q27.2)) else (
        if x2 ≤ (3 : Int32) then (
          (fm_123 q27.2).bind fun q35 =>
          if ¬ x1 = (-1 : Int32) then (
            if x1 < q35.1 then (
              (fm_124 x1 q35.2).bind fun q40 =>
              if x2 = (0 : Int32) then (
                some ((q40.1 / (36 : Int32)), q40.2)) else (
                if x2 = (1 : Int32) then (
                  some (((q40.1 / (4 : Int32)) - (q40.1 / (4 : Int32)) / (9 : Int32) * (9 : Int32)), q40.2)) else (
                  if x2 = (2 : Int32) then (
                    some ((q40.1 - q40.1 / (4 : Int32) * (4 : Int32)), q40.2)) else (
                    (fx_ld q40.2 69 q40.1).bind fun v44 =>
                    some (v44, q40.2))))) else (
              some ((-1 : Int32), q35.2))) else (
            some (q35.1, q35.2))) else (
          some ((-1 : Int32), q27.2)))))
theorem fe_96 {d : Nat} (hd : 2 ≤ d) {x1 : Int32} {x2 : Int32} {σ : fx_S} {q : Int32 × fx_S} (h : fm_96 x1 x2 σ = some q) : fx_E none 96 d 0 [some (.ref 0), some (.int x1), some (.int x2), none, none] [] σ (some (.int q.1)) q.2 := by
  unfold fm_96 at h
  refine fs_aload_n (k := 0) (p := 1) (by decide +kernel) rfl rfl ?_
  refine fs_gfr (idx := 13) (ci := 9) (j := 1) (p := 4) (by decide +kernel) rfl (by decide +kernel) fo_0 (fr_a0_1) ?_
  obtain ⟨q27, w26, h⟩ := fx_bd h
  refine fs_callV (idx := 146) (mj := 57) (ci := 6) (na := 0) (mx := 1) (p := 7) (args := [.ref 1]) (rest := []) (al2 := [some (.ref 1)]) (by decide +kernel) rfl (by decide +kernel) fo_1 rfl rfl rfl rfl rfl rfl rfl (by omega) (fun d' hd' => fe_57 (by omega) w26) rfl ?_
  by_cases c28 : (fx_b q27.1) = 0
  · rw [if_pos c28] at h
    refine fs_if_eq_t (off := 17) (t := 24) (by decide +kernel) (by decide +kernel) c28 ?_
    refine fs_iconst (n := -1) (p := 25) (by decide +kernel) rfl kc_m1 ?_
    have h := Option.some.inj h
    subst h
    exact fs_iret (by decide +kernel) rt_96
  · rw [if_neg c28] at h
    refine fs_if_eq_f (off := 17) (t := 24) (p := 10) (by decide +kernel) (by decide +kernel) rfl c28 ?_
    refine fs_iload_n (k := 1) (p := 11) (by decide +kernel) rfl rfl ?_
    refine fs_iconst (n := -1) (p := 12) (by decide +kernel) rfl kc_m1 ?_
    by_cases c30 : x1 < (-1 : Int32)
    · rw [if_pos c30] at h
      refine fs_icmp_lt_t (off := 12) (t := 24) (by decide +kernel) (by decide +kernel) c30 ?_
      refine fs_iconst (n := -1) (p := 25) (by decide +kernel) rfl kc_m1 ?_
      have h := Option.some.inj h
      subst h
      exact fs_iret (by decide +kernel) rt_96
    · rw [if_neg c30] at h
      refine fs_icmp_lt_f (off := 12) (t := 24) (p := 15) (by decide +kernel) (by decide +kernel) rfl c30 ?_
      refine fs_iload_n (k := 2) (p := 16) (by decide +kernel) rfl rfl ?_
      by_cases c32 : x2 < 0
      · rw [if_pos c32] at h
        refine fs_if_lt_t (off := 8) (t := 24) (by decide +kernel) (by decide +kernel) c32 ?_
        refine fs_iconst (n := -1) (p := 25) (by decide +kernel) rfl kc_m1 ?_
        have h := Option.some.inj h
        subst h
        exact fs_iret (by decide +kernel) rt_96
      · rw [if_neg c32] at h
        refine fs_if_lt_f (off := 8) (t := 24) (p := 19) (by decide +kernel) (by decide +kernel) rfl c32 ?_
        refine fs_iload_n (k := 2) (p := 20) (by decide +kernel) rfl rfl ?_
        refine fs_iconst (n := 3) (p := 21) (by decide +kernel) rfl kc_3 ?_
        by_cases c33 : x2 ≤ (3 : Int32)
        · rw [if_pos c33] at h
          refine fs_icmp_le_t (off := 5) (t := 26) (by decide +kernel) (by decide +kernel) c33 ?_
          refine fs_aload_n (k := 0) (p := 27) (by decide +kernel) rfl rfl ?_
          obtain ⟨q35, w34, h⟩ := fx_bd h
          refine fs_callV (idx := 181) (mj := 123) (ci := 9) (na := 0) (mx := 6) (p := 30) (args := [.ref 0]) (rest := []) (al2 := [some (.ref 0), none, none, none, none, none]) (by decide +kernel) rfl (by decide +kernel) fo_0 rfl rfl rfl rfl rfl rfl rfl (by omega) (fun d' hd' => fe_123 (by omega) w34) rfl ?_
          refine fs_istore_n (k := 3) (p := 31) (M := 5) (al' := [some (.ref 0), some (.int x1), some (.int x2), some (.int q35.1), none]) (by decide +kernel) rfl mx_96 rfl rfl ?_
          refine fs_iload_n (k := 1) (p := 32) (by decide +kernel) rfl rfl ?_
          refine fs_iconst (n := -1) (p := 33) (by decide +kernel) rfl kc_m1 ?_
          by_cases c36 : ¬ x1 = (-1 : Int32)
          · rw [if_pos c36] at h
            refine fs_icmp_ne_t (off := 5) (t := 38) (by decide +kernel) (by decide +kernel) c36 ?_
            refine fs_iload_n (k := 1) (p := 39) (by decide +kernel) rfl rfl ?_
            refine fs_iload_n (k := 3) (p := 40) (by decide +kernel) rfl rfl ?_
            by_cases c38 : x1 < q35.1
            · rw [if_pos c38] at h
              refine fs_icmp_lt_t (off := 5) (t := 45) (by decide +kernel) (by decide +kernel) c38 ?_
              refine fs_aload_n (k := 0) (p := 46) (by decide +kernel) rfl rfl ?_
              refine fs_iload_n (k := 1) (p := 47) (by decide +kernel) rfl rfl ?_
              obtain ⟨q40, w39, h⟩ := fx_bd h
              refine fs_callV (idx := 184) (mj := 124) (ci := 9) (na := 1) (mx := 4) (p := 50) (args := [.ref 0, .int x1]) (rest := []) (al2 := [some (.ref 0), some (.int x1), none, none]) (by decide +kernel) rfl (by decide +kernel) fo_0 rfl rfl rfl rfl rfl rfl rfl (by omega) (fun d' hd' => fe_124 (by omega) w39) rfl ?_
              refine fs_istore (k := 4) (p := 52) (M := 5) (al' := [some (.ref 0), some (.int x1), some (.int x2), some (.int q35.1), some (.int q40.1)]) (by decide +kernel) rfl mx_96 rfl rfl ?_
              refine fs_iload_n (k := 2) (p := 53) (by decide +kernel) rfl rfl ?_
              by_cases c41 : x2 = (0 : Int32)
              · rw [if_pos c41] at h
                refine fs_tsw_h (dflt := 46) (lo := 0) (hi := 2) (offs := #[27, 33, 41]) (x := x2) (j := 0) (t := 80) (by decide +kernel) (by decide +kernel) (by decide) (c41.trans (by decide)) ?_
                refine fs_iload (k := 4) (p := 82) (by decide +kernel) rfl rfl ?_
                refine fs_bipush (n := 36) (p := 84) (by decide +kernel) rfl kb_36 ?_
                refine fs_idiv (p := 85) (by decide +kernel) rfl (by decide) ?_
                have h := Option.some.inj h
                subst h
                exact fs_iret (by decide +kernel) rt_96
              · rw [if_neg c41] at h
                by_cases c42 : x2 = (1 : Int32)
                · rw [if_pos c42] at h
                  refine fs_tsw_h (dflt := 46) (lo := 0) (hi := 2) (offs := #[27, 33, 41]) (x := x2) (j := 1) (t := 86) (by decide +kernel) (by decide +kernel) (by decide) (c42.trans (by decide)) ?_
                  refine fs_iload (k := 4) (p := 88) (by decide +kernel) rfl rfl ?_
                  refine fs_iconst (n := 4) (p := 89) (by decide +kernel) rfl kc_4 ?_
                  refine fs_idiv (p := 90) (by decide +kernel) rfl (by decide) ?_
                  refine fs_bipush (n := 9) (p := 92) (by decide +kernel) rfl kb_9 ?_
                  refine fs_irem (p := 93) (by decide +kernel) rfl (by decide) ?_
                  have h := Option.some.inj h
                  subst h
                  exact fs_iret (by decide +kernel) rt_96
                · rw [if_neg c42] at h
                  by_cases c43 : x2 = (2 : Int32)
                  · rw [if_pos c43] at h
                    refine fs_tsw_h (dflt := 46) (lo := 0) (hi := 2) (offs := #[27, 33, 41]) (x := x2) (j := 2) (t := 94) (by decide +kernel) (by decide +kernel) (by decide) (c43.trans (by decide)) ?_
                    refine fs_iload (k := 4) (p := 96) (by decide +kernel) rfl rfl ?_
                    refine fs_iconst (n := 4) (p := 97) (by decide +kernel) rfl kc_4 ?_
                    refine fs_irem (p := 98) (by decide +kernel) rfl (by decide) ?_
                    have h := Option.some.inj h
                    subst h
                    exact fs_iret (by decide +kernel) rt_96
                  · rw [if_neg c43] at h
                    refine fs_tsw_d (dflt := 46) (lo := 0) (hi := 2) (offs := #[27, 33, 41]) (x := x2) (t := 99) (by decide +kernel) (by decide +kernel) (by decide) (by decide) (fun j hj => by match j, hj with | 0, _ => exact c41 | 1, _ => exact c42 | 2, _ => exact c43) ?_
                    refine fs_aload_n (k := 0) (p := 100) (by decide +kernel) rfl rfl ?_
                    refine fs_gfr (idx := 54) (ci := 9) (j := 7) (p := 103) (by decide +kernel) rfl (by decide +kernel) fo_0 (fr_a0_7) ?_
                    refine fs_iload (k := 4) (p := 105) (by decide +kernel) rfl rfl ?_
                    obtain ⟨v44, w45, h⟩ := fx_bd h
                    refine fs_iaload (p := 106) (by decide +kernel) rfl w45 ?_
                    have h := Option.some.inj h
                    subst h
                    exact fs_iret (by decide +kernel) rt_96
            · rw [if_neg c38] at h
              refine fs_icmp_lt_f (off := 5) (t := 45) (p := 43) (by decide +kernel) (by decide +kernel) rfl c38 ?_
              refine fs_iconst (n := -1) (p := 44) (by decide +kernel) rfl kc_m1 ?_
              have h := Option.some.inj h
              subst h
              exact fs_iret (by decide +kernel) rt_96
          · rw [if_neg c36] at h
            refine fs_icmp_ne_f (off := 5) (t := 38) (p := 36) (by decide +kernel) (by decide +kernel) rfl c36 ?_
            refine fs_iload_n (k := 3) (p := 37) (by decide +kernel) rfl rfl ?_
            have h := Option.some.inj h
            subst h
            exact fs_iret (by decide +kernel) rt_96
        · rw [if_neg c33] at h
          refine fs_icmp_le_f (off := 5) (t := 26) (p := 24) (by decide +kernel) (by decide +kernel) rfl c33 ?_
          refine fs_iconst (n := -1) (p := 25) (by decide +kernel) rfl kc_m1 ?_
          have h := Option.some.inj h
          subst h
          exact fs_iret (by decide +kernel) rt_96

/-! ZoneShares.apart(I)I -/
theorem mx_110 : iv_mx 110 = 4 := by decide +kernel
theorem rt_110 : iv_rt 110 = some .int := by decide +kernel
def fm_110_67 (k_49 : Int32 → Int32 → Int32 → fx_S → Option (Int32 × fx_S)) (x1 : Int32) (x2 : Int32) (x3 : Int32) (σ : fx_S) : Option (Int32 × fx_S) :=
  k_49 x1 x2 (x3 + (1 : Int32)) σ
theorem fe_110_67 {d : Nat} (hd : 3 ≤ d) {k_49 : Int32 → Int32 → Int32 → fx_S → Option (Int32 × fx_S)} (hk_49 : ∀ (x1 : Int32) (x2 : Int32) (x3 : Int32) (σ : fx_S) (q : Int32 × fx_S), k_49 x1 x2 x3 σ = some q → fx_E none 110 d 49 [some (.ref 0), some (.int x1), some (.int x2), some (.int x3)] [] σ (some (.int q.1)) q.2) (x1 : Int32) (x2 : Int32) (x3 : Int32) (σ : fx_S) (q : Int32 × fx_S) (h : fm_110_67 k_49  x1 x2 x3 σ = some q) : fx_E none 110 d 67 [some (.ref 0), some (.int x1), some (.int x2), some (.int x3)] [] σ (some (.int q.1)) q.2 := by
  unfold fm_110_67 at h
  refine fs_iinc (k := 3) (n := 1) (p := 70) (M := 4) (al' := [some (.ref 0), some (.int x1), some (.int x2), some (.int (x3 + (1 : Int32)))]) (by decide +kernel) rfl kc_1 mx_110 rfl rfl rfl ?_
  refine fs_goto (off := -21) (p := 49) (by decide +kernel) (by decide +kernel) ?_
  exact hk_49 _ _ _ _ _ h
def fm_110_49 : Nat → Int32 → Int32 → Int32 → fx_S → Option (Int32 × fx_S)
  | 0, _, _, _, _ => none
  | n + 1, x1, x2, x3, σ =>
    if (8 : Int32) ≤ x3 then (
      some (x2, σ)) else (
      (fm_125 x3 x1 σ).bind fun q4 =>
      if (fx_b q4.1) = 0 then (
        fm_110_67 (fm_110_49 n) x1 x2 x3 q4.2) else (
        fm_110_67 (fm_110_49 n) x1 (x2 + (1 : Int32)) x3 q4.2))
theorem fe_110_49 {d : Nat} (hd : 3 ≤ d) : ∀ (n : Nat) (x1 : Int32) (x2 : Int32) (x3 : Int32) (σ : fx_S) (q : Int32 × fx_S), fm_110_49 n x1 x2 x3 σ = some q → fx_E none 110 d 49 [some (.ref 0), some (.int x1), some (.int x2), some (.int x3)] [] σ (some (.int q.1)) q.2 := by
  intro n
  induction n with
  | zero =>
    intro x1 x2 x3 σ q  h
    rw [fm_110_49] at h
    exact fx_no h
  | succ n ih =>
    intro x1 x2 x3 σ q  h
    rw [fm_110_49] at h
    refine fs_iload_n (k := 3) (p := 50) (by decide +kernel) rfl rfl ?_
    refine fs_bipush (n := 8) (p := 52) (by decide +kernel) rfl kb_8 ?_
    by_cases c2 : (8 : Int32) ≤ x3
    · rw [if_pos c2] at h
      refine fs_icmp_ge_t (off := 21) (t := 73) (by decide +kernel) (by decide +kernel) c2 ?_
      refine fs_iload_n (k := 2) (p := 74) (by decide +kernel) rfl rfl ?_
      have h := Option.some.inj h
      subst h
      exact fs_iret (by decide +kernel) rt_110
    · rw [if_neg c2] at h
      refine fs_icmp_ge_f (off := 21) (t := 73) (p := 55) (by decide +kernel) (by decide +kernel) rfl c2 ?_
      refine fs_aload_n (k := 0) (p := 56) (by decide +kernel) rfl rfl ?_
      refine fs_iload_n (k := 3) (p := 57) (by decide +kernel) rfl rfl ?_
      refine fs_iload_n (k := 1) (p := 58) (by decide +kernel) rfl rfl ?_
      obtain ⟨q4, w3, h⟩ := fx_bd h
      refine fs_callV (idx := 294) (mj := 125) (ci := 9) (na := 2) (mx := 5) (p := 61) (args := [.ref 0, .int x3, .int x1]) (rest := []) (al2 := [some (.ref 0), some (.int x3), some (.int x1), none, none]) (by decide +kernel) rfl (by decide +kernel) fo_0 rfl rfl rfl rfl rfl rfl rfl (by omega) (fun d' hd' => fe_125 (by omega) w3) rfl ?_
      by_cases c5 : (fx_b q4.1) = 0
      · rw [if_pos c5] at h
        refine fs_if_eq_t (off := 6) (t := 67) (by decide +kernel) (by decide +kernel) c5 ?_
        exact fe_110_67 hd ih _ _ _ _ _ h
      · rw [if_neg c5] at h
        refine fs_if_eq_f (off := 6) (t := 67) (p := 64) (by decide +kernel) (by decide +kernel) rfl c5 ?_
        refine fs_iinc (k := 2) (n := 1) (p := 67) (M := 4) (al' := [some (.ref 0), some (.int x1), some (.int (x2 + (1 : Int32))), some (.int x3)]) (by decide +kernel) rfl kc_1 mx_110 rfl rfl rfl ?_
        exact fe_110_67 hd ih _ _ _ _ _ h
def fm_110 (x1 : Int32) (σ : fx_S) : Option (Int32 × fx_S) :=
  if x1 < 0 then (
    some ((-1 : Int32), σ)) else (
    if (3 : Int32) < x1 then (
      some ((-1 : Int32), σ)) else (
      (fm_56 1 (0 : Int32) σ).bind fun q22 =>
      if (fx_b q22.1) = 0 then (
        some ((-1 : Int32), q22.2)) else (
        (fm_56 1 (1 : Int32) q22.2).bind fun q25 =>
        if ¬ (fx_b q25.1) = 0 then (
          if ¬ x1 = 0 then (
            fm_110_49 100000 x1 (0 : Int32) (0 : Int32) q25.2) else (
            (fm_64 1 q25.2).bind fun q29 =>
            some (q29.1, q29.2))) else (
          some ((-1 : Int32), q25.2)))))
theorem fe_110 {d : Nat} (hd : 3 ≤ d) {x1 : Int32} {σ : fx_S} {q : Int32 × fx_S} (h : fm_110 x1 σ = some q) : fx_E none 110 d 0 [some (.ref 0), some (.int x1), none, none] [] σ (some (.int q.1)) q.2 := by
  unfold fm_110 at h
  refine fs_iload_n (k := 1) (p := 1) (by decide +kernel) rfl rfl ?_
  by_cases c19 : x1 < 0
  · rw [if_pos c19] at h
    refine fs_if_lt_t (off := 30) (t := 31) (by decide +kernel) (by decide +kernel) c19 ?_
    refine fs_iconst (n := -1) (p := 32) (by decide +kernel) rfl kc_m1 ?_
    have h := Option.some.inj h
    subst h
    exact fs_iret (by decide +kernel) rt_110
  · rw [if_neg c19] at h
    refine fs_if_lt_f (off := 30) (t := 31) (p := 4) (by decide +kernel) (by decide +kernel) rfl c19 ?_
    refine fs_iload_n (k := 1) (p := 5) (by decide +kernel) rfl rfl ?_
    refine fs_iconst (n := 3) (p := 6) (by decide +kernel) rfl kc_3 ?_
    by_cases c20 : (3 : Int32) < x1
    · rw [if_pos c20] at h
      refine fs_icmp_gt_t (off := 25) (t := 31) (by decide +kernel) (by decide +kernel) c20 ?_
      refine fs_iconst (n := -1) (p := 32) (by decide +kernel) rfl kc_m1 ?_
      have h := Option.some.inj h
      subst h
      exact fs_iret (by decide +kernel) rt_110
    · rw [if_neg c20] at h
      refine fs_icmp_gt_f (off := 25) (t := 31) (p := 9) (by decide +kernel) (by decide +kernel) rfl c20 ?_
      refine fs_aload_n (k := 0) (p := 10) (by decide +kernel) rfl rfl ?_
      refine fs_gfr (idx := 13) (ci := 9) (j := 1) (p := 13) (by decide +kernel) rfl (by decide +kernel) fo_0 (fr_a0_1) ?_
      refine fs_iconst (n := 0) (p := 14) (by decide +kernel) rfl kc_0 ?_
      obtain ⟨q22, w21, h⟩ := fx_bd h
      refine fs_callV (idx := 75) (mj := 56) (ci := 6) (na := 1) (mx := 2) (p := 17) (args := [.ref 1, .int (0 : Int32)]) (rest := []) (al2 := [some (.ref 1), some (.int (0 : Int32))]) (by decide +kernel) rfl (by decide +kernel) fo_1 rfl rfl rfl rfl rfl rfl rfl (by omega) (fun d' hd' => fe_56 (by omega) w21) rfl ?_
      by_cases c23 : (fx_b q22.1) = 0
      · rw [if_pos c23] at h
        refine fs_if_eq_t (off := 14) (t := 31) (by decide +kernel) (by decide +kernel) c23 ?_
        refine fs_iconst (n := -1) (p := 32) (by decide +kernel) rfl kc_m1 ?_
        have h := Option.some.inj h
        subst h
        exact fs_iret (by decide +kernel) rt_110
      · rw [if_neg c23] at h
        refine fs_if_eq_f (off := 14) (t := 31) (p := 20) (by decide +kernel) (by decide +kernel) rfl c23 ?_
        refine fs_aload_n (k := 0) (p := 21) (by decide +kernel) rfl rfl ?_
        refine fs_gfr (idx := 13) (ci := 9) (j := 1) (p := 24) (by decide +kernel) rfl (by decide +kernel) fo_0 (fr_a0_1) ?_
        refine fs_iconst (n := 1) (p := 25) (by decide +kernel) rfl kc_1 ?_
        obtain ⟨q25, w24, h⟩ := fx_bd h
        refine fs_callV (idx := 75) (mj := 56) (ci := 6) (na := 1) (mx := 2) (p := 28) (args := [.ref 1, .int (1 : Int32)]) (rest := []) (al2 := [some (.ref 1), some (.int (1 : Int32))]) (by decide +kernel) rfl (by decide +kernel) fo_1 rfl rfl rfl rfl rfl rfl rfl (by omega) (fun d' hd' => fe_56 (by omega) w24) rfl ?_
        by_cases c26 : ¬ (fx_b q25.1) = 0
        · rw [if_pos c26] at h
          refine fs_if_ne_t (off := 5) (t := 33) (by decide +kernel) (by decide +kernel) c26 ?_
          refine fs_iload_n (k := 1) (p := 34) (by decide +kernel) rfl rfl ?_
          by_cases c27 : ¬ x1 = 0
          · rw [if_pos c27] at h
            refine fs_if_ne_t (off := 11) (t := 45) (by decide +kernel) (by decide +kernel) c27 ?_
            refine fs_iconst (n := 0) (p := 46) (by decide +kernel) rfl kc_0 ?_
            refine fs_istore_n (k := 2) (p := 47) (M := 4) (al' := [some (.ref 0), some (.int x1), some (.int (0 : Int32)), none]) (by decide +kernel) rfl mx_110 rfl rfl ?_
            refine fs_iconst (n := 0) (p := 48) (by decide +kernel) rfl kc_0 ?_
            refine fs_istore_n (k := 3) (p := 49) (M := 4) (al' := [some (.ref 0), some (.int x1), some (.int (0 : Int32)), some (.int (0 : Int32))]) (by decide +kernel) rfl mx_110 rfl rfl ?_
            exact fe_110_49 hd 100000 _ _ _ _ _ h
          · rw [if_neg c27] at h
            refine fs_if_ne_f (off := 11) (t := 45) (p := 37) (by decide +kernel) (by decide +kernel) rfl c27 ?_
            refine fs_aload_n (k := 0) (p := 38) (by decide +kernel) rfl rfl ?_
            refine fs_gfr (idx := 13) (ci := 9) (j := 1) (p := 41) (by decide +kernel) rfl (by decide +kernel) fo_0 (fr_a0_1) ?_
            obtain ⟨q29, w28, h⟩ := fx_bd h
            refine fs_callV (idx := 291) (mj := 64) (ci := 6) (na := 0) (mx := 4) (p := 44) (args := [.ref 1]) (rest := []) (al2 := [some (.ref 1), none, none, none]) (by decide +kernel) rfl (by decide +kernel) fo_1 rfl rfl rfl rfl rfl rfl rfl (by omega) (fun d' hd' => fe_64 (by omega) w28) rfl ?_
            have h := Option.some.inj h
            subst h
            exact fs_iret (by decide +kernel) rt_110
        · rw [if_neg c26] at h
          refine fs_if_ne_f (off := 5) (t := 33) (p := 31) (by decide +kernel) (by decide +kernel) rfl c26 ?_
          refine fs_iconst (n := -1) (p := 32) (by decide +kernel) rfl kc_m1 ?_
          have h := Option.some.inj h
          subst h
          exact fs_iret (by decide +kernel) rt_110

/-! ZoneShares.fits(I)Z -/
theorem mx_121 : iv_mx 121 = 2 := by decide +kernel
theorem rt_121 : iv_rt 121 = some .boolean := by decide +kernel
def fm_121 (x1 : Int32) (σ : fx_S) : Option (Bool × fx_S) :=
  (fm_114 x1 σ).bind fun q12 =>
  if (fx_b q12.1) = 0 then (
    some (false, q12.2)) else (
    (fm_57 1 q12.2).bind fun q15 =>
    if ¬ (fx_b q15.1) = 0 then (
      (fm_10 1 x1 q15.2).bind fun q18 =>
      if (q18.2 62 1) ≤ (0 : Int64) then (
        some (false, q18)) else (
        some (true, q18))) else (
      some (false, q15.2)))
theorem fe_121 {d : Nat} (hd : 3 ≤ d) {x1 : Int32} {σ : fx_S} {q : Bool × fx_S} (h : fm_121 x1 σ = some q) : fx_E none 121 d 0 [some (.ref 0), some (.int x1)] [] σ (some (.int (fx_b q.1))) q.2 := by
  unfold fm_121 at h
  refine fs_iload_n (k := 1) (p := 1) (by decide +kernel) rfl rfl ?_
  obtain ⟨q12, w11, h⟩ := fx_bd h
  refine fs_callS (idx := 94) (mj := 114) (na := 1) (mx := 1) (p := 4) (args := [.int x1]) (rest := []) (al2 := [some (.int x1)]) (by decide +kernel) rfl (by decide +kernel) rfl rfl rfl rfl rfl rfl rfl (by omega) (fun d' hd' => fe_114 (by omega) w11) rfl ?_
  by_cases c13 : (fx_b q12.1) = 0
  · rw [if_pos c13] at h
    refine fs_if_eq_t (off := 13) (t := 17) (by decide +kernel) (by decide +kernel) c13 ?_
    refine fs_iconst (n := 0) (p := 18) (by decide +kernel) rfl kc_0 ?_
    have h := Option.some.inj h
    subst h
    exact fs_zret (b := false) (by decide +kernel) rt_121
  · rw [if_neg c13] at h
    refine fs_if_eq_f (off := 13) (t := 17) (p := 7) (by decide +kernel) (by decide +kernel) rfl c13 ?_
    refine fs_aload_n (k := 0) (p := 8) (by decide +kernel) rfl rfl ?_
    refine fs_gfr (idx := 13) (ci := 9) (j := 1) (p := 11) (by decide +kernel) rfl (by decide +kernel) fo_0 (fr_a0_1) ?_
    obtain ⟨q15, w14, h⟩ := fx_bd h
    refine fs_callV (idx := 146) (mj := 57) (ci := 6) (na := 0) (mx := 1) (p := 14) (args := [.ref 1]) (rest := []) (al2 := [some (.ref 1)]) (by decide +kernel) rfl (by decide +kernel) fo_1 rfl rfl rfl rfl rfl rfl rfl (by omega) (fun d' hd' => fe_57 (by omega) w14) rfl ?_
    by_cases c16 : ¬ (fx_b q15.1) = 0
    · rw [if_pos c16] at h
      refine fs_if_ne_t (off := 5) (t := 19) (by decide +kernel) (by decide +kernel) c16 ?_
      refine fs_aload_n (k := 0) (p := 20) (by decide +kernel) rfl rfl ?_
      refine fs_gfr (idx := 50) (ci := 9) (j := 5) (p := 23) (by decide +kernel) rfl (by decide +kernel) fo_0 (fr_a0_5) ?_
      refine fs_aload_n (k := 0) (p := 24) (by decide +kernel) rfl rfl ?_
      refine fs_gfr (idx := 13) (ci := 9) (j := 1) (p := 27) (by decide +kernel) rfl (by decide +kernel) fo_0 (fr_a0_1) ?_
      refine fs_iload_n (k := 1) (p := 28) (by decide +kernel) rfl rfl ?_
      obtain ⟨q18, w17, h⟩ := fx_bd h
      refine fs_callV (idx := 316) (mj := 10) (ci := 1) (na := 2) (mx := 4) (p := 31) (args := [.ref 62, .ref 1, .int x1]) (rest := []) (al2 := [some (.ref 62), some (.ref 1), some (.int x1), none]) (by decide +kernel) rfl (by decide +kernel) fo_62 rfl rfl rfl rfl rfl rfl rfl (by omega) (fun d' hd' => fe_10 (by omega) w17) rfl ?_
      refine fs_aload_n (k := 0) (p := 32) (by decide +kernel) rfl rfl ?_
      refine fs_gfr (idx := 50) (ci := 9) (j := 5) (p := 35) (by decide +kernel) rfl (by decide +kernel) fo_0 (fr_a0_5) ?_
      refine fs_gfl (idx := 320) (ci := 1) (j := 1) (p := 38) (by decide +kernel) rfl (by decide +kernel) fo_62 ?_
      refine fs_lconst (n := 0) (p := 39) (by decide +kernel) rfl kl_0 ?_
      by_cases c20 : (q18.2 62 1) ≤ (0 : Int64)
      · rw [if_pos c20] at h
        refine fs_lcmp_le_t (off := 7) (t := 47) (by decide +kernel) (by decide +kernel) (by decide +kernel) c20 ?_
        refine fs_iconst (n := 0) (p := 48) (by decide +kernel) rfl kc_0 ?_
        have h := Option.some.inj h
        subst h
        exact fs_zret (b := false) (by decide +kernel) rt_121
      · rw [if_neg c20] at h
        refine fs_lcmp_le_f (off := 7) (t := 47) (p := 43) (by decide +kernel) (by decide +kernel) (by decide +kernel) rfl c20 ?_
        refine fs_iconst (n := 1) (p := 44) (by decide +kernel) rfl kc_1 ?_
        refine fs_goto (off := 4) (p := 48) (by decide +kernel) (by decide +kernel) ?_
        have h := Option.some.inj h
        subst h
        exact fs_zret (b := true) (by decide +kernel) rt_121
    · rw [if_neg c16] at h
      refine fs_if_ne_f (off := 5) (t := 19) (p := 17) (by decide +kernel) (by decide +kernel) rfl c16 ?_
      refine fs_iconst (n := 0) (p := 18) (by decide +kernel) rfl kc_0 ?_
      have h := Option.some.inj h
      subst h
      exact fs_zret (b := false) (by decide +kernel) rt_121

/-! ZoneShares$CountsText.read(LZoneShares$Tape;)I -/
theorem mx_4 : iv_mx 4 = 6 := by decide +kernel
theorem rt_4 : iv_rt 4 = some .int := by decide +kernel
def fm_4_112 (k_33 : Int32 → Int32 → fx_S → Option (Int32 × fx_S)) (x3 : Int32) (s0 : Int32) (σ : fx_S) : Option (Int32 × fx_S) :=
  k_33 s0 (x3 + (1 : Int32)) (fx_w1 σ 60 2 ((σ.1 60 2) + (1 : Int32)))
theorem fe_4_112 {d : Nat} (hd : 3 ≤ d) {k_33 : Int32 → Int32 → fx_S → Option (Int32 × fx_S)} (hk_33 : ∀ (x2 : Int32) (x3 : Int32) (o4 : Option Value) (o5 : Option Value) (σ : fx_S) (q : Int32 × fx_S), k_33 x2 x3 σ = some q → fx_E none 4 d 33 [some (.ref 60), some (.ref 14), some (.int x2), some (.int x3), o4, o5] [] σ (some (.int q.1)) q.2) (x3 : Int32) (s0 : Int32) (o2 : Option Value) (o4 : Option Value) (o5 : Option Value) (σ : fx_S) (q : Int32 × fx_S) (h : fm_4_112 k_33  x3 s0 σ = some q) : fx_E none 4 d 112 [some (.ref 60), some (.ref 14), o2, some (.int x3), o4, o5] [.int s0] σ (some (.int q.1)) q.2 := by
  unfold fm_4_112 at h
  refine fs_istore_n (k := 2) (p := 113) (M := 6) (al' := [some (.ref 60), some (.ref 14), some (.int s0), some (.int x3), o4, o5]) (by decide +kernel) rfl mx_4 rfl rfl ?_
  refine fs_aload_n (k := 0) (p := 114) (by decide +kernel) rfl rfl ?_
  refine fs_dup (p := 115) (by decide +kernel) rfl rfl ?_
  refine fs_gfi (idx := 25) (ci := 0) (j := 2) (p := 118) (by decide +kernel) rfl (by decide +kernel) fo_60 ?_
  refine fs_iconst (n := 1) (p := 119) (by decide +kernel) rfl kc_1 ?_
  refine fs_iadd (p := 120) (by decide +kernel) rfl ?_
  refine fs_pfi (idx := 25) (ci := 0) (j := 2) (p := 123) (by decide +kernel) rfl (by decide +kernel) (by decide +kernel) fo_60 (fx_oki _ (by decide +kernel)) ?_
  refine fs_iinc (k := 3) (n := 1) (p := 126) (M := 6) (al' := [some (.ref 60), some (.ref 14), some (.int s0), some (.int (x3 + (1 : Int32))), o4, o5]) (by decide +kernel) rfl kc_1 mx_4 rfl rfl rfl ?_
  refine fs_goto (off := -93) (p := 33) (by decide +kernel) (by decide +kernel) ?_
  exact hk_33 _ _ _ _ _ _ h
def fm_4_100 (k_33 : Int32 → Int32 → fx_S → Option (Int32 × fx_S)) (x3 : Int32) (x5 : Int32) (σ : fx_S) : Option (Int32 × fx_S) :=
  if ¬ x5 = (44 : Int32) then (
    fm_4_112 k_33 x3 (0 : Int32) σ) else (
    fm_4_112 k_33 x3 (1 : Int32) σ)
theorem fe_4_100 {d : Nat} (hd : 3 ≤ d) {k_33 : Int32 → Int32 → fx_S → Option (Int32 × fx_S)} (hk_33 : ∀ (x2 : Int32) (x3 : Int32) (o4 : Option Value) (o5 : Option Value) (σ : fx_S) (q : Int32 × fx_S), k_33 x2 x3 σ = some q → fx_E none 4 d 33 [some (.ref 60), some (.ref 14), some (.int x2), some (.int x3), o4, o5] [] σ (some (.int q.1)) q.2) (x3 : Int32) (x5 : Int32) (o2 : Option Value) (o4 : Option Value) (σ : fx_S) (q : Int32 × fx_S) (h : fm_4_100 k_33  x3 x5 σ = some q) : fx_E none 4 d 100 [some (.ref 60), some (.ref 14), o2, some (.int x3), o4, some (.int x5)] [] σ (some (.int q.1)) q.2 := by
  unfold fm_4_100 at h
  refine fs_iload (k := 5) (p := 102) (by decide +kernel) rfl rfl ?_
  refine fs_bipush (n := 44) (p := 104) (by decide +kernel) rfl kb_44 ?_
  by_cases c2 : ¬ x5 = (44 : Int32)
  · rw [if_pos c2] at h
    refine fs_icmp_ne_t (off := 7) (t := 111) (by decide +kernel) (by decide +kernel) c2 ?_
    refine fs_iconst (n := 0) (p := 112) (by decide +kernel) rfl kc_0 ?_
    exact fe_4_112 hd hk_33 _ _ _ _ _ _ _ h
  · rw [if_neg c2] at h
    refine fs_icmp_ne_f (off := 7) (t := 111) (p := 107) (by decide +kernel) (by decide +kernel) rfl c2 ?_
    refine fs_iconst (n := 1) (p := 108) (by decide +kernel) rfl kc_1 ?_
    refine fs_goto (off := 4) (p := 112) (by decide +kernel) (by decide +kernel) ?_
    exact fe_4_112 hd hk_33 _ _ _ _ _ _ _ h
def fm_4_33 : Nat → Int32 → Int32 → fx_S → Option (Int32 × fx_S)
  | 0, _, _, _ => none
  | n + 1, x2, x3, σ =>
    if (200 : Int32) ≤ x3 then (
      some ((-1 : Int32), σ)) else (
      if x2 = 0 then (
        some ((-1 : Int32), σ)) else (
        (fm_5 σ).bind fun q6 =>
        if q6.1 = 0 then (
          (fm_83 (q6.2.1 60 2) q6.2).bind fun q10 =>
          if q10.1 = (44 : Int32) then (
            fm_4_100 (fm_4_33 n) x3 q10.1 q10.2) else (
            if q10.1 = (-1 : Int32) then (
              fm_4_100 (fm_4_33 n) x3 q10.1 q10.2) else (
              some ((((8 : Int32) * (q10.2.1 60 2)) + (1 : Int32)), q10.2)))) else (
          some ((((8 : Int32) * (q6.2.1 60 2)) + q6.1), q6.2))))
theorem fe_4_33 {d : Nat} (hd : 3 ≤ d) : ∀ (n : Nat) (x2 : Int32) (x3 : Int32) (o4 : Option Value) (o5 : Option Value) (σ : fx_S) (q : Int32 × fx_S), fm_4_33 n x2 x3 σ = some q → fx_E none 4 d 33 [some (.ref 60), some (.ref 14), some (.int x2), some (.int x3), o4, o5] [] σ (some (.int q.1)) q.2 := by
  intro n
  induction n with
  | zero =>
    intro x2 x3 o4 o5 σ q  h
    rw [fm_4_33] at h
    exact fx_no h
  | succ n ih =>
    intro x2 x3 o4 o5 σ q  h
    rw [fm_4_33] at h
    refine fs_iload_n (k := 3) (p := 34) (by decide +kernel) rfl rfl ?_
    refine fs_sipush (n := 200) (p := 37) (by decide +kernel) rfl ks_200 ?_
    by_cases c2 : (200 : Int32) ≤ x3
    · rw [if_pos c2] at h
      refine fs_icmp_ge_t (off := 92) (t := 129) (by decide +kernel) (by decide +kernel) c2 ?_
      refine fs_iconst (n := -1) (p := 130) (by decide +kernel) rfl kc_m1 ?_
      have h := Option.some.inj h
      subst h
      exact fs_iret (by decide +kernel) rt_4
    · rw [if_neg c2] at h
      refine fs_icmp_ge_f (off := 92) (t := 129) (p := 40) (by decide +kernel) (by decide +kernel) rfl c2 ?_
      refine fs_iload_n (k := 2) (p := 41) (by decide +kernel) rfl rfl ?_
      by_cases c4 : x2 = 0
      · rw [if_pos c4] at h
        refine fs_if_eq_t (off := 88) (t := 129) (by decide +kernel) (by decide +kernel) c4 ?_
        refine fs_iconst (n := -1) (p := 130) (by decide +kernel) rfl kc_m1 ?_
        have h := Option.some.inj h
        subst h
        exact fs_iret (by decide +kernel) rt_4
      · rw [if_neg c4] at h
        refine fs_if_eq_f (off := 88) (t := 129) (p := 44) (by decide +kernel) (by decide +kernel) rfl c4 ?_
        refine fs_aload_n (k := 0) (p := 45) (by decide +kernel) rfl rfl ?_
        refine fs_aload_n (k := 1) (p := 46) (by decide +kernel) rfl rfl ?_
        obtain ⟨q6, w5, h⟩ := fx_bd h
        refine fs_callV (idx := 33) (mj := 5) (ci := 0) (na := 1) (mx := 4) (p := 49) (args := [.ref 60, .ref 14]) (rest := []) (al2 := [some (.ref 60), some (.ref 14), none, none]) (by decide +kernel) rfl (by decide +kernel) fo_60 rfl rfl rfl rfl rfl rfl rfl (by omega) (fun d' hd' => fe_5 (by omega) w5) rfl ?_
        refine fs_istore (k := 4) (p := 51) (M := 6) (al' := [some (.ref 60), some (.ref 14), some (.int x2), some (.int x3), some (.int q6.1), o5]) (by decide +kernel) rfl mx_4 rfl rfl ?_
        refine fs_iload (k := 4) (p := 53) (by decide +kernel) rfl rfl ?_
        by_cases c8 : q6.1 = 0
        · rw [if_pos c8] at h
          refine fs_if_eq_t (off := 14) (t := 67) (by decide +kernel) (by decide +kernel) c8 ?_
          refine fs_aload_n (k := 1) (p := 68) (by decide +kernel) rfl rfl ?_
          refine fs_aload_n (k := 0) (p := 69) (by decide +kernel) rfl rfl ?_
          refine fs_gfi (idx := 25) (ci := 0) (j := 2) (p := 72) (by decide +kernel) rfl (by decide +kernel) fo_60 ?_
          obtain ⟨q10, w9, h⟩ := fx_bd h
          refine fs_callV (idx := 37) (mj := 83) (ci := 8) (na := 1) (mx := 2) (p := 75) (args := [.ref 14, .int (q6.2.1 60 2)]) (rest := []) (al2 := [some (.ref 14), some (.int (q6.2.1 60 2))]) (by decide +kernel) rfl (by decide +kernel) fo_14 rfl rfl rfl rfl rfl rfl rfl (by omega) (fun d' hd' => fe_83 (by omega) w9) rfl ?_
          refine fs_istore (k := 5) (p := 77) (M := 6) (al' := [some (.ref 60), some (.ref 14), some (.int x2), some (.int x3), some (.int q6.1), some (.int q10.1)]) (by decide +kernel) rfl mx_4 rfl rfl ?_
          refine fs_iload (k := 5) (p := 79) (by decide +kernel) rfl rfl ?_
          refine fs_bipush (n := 44) (p := 81) (by decide +kernel) rfl kb_44 ?_
          by_cases c12 : q10.1 = (44 : Int32)
          · rw [if_pos c12] at h
            refine fs_icmp_eq_t (off := 19) (t := 100) (by decide +kernel) (by decide +kernel) c12 ?_
            exact fe_4_100 hd ih _ _ _ _ _ _ h
          · rw [if_neg c12] at h
            refine fs_icmp_eq_f (off := 19) (t := 100) (p := 84) (by decide +kernel) (by decide +kernel) rfl c12 ?_
            refine fs_iload (k := 5) (p := 86) (by decide +kernel) rfl rfl ?_
            refine fs_iconst (n := -1) (p := 87) (by decide +kernel) rfl kc_m1 ?_
            by_cases c13 : q10.1 = (-1 : Int32)
            · rw [if_pos c13] at h
              refine fs_icmp_eq_t (off := 13) (t := 100) (by decide +kernel) (by decide +kernel) c13 ?_
              exact fe_4_100 hd ih _ _ _ _ _ _ h
            · rw [if_neg c13] at h
              refine fs_icmp_eq_f (off := 13) (t := 100) (p := 90) (by decide +kernel) (by decide +kernel) rfl c13 ?_
              refine fs_bipush (n := 8) (p := 92) (by decide +kernel) rfl kb_8 ?_
              refine fs_aload_n (k := 0) (p := 93) (by decide +kernel) rfl rfl ?_
              refine fs_gfi (idx := 25) (ci := 0) (j := 2) (p := 96) (by decide +kernel) rfl (by decide +kernel) fo_60 ?_
              refine fs_imul (p := 97) (by decide +kernel) rfl ?_
              refine fs_iconst (n := 1) (p := 98) (by decide +kernel) rfl kc_1 ?_
              refine fs_iadd (p := 99) (by decide +kernel) rfl ?_
              have h := Option.some.inj h
              subst h
              exact fs_iret (by decide +kernel) rt_4
        · rw [if_neg c8] at h
          refine fs_if_eq_f (off := 14) (t := 67) (p := 56) (by decide +kernel) (by decide +kernel) rfl c8 ?_
          refine fs_bipush (n := 8) (p := 58) (by decide +kernel) rfl kb_8 ?_
          refine fs_aload_n (k := 0) (p := 59) (by decide +kernel) rfl rfl ?_
          refine fs_gfi (idx := 25) (ci := 0) (j := 2) (p := 62) (by decide +kernel) rfl (by decide +kernel) fo_60 ?_
          refine fs_imul (p := 63) (by decide +kernel) rfl ?_
          refine fs_iload (k := 4) (p := 65) (by decide +kernel) rfl rfl ?_
          refine fs_iadd (p := 66) (by decide +kernel) rfl ?_
          have h := Option.some.inj h
          subst h
          exact fs_iret (by decide +kernel) rt_4
def fm_4_30 (s0 : Int32) (σ : fx_S) : Option (Int32 × fx_S) :=
  fm_4_33 100000 s0 (0 : Int32) σ
theorem fe_4_30 {d : Nat} (hd : 3 ≤ d) (s0 : Int32) (σ : fx_S) (q : Int32 × fx_S) (h : fm_4_30  s0 σ = some q) : fx_E none 4 d 30 [some (.ref 60), some (.ref 14), none, none, none, none] [.int s0] σ (some (.int q.1)) q.2 := by
  unfold fm_4_30 at h
  refine fs_istore_n (k := 2) (p := 31) (M := 6) (al' := [some (.ref 60), some (.ref 14), some (.int s0), none, none, none]) (by decide +kernel) rfl mx_4 rfl rfl ?_
  refine fs_iconst (n := 0) (p := 32) (by decide +kernel) rfl kc_0 ?_
  refine fs_istore_n (k := 3) (p := 33) (M := 6) (al' := [some (.ref 60), some (.ref 14), some (.int s0), some (.int (0 : Int32)), none, none]) (by decide +kernel) rfl mx_4 rfl rfl ?_
  exact fe_4_33 hd 100000 _ _ _ _ _ _ h
def fm_4 (σ : fx_S) : Option (Int32 × fx_S) :=
  (fm_235 61 (0 : Int32) σ).bind fun q34 =>
  if ((fx_w1 (fx_w1 q34 60 1 (0 : Int32)) 60 2 (0 : Int32)).1 14 1) ≤ 0 then (
    fm_4_30 (0 : Int32) (fx_w1 (fx_w1 q34 60 1 (0 : Int32)) 60 2 (0 : Int32))) else (
    fm_4_30 (1 : Int32) (fx_w1 (fx_w1 q34 60 1 (0 : Int32)) 60 2 (0 : Int32)))
theorem fe_4 {d : Nat} (hd : 3 ≤ d) {σ : fx_S} {q : Int32 × fx_S} (h : fm_4 σ = some q) : fx_E none 4 d 0 [some (.ref 60), some (.ref 14), none, none, none, none] [] σ (some (.int q.1)) q.2 := by
  unfold fm_4 at h
  refine fs_aload_n (k := 0) (p := 1) (by decide +kernel) rfl rfl ?_
  refine fs_gfr (idx := 9) (ci := 0) (j := 0) (p := 4) (by decide +kernel) rfl (by decide +kernel) fo_60 (fr_a60_0) ?_
  refine fs_iconst (n := 0) (p := 5) (by decide +kernel) rfl kc_0 ?_
  obtain ⟨q34, w33, h⟩ := fx_bd h
  refine fs_callS (idx := 15) (mj := 235) (na := 2) (mx := 4) (p := 8) (args := [.ref 61, .int (0 : Int32)]) (rest := []) (al2 := [some (.ref 61), some (.int (0 : Int32)), none, none]) (by decide +kernel) rfl (by decide +kernel) rfl rfl rfl rfl rfl rfl rfl (by omega) (fun d' hd' => fe_235 (by omega) w33) rfl ?_
  refine fs_aload_n (k := 0) (p := 9) (by decide +kernel) rfl rfl ?_
  refine fs_iconst (n := 0) (p := 10) (by decide +kernel) rfl kc_0 ?_
  refine fs_pfi (idx := 21) (ci := 0) (j := 1) (p := 13) (by decide +kernel) rfl (by decide +kernel) (by decide +kernel) fo_60 (fx_oki _ (by decide +kernel)) ?_
  refine fs_aload_n (k := 0) (p := 14) (by decide +kernel) rfl rfl ?_
  refine fs_iconst (n := 0) (p := 15) (by decide +kernel) rfl kc_0 ?_
  refine fs_pfi (idx := 25) (ci := 0) (j := 2) (p := 18) (by decide +kernel) rfl (by decide +kernel) (by decide +kernel) fo_60 (fx_oki _ (by decide +kernel)) ?_
  refine fs_aload_n (k := 1) (p := 19) (by decide +kernel) rfl rfl ?_
  refine fs_gfi (idx := 28) (ci := 8) (j := 1) (p := 22) (by decide +kernel) rfl (by decide +kernel) fo_14 ?_
  by_cases c36 : ((fx_w1 (fx_w1 q34 60 1 (0 : Int32)) 60 2 (0 : Int32)).1 14 1) ≤ 0
  · rw [if_pos c36] at h
    refine fs_if_le_t (off := 7) (t := 29) (by decide +kernel) (by decide +kernel) c36 ?_
    refine fs_iconst (n := 0) (p := 30) (by decide +kernel) rfl kc_0 ?_
    exact fe_4_30 hd _ _ _ h
  · rw [if_neg c36] at h
    refine fs_if_le_f (off := 7) (t := 29) (p := 25) (by decide +kernel) (by decide +kernel) rfl c36 ?_
    refine fs_iconst (n := 1) (p := 26) (by decide +kernel) rfl kc_1 ?_
    refine fs_goto (off := 4) (p := 30) (by decide +kernel) (by decide +kernel) ?_
    exact fe_4_30 hd _ _ _ h

/-! ZoneShares$Group.makeLives()V -/
theorem mx_20 : iv_mx 20 = 1 := by decide +kernel
theorem rt_20 : iv_rt 20 = none := by decide +kernel
def fm_20 (x0 : Nat) (σ : fx_S) : Option (fx_S) :=
  if fx_oc x0 2 = true then (
  (fm_21 x0 (1 : Int32) σ).bind fun q7 =>
  if (fx_b q7.1) = 0 then (
    some q7.2) else (
    (fm_22 x0 q7.2).bind fun q10 =>
    some q10)) else none
theorem fe_20 {d : Nat} (hd : 4 ≤ d) {x0 : Nat} {σ : fx_S} {q : fx_S} (h : fm_20 x0 σ = some q) : fx_E none 20 d 0 [some (.ref x0)] [] σ none q := by
  unfold fm_20 at h
  obtain ⟨g0, h⟩ := fx_gd h
  refine fs_aload_n (k := 0) (p := 1) (by decide +kernel) rfl rfl ?_
  refine fs_iconst (n := 1) (p := 2) (by decide +kernel) rfl kc_1 ?_
  obtain ⟨q7, w6, h⟩ := fx_bd h
  refine fs_callV (idx := 52) (mj := 21) (ci := 2) (na := 1) (mx := 3) (p := 5) (args := [.ref x0, .int (1 : Int32)]) (rest := []) (al2 := [some (.ref x0), some (.int (1 : Int32)), none]) (by decide +kernel) rfl (by decide +kernel) g0 rfl rfl rfl rfl rfl rfl rfl (by omega) (fun d' hd' => fe_21 (by omega) w6) rfl ?_
  by_cases c8 : (fx_b q7.1) = 0
  · rw [if_pos c8] at h
    refine fs_if_eq_t (off := 7) (t := 12) (by decide +kernel) (by decide +kernel) c8 ?_
    have h := Option.some.inj h
    subst h
    exact fs_ret (by decide +kernel) rt_20
  · rw [if_neg c8] at h
    refine fs_if_eq_f (off := 7) (t := 12) (p := 8) (by decide +kernel) (by decide +kernel) rfl c8 ?_
    refine fs_aload_n (k := 0) (p := 9) (by decide +kernel) rfl rfl ?_
    obtain ⟨q10, w9, h⟩ := fx_bd h
    refine fs_callV (idx := 82) (mj := 22) (ci := 2) (na := 0) (mx := 5) (p := 12) (args := [.ref x0]) (rest := []) (al2 := [some (.ref x0), none, none, none, none]) (by decide +kernel) rfl (by decide +kernel) g0 rfl rfl rfl rfl rfl rfl rfl (by omega) (fun d' hd' => fe_22 (by omega) w9) rfl ?_
    have h := Option.some.inj h
    subst h
    exact fs_ret (by decide +kernel) rt_20

/-! ZoneShares$Rounder.round(LZoneShares$Table;Z)V -/
theorem mx_41 : iv_mx 41 = 4 := by decide +kernel
theorem rt_41 : iv_rt 41 = none := by decide +kernel
def fm_41_84 (k_63 : Nat → Int32 → fx_S → Option (fx_S)) (x1 : Nat) (x3 : Int32) (σ : fx_S) : Option (fx_S) :=
  (fx_ld σ (x1 + 6) x3).bind fun v1 =>
  (fx_ld σ 8 x3).bind fun v4 =>
  (fx_st σ (x1 + 8) x3 (v1 + v4)).bind fun t6 =>
  k_63 x1 (x3 + (1 : Int32)) t6
theorem fe_41_84 {d : Nat} (hd : 4 ≤ d) {k_63 : Nat → Int32 → fx_S → Option (fx_S)} (hk_63 : ∀ (x1 : Nat) (x3 : Int32) (o2 : Option Value) (σ : fx_S) (q : fx_S) (g1 : fx_oc x1 7 = true), k_63 x1 x3 σ = some q → fx_E none 41 d 63 [some (.ref 6), some (.ref x1), o2, some (.int x3)] [] σ none q) (x1 : Nat) (x3 : Int32) (o2 : Option Value) (σ : fx_S) (q : fx_S) (g1 : fx_oc x1 7 = true) (h : fm_41_84 k_63  x1 x3 σ = some q) : fx_E none 41 d 84 [some (.ref 6), some (.ref x1), o2, some (.int x3)] [] σ none q := by
  unfold fm_41_84 at h
  refine fs_aload_n (k := 1) (p := 85) (by decide +kernel) rfl rfl ?_
  refine fs_gfr (idx := 60) (ci := 7) (j := 7) (p := 88) (by decide +kernel) rfl (by decide +kernel) g1 (fr_7_7 g1) ?_
  refine fs_iload_n (k := 3) (p := 89) (by decide +kernel) rfl rfl ?_
  refine fs_aload_n (k := 1) (p := 90) (by decide +kernel) rfl rfl ?_
  refine fs_gfr (idx := 63) (ci := 7) (j := 5) (p := 93) (by decide +kernel) rfl (by decide +kernel) g1 (fr_7_5 g1) ?_
  refine fs_iload_n (k := 3) (p := 94) (by decide +kernel) rfl rfl ?_
  obtain ⟨v1, w2, h⟩ := fx_bd h
  refine fs_iaload (p := 95) (by decide +kernel) rfl w2 ?_
  refine fs_aload_n (k := 0) (p := 96) (by decide +kernel) rfl rfl ?_
  refine fs_gfr (idx := 15) (ci := 5) (j := 1) (p := 99) (by decide +kernel) rfl (by decide +kernel) fo_6 (fr_a6_1) ?_
  refine fs_iload_n (k := 3) (p := 100) (by decide +kernel) rfl rfl ?_
  obtain ⟨v4, w5, h⟩ := fx_bd h
  refine fs_iaload (p := 101) (by decide +kernel) rfl w5 ?_
  refine fs_iadd (p := 102) (by decide +kernel) rfl ?_
  obtain ⟨t6, w7, h⟩ := fx_bd h
  refine fs_iastore (p := 103) (by decide +kernel) rfl w7 ?_
  refine fs_iinc (k := 3) (n := 1) (p := 106) (M := 4) (al' := [some (.ref 6), some (.ref x1), (fx_kl o2), some (.int (x3 + (1 : Int32)))]) (by decide +kernel) rfl kc_1 mx_41 rfl rfl rfl ?_
  refine fs_goto (off := -43) (p := 63) (by decide +kernel) (by decide +kernel) ?_
  exact hk_63 _ _ _ _ _ g1 h
def fm_41_63 : Nat → Nat → Int32 → fx_S → Option (fx_S)
  | 0, _, _, _ => none
  | n + 1, x1, x3, σ =>
    if (72 : Int32) ≤ x3 then (
      some σ) else (
      (fx_ld σ 7 x3).bind fun v3 =>
      if ¬ v3 = (1 : Int32) then (
        fm_41_84 (fm_41_63 n) x1 x3 σ) else (
        (fm_45 x3 σ).bind fun q9 =>
        fm_41_84 (fm_41_63 n) x1 x3 q9))
theorem fe_41_63 {d : Nat} (hd : 4 ≤ d) : ∀ (n : Nat) (x1 : Nat) (x3 : Int32) (o2 : Option Value) (σ : fx_S) (q : fx_S) (g1 : fx_oc x1 7 = true), fm_41_63 n x1 x3 σ = some q → fx_E none 41 d 63 [some (.ref 6), some (.ref x1), o2, some (.int x3)] [] σ none q := by
  intro n
  induction n with
  | zero =>
    intro x1 x3 o2 σ q g1 h
    rw [fm_41_63] at h
    exact fx_no h
  | succ n ih =>
    intro x1 x3 o2 σ q g1 h
    rw [fm_41_63] at h
    refine fs_iload_n (k := 3) (p := 64) (by decide +kernel) rfl rfl ?_
    refine fs_bipush (n := 72) (p := 66) (by decide +kernel) rfl kb_72 ?_
    by_cases c2 : (72 : Int32) ≤ x3
    · rw [if_pos c2] at h
      refine fs_icmp_ge_t (off := 43) (t := 109) (by decide +kernel) (by decide +kernel) c2 ?_
      have h := Option.some.inj h
      subst h
      exact fs_ret (by decide +kernel) rt_41
    · rw [if_neg c2] at h
      refine fs_icmp_ge_f (off := 43) (t := 109) (p := 69) (by decide +kernel) (by decide +kernel) rfl c2 ?_
      refine fs_aload_n (k := 0) (p := 70) (by decide +kernel) rfl rfl ?_
      refine fs_gfr (idx := 11) (ci := 5) (j := 0) (p := 73) (by decide +kernel) rfl (by decide +kernel) fo_6 (fr_a6_0) ?_
      refine fs_iload_n (k := 3) (p := 74) (by decide +kernel) rfl rfl ?_
      obtain ⟨v3, w4, h⟩ := fx_bd h
      refine fs_iaload (p := 75) (by decide +kernel) rfl w4 ?_
      refine fs_iconst (n := 1) (p := 76) (by decide +kernel) rfl kc_1 ?_
      by_cases c7 : ¬ v3 = (1 : Int32)
      · rw [if_pos c7] at h
        refine fs_icmp_ne_t (off := 8) (t := 84) (by decide +kernel) (by decide +kernel) c7 ?_
        exact fe_41_84 hd ih _ _ _ _ _ g1 h
      · rw [if_neg c7] at h
        refine fs_icmp_ne_f (off := 8) (t := 84) (p := 79) (by decide +kernel) (by decide +kernel) rfl c7 ?_
        refine fs_aload_n (k := 0) (p := 80) (by decide +kernel) rfl rfl ?_
        refine fs_iload_n (k := 3) (p := 81) (by decide +kernel) rfl rfl ?_
        obtain ⟨q9, w8, h⟩ := fx_bd h
        refine fs_callV (idx := 57) (mj := 45) (ci := 5) (na := 1) (mx := 4) (p := 84) (args := [.ref 6, .int x3]) (rest := []) (al2 := [some (.ref 6), some (.int x3), none, none]) (by decide +kernel) rfl (by decide +kernel) fo_6 rfl rfl rfl rfl rfl rfl rfl (by omega) (fun d' hd' => fe_45 (by omega) w8) rfl ?_
        exact fe_41_84 hd ih _ _ _ _ _ g1 h
def fm_41_44 : Nat → Nat → Int32 → fx_S → Option (fx_S)
  | 0, _, _, _ => none
  | n + 1, x1, x3, σ =>
    if (9 : Int32) ≤ x3 then (
      fm_41_63 100000 x1 (0 : Int32) σ) else (
      (fm_44 x3 σ).bind fun q4 =>
      fm_41_44 n x1 (x3 + (1 : Int32)) q4)
theorem fe_41_44 {d : Nat} (hd : 4 ≤ d) : ∀ (n : Nat) (x1 : Nat) (x3 : Int32) (o2 : Option Value) (σ : fx_S) (q : fx_S) (g1 : fx_oc x1 7 = true), fm_41_44 n x1 x3 σ = some q → fx_E none 41 d 44 [some (.ref 6), some (.ref x1), o2, some (.int x3)] [] σ none q := by
  intro n
  induction n with
  | zero =>
    intro x1 x3 o2 σ q g1 h
    rw [fm_41_44] at h
    exact fx_no h
  | succ n ih =>
    intro x1 x3 o2 σ q g1 h
    rw [fm_41_44] at h
    refine fs_iload_n (k := 3) (p := 45) (by decide +kernel) rfl rfl ?_
    refine fs_bipush (n := 9) (p := 47) (by decide +kernel) rfl kb_9 ?_
    by_cases c2 : (9 : Int32) ≤ x3
    · rw [if_pos c2] at h
      refine fs_icmp_ge_t (off := 14) (t := 61) (by decide +kernel) (by decide +kernel) c2 ?_
      refine fs_iconst (n := 0) (p := 62) (by decide +kernel) rfl kc_0 ?_
      refine fs_istore_n (k := 3) (p := 63) (M := 4) (al' := [some (.ref 6), some (.ref x1), (fx_kl o2), some (.int (0 : Int32))]) (by decide +kernel) rfl mx_41 rfl rfl ?_
      exact fe_41_63 hd 100000 _ _ _ _ _ g1 h
    · rw [if_neg c2] at h
      refine fs_icmp_ge_f (off := 14) (t := 61) (p := 50) (by decide +kernel) (by decide +kernel) rfl c2 ?_
      refine fs_aload_n (k := 0) (p := 51) (by decide +kernel) rfl rfl ?_
      refine fs_iload_n (k := 3) (p := 52) (by decide +kernel) rfl rfl ?_
      obtain ⟨q4, w3, h⟩ := fx_bd h
      refine fs_callV (idx := 53) (mj := 44) (ci := 5) (na := 1) (mx := 3) (p := 55) (args := [.ref 6, .int x3]) (rest := []) (al2 := [some (.ref 6), some (.int x3), none]) (by decide +kernel) rfl (by decide +kernel) fo_6 rfl rfl rfl rfl rfl rfl rfl (by omega) (fun d' hd' => fe_44 (by omega) w3) rfl ?_
      refine fs_iinc (k := 3) (n := 1) (p := 58) (M := 4) (al' := [some (.ref 6), some (.ref x1), (fx_kl o2), some (.int (x3 + (1 : Int32)))]) (by decide +kernel) rfl kc_1 mx_41 rfl rfl rfl ?_
      refine fs_goto (off := -14) (p := 44) (by decide +kernel) (by decide +kernel) ?_
      exact ih _ _ _ _ _ g1 h
def fm_41_20 : Nat → Nat → Int32 → fx_S → Option (fx_S)
  | 0, _, _, _ => none
  | n + 1, x1, x3, σ =>
    if (8 : Int32) ≤ x3 then (
      fm_41_44 100000 x1 (0 : Int32) σ) else (
      (fm_73 x1 x3 σ).bind fun q4 =>
      (fm_43 x3 q4.1 q4.2).bind fun q6 =>
      fm_41_20 n x1 (x3 + (1 : Int32)) q6)
theorem fe_41_20 {d : Nat} (hd : 4 ≤ d) : ∀ (n : Nat) (x1 : Nat) (x3 : Int32) (o2 : Option Value) (σ : fx_S) (q : fx_S) (g1 : fx_oc x1 7 = true), fm_41_20 n x1 x3 σ = some q → fx_E none 41 d 20 [some (.ref 6), some (.ref x1), o2, some (.int x3)] [] σ none q := by
  intro n
  induction n with
  | zero =>
    intro x1 x3 o2 σ q g1 h
    rw [fm_41_20] at h
    exact fx_no h
  | succ n ih =>
    intro x1 x3 o2 σ q g1 h
    rw [fm_41_20] at h
    refine fs_iload_n (k := 3) (p := 21) (by decide +kernel) rfl rfl ?_
    refine fs_bipush (n := 8) (p := 23) (by decide +kernel) rfl kb_8 ?_
    by_cases c2 : (8 : Int32) ≤ x3
    · rw [if_pos c2] at h
      refine fs_icmp_ge_t (off := 19) (t := 42) (by decide +kernel) (by decide +kernel) c2 ?_
      refine fs_iconst (n := 0) (p := 43) (by decide +kernel) rfl kc_0 ?_
      refine fs_istore_n (k := 3) (p := 44) (M := 4) (al' := [some (.ref 6), some (.ref x1), (fx_kl o2), some (.int (0 : Int32))]) (by decide +kernel) rfl mx_41 rfl rfl ?_
      exact fe_41_44 hd 100000 _ _ _ _ _ g1 h
    · rw [if_neg c2] at h
      refine fs_icmp_ge_f (off := 19) (t := 42) (p := 26) (by decide +kernel) (by decide +kernel) rfl c2 ?_
      refine fs_aload_n (k := 0) (p := 27) (by decide +kernel) rfl rfl ?_
      refine fs_iload_n (k := 3) (p := 28) (by decide +kernel) rfl rfl ?_
      refine fs_aload_n (k := 1) (p := 29) (by decide +kernel) rfl rfl ?_
      refine fs_iload_n (k := 3) (p := 30) (by decide +kernel) rfl rfl ?_
      obtain ⟨q4, w3, h⟩ := fx_bd h
      refine fs_callV (idx := 45) (mj := 73) (ci := 7) (na := 1) (mx := 2) (p := 33) (args := [.ref x1, .int x3]) (rest := [.int x3, .ref 6]) (al2 := [some (.ref x1), some (.int x3)]) (by decide +kernel) rfl (by decide +kernel) g1 rfl rfl rfl rfl rfl rfl rfl (by omega) (fun d' hd' => fe_73 (by omega) w3) rfl ?_
      obtain ⟨q6, w5, h⟩ := fx_bd h
      refine fs_callV (idx := 49) (mj := 43) (ci := 5) (na := 2) (mx := 4) (p := 36) (args := [.ref 6, .int x3, .int q4.1]) (rest := []) (al2 := [some (.ref 6), some (.int x3), some (.int q4.1), none]) (by decide +kernel) rfl (by decide +kernel) fo_6 rfl rfl rfl rfl rfl rfl rfl (by omega) (fun d' hd' => fe_43 (by omega) w5) rfl ?_
      refine fs_iinc (k := 3) (n := 1) (p := 39) (M := 4) (al' := [some (.ref 6), some (.ref x1), (fx_kl o2), some (.int (x3 + (1 : Int32)))]) (by decide +kernel) rfl kc_1 mx_41 rfl rfl rfl ?_
      refine fs_goto (off := -19) (p := 20) (by decide +kernel) (by decide +kernel) ?_
      exact ih _ _ _ _ _ g1 h
def fm_41 (x1 : Nat) (x2 : Int32) (σ : fx_S) : Option (fx_S) :=
  if fx_oc x1 7 = true then (
  (fm_70 x1 σ).bind fun q36 =>
  if ¬ x2 = 0 then (
    (fm_42 x1 q36).bind fun q40 =>
    fm_41_20 100000 x1 (0 : Int32) q40) else (
    (fm_74 x1 q36).bind fun q42 =>
    some q42)) else none
theorem fe_41 {d : Nat} (hd : 4 ≤ d) {x1 : Nat} {x2 : Int32} {σ : fx_S} {q : fx_S} (h : fm_41 x1 x2 σ = some q) : fx_E none 41 d 0 [some (.ref 6), some (.ref x1), some (.int x2), none] [] σ none q := by
  unfold fm_41 at h
  obtain ⟨g1, h⟩ := fx_gd h
  refine fs_aload_n (k := 1) (p := 1) (by decide +kernel) rfl rfl ?_
  obtain ⟨q36, w35, h⟩ := fx_bd h
  refine fs_callV (idx := 33) (mj := 70) (ci := 7) (na := 0) (mx := 3) (p := 4) (args := [.ref x1]) (rest := []) (al2 := [some (.ref x1), none, none]) (by decide +kernel) rfl (by decide +kernel) g1 rfl rfl rfl rfl rfl rfl rfl (by omega) (fun d' hd' => fe_70 (by omega) w35) rfl ?_
  refine fs_iload_n (k := 2) (p := 5) (by decide +kernel) rfl rfl ?_
  by_cases c38 : ¬ x2 = 0
  · rw [if_pos c38] at h
    refine fs_if_ne_t (off := 8) (t := 13) (by decide +kernel) (by decide +kernel) c38 ?_
    refine fs_aload_n (k := 0) (p := 14) (by decide +kernel) rfl rfl ?_
    refine fs_aload_n (k := 1) (p := 15) (by decide +kernel) rfl rfl ?_
    obtain ⟨q40, w39, h⟩ := fx_bd h
    refine fs_callV (idx := 41) (mj := 42) (ci := 5) (na := 1) (mx := 7) (p := 18) (args := [.ref 6, .ref x1]) (rest := []) (al2 := [some (.ref 6), some (.ref x1), none, none, none, none, none]) (by decide +kernel) rfl (by decide +kernel) fo_6 rfl rfl rfl rfl rfl rfl rfl (by omega) (fun d' hd' => fe_42 (by omega) w39) rfl ?_
    refine fs_iconst (n := 0) (p := 19) (by decide +kernel) rfl kc_0 ?_
    refine fs_istore_n (k := 3) (p := 20) (M := 4) (al' := [some (.ref 6), some (.ref x1), some (.int x2), some (.int (0 : Int32))]) (by decide +kernel) rfl mx_41 rfl rfl ?_
    exact fe_41_20 hd 100000 _ _ _ _ _ g1 h
  · rw [if_neg c38] at h
    refine fs_if_ne_f (off := 8) (t := 13) (p := 8) (by decide +kernel) (by decide +kernel) rfl c38 ?_
    refine fs_aload_n (k := 1) (p := 9) (by decide +kernel) rfl rfl ?_
    obtain ⟨q42, w41, h⟩ := fx_bd h
    refine fs_callV (idx := 38) (mj := 74) (ci := 7) (na := 0) (mx := 4) (p := 12) (args := [.ref x1]) (rest := []) (al2 := [some (.ref x1), none, none, none]) (by decide +kernel) rfl (by decide +kernel) g1 rfl rfl rfl rfl rfl rfl rfl (by omega) (fun d' hd' => fe_74 (by omega) w41) rfl ?_
    have h := Option.some.inj h
    subst h
    exact fs_ret (by decide +kernel) rt_41

/-! ZoneShares.counts(I)I -/
theorem mx_88 : iv_mx 88 = 3 := by decide +kernel
theorem rt_88 : iv_rt 88 = some .int := by decide +kernel
def fm_88 (x1 : Int32) (σ : fx_S) : Option (Int32 × fx_S) :=
  (fm_114 x1 σ).bind fun q16 =>
  if ¬ (fx_b q16.1) = 0 then (
    (fm_4 q16.2).bind fun q19 =>
    if q19.1 = (-1 : Int32) then (
      (fm_119 (fx_w1 q19.2 14 1 (0 : Int32))).bind fun q23 =>
      (fx_cpy q23 61 (0 : Int32) 3 (x1 * (9 : Int32)) (9 : Int32)).bind fun t24 =>
      (fm_66 1 x1 t24).bind fun q28 =>
      some (q28.1, q28.2)) else (
      some (((-2 : Int32) - q19.1), (fx_w1 q19.2 14 1 (0 : Int32))))) else (
    some ((-1 : Int32), q16.2))
theorem fe_88 {d : Nat} (hd : 4 ≤ d) {x1 : Int32} {σ : fx_S} {q : Int32 × fx_S} (h : fm_88 x1 σ = some q) : fx_E none 88 d 0 [some (.ref 0), some (.int x1), none] [] σ (some (.int q.1)) q.2 := by
  unfold fm_88 at h
  refine fs_iload_n (k := 1) (p := 1) (by decide +kernel) rfl rfl ?_
  obtain ⟨q16, w15, h⟩ := fx_bd h
  refine fs_callS (idx := 94) (mj := 114) (na := 1) (mx := 1) (p := 4) (args := [.int x1]) (rest := []) (al2 := [some (.int x1)]) (by decide +kernel) rfl (by decide +kernel) rfl rfl rfl rfl rfl rfl rfl (by omega) (fun d' hd' => fe_114 (by omega) w15) rfl ?_
  by_cases c17 : ¬ (fx_b q16.1) = 0
  · rw [if_pos c17] at h
    refine fs_if_ne_t (off := 5) (t := 9) (by decide +kernel) (by decide +kernel) c17 ?_
    refine fs_aload_n (k := 0) (p := 10) (by decide +kernel) rfl rfl ?_
    refine fs_gfr (idx := 43) (ci := 9) (j := 4) (p := 13) (by decide +kernel) rfl (by decide +kernel) fo_0 (fr_a0_4) ?_
    refine fs_aload_n (k := 0) (p := 14) (by decide +kernel) rfl rfl ?_
    refine fs_gfr (idx := 22) (ci := 9) (j := 0) (p := 17) (by decide +kernel) rfl (by decide +kernel) fo_0 (fr_a0_0) ?_
    obtain ⟨q19, w18, h⟩ := fx_bd h
    refine fs_callV (idx := 97) (mj := 4) (ci := 0) (na := 1) (mx := 6) (p := 20) (args := [.ref 60, .ref 14]) (rest := []) (al2 := [some (.ref 60), some (.ref 14), none, none, none, none]) (by decide +kernel) rfl (by decide +kernel) fo_60 rfl rfl rfl rfl rfl rfl rfl (by omega) (fun d' hd' => fe_4 (by omega) w18) rfl ?_
    refine fs_istore_n (k := 2) (p := 21) (M := 3) (al' := [some (.ref 0), some (.int x1), some (.int q19.1)]) (by decide +kernel) rfl mx_88 rfl rfl ?_
    refine fs_aload_n (k := 0) (p := 22) (by decide +kernel) rfl rfl ?_
    refine fs_gfr (idx := 22) (ci := 9) (j := 0) (p := 25) (by decide +kernel) rfl (by decide +kernel) fo_0 (fr_a0_0) ?_
    refine fs_iconst (n := 0) (p := 26) (by decide +kernel) rfl kc_0 ?_
    refine fs_pfi (idx := 67) (ci := 8) (j := 1) (p := 29) (by decide +kernel) rfl (by decide +kernel) (by decide +kernel) fo_14 (fx_oki _ (by decide +kernel)) ?_
    refine fs_iload_n (k := 2) (p := 30) (by decide +kernel) rfl rfl ?_
    refine fs_iconst (n := -1) (p := 31) (by decide +kernel) rfl kc_m1 ?_
    by_cases c21 : q19.1 = (-1 : Int32)
    · rw [if_pos c21] at h
      refine fs_icmp_eq_t (off := 8) (t := 39) (by decide +kernel) (by decide +kernel) c21 ?_
      refine fs_aload_n (k := 0) (p := 40) (by decide +kernel) rfl rfl ?_
      obtain ⟨q23, w22, h⟩ := fx_bd h
      refine fs_callV (idx := 83) (mj := 119) (ci := 9) (na := 0) (mx := 1) (p := 43) (args := [.ref 0]) (rest := []) (al2 := [some (.ref 0)]) (by decide +kernel) rfl (by decide +kernel) fo_0 rfl rfl rfl rfl rfl rfl rfl (by omega) (fun d' hd' => fe_119 (by omega) w22) rfl ?_
      refine fs_aload_n (k := 0) (p := 44) (by decide +kernel) rfl rfl ?_
      refine fs_gfr (idx := 43) (ci := 9) (j := 4) (p := 47) (by decide +kernel) rfl (by decide +kernel) fo_0 (fr_a0_4) ?_
      refine fs_gfr (idx := 100) (ci := 0) (j := 0) (p := 50) (by decide +kernel) rfl (by decide +kernel) fo_60 (fr_a60_0) ?_
      refine fs_iconst (n := 0) (p := 51) (by decide +kernel) rfl kc_0 ?_
      refine fs_aload_n (k := 0) (p := 52) (by decide +kernel) rfl rfl ?_
      refine fs_gfr (idx := 13) (ci := 9) (j := 1) (p := 55) (by decide +kernel) rfl (by decide +kernel) fo_0 (fr_a0_1) ?_
      refine fs_gfr (idx := 103) (ci := 6) (j := 1) (p := 58) (by decide +kernel) rfl (by decide +kernel) fo_1 (fr_a1_1) ?_
      refine fs_iload_n (k := 1) (p := 59) (by decide +kernel) rfl rfl ?_
      refine fs_bipush (n := 9) (p := 61) (by decide +kernel) rfl kb_9 ?_
      refine fs_imul (p := 62) (by decide +kernel) rfl ?_
      refine fs_bipush (n := 9) (p := 64) (by decide +kernel) rfl kb_9 ?_
      obtain ⟨t24, w25, h⟩ := fx_bd h
      refine fs_cpy (idx := 106) (p := 67) (by decide +kernel) rfl (by decide +kernel) rfl w25 ?_
      refine fs_aload_n (k := 0) (p := 68) (by decide +kernel) rfl rfl ?_
      refine fs_gfr (idx := 13) (ci := 9) (j := 1) (p := 71) (by decide +kernel) rfl (by decide +kernel) fo_0 (fr_a0_1) ?_
      refine fs_iload_n (k := 1) (p := 72) (by decide +kernel) rfl rfl ?_
      obtain ⟨q28, w27, h⟩ := fx_bd h
      refine fs_callV (idx := 112) (mj := 66) (ci := 6) (na := 1) (mx := 4) (p := 75) (args := [.ref 1, .int x1]) (rest := []) (al2 := [some (.ref 1), some (.int x1), none, none]) (by decide +kernel) rfl (by decide +kernel) fo_1 rfl rfl rfl rfl rfl rfl rfl (by omega) (fun d' hd' => fe_66 (by omega) w27) rfl ?_
      have h := Option.some.inj h
      subst h
      exact fs_iret (by decide +kernel) rt_88
    · rw [if_neg c21] at h
      refine fs_icmp_eq_f (off := 8) (t := 39) (p := 34) (by decide +kernel) (by decide +kernel) rfl c21 ?_
      refine fs_bipush (n := -2) (p := 36) (by decide +kernel) rfl kb_m2 ?_
      refine fs_iload_n (k := 2) (p := 37) (by decide +kernel) rfl rfl ?_
      refine fs_isub (p := 38) (by decide +kernel) rfl ?_
      have h := Option.some.inj h
      subst h
      exact fs_iret (by decide +kernel) rt_88
  · rw [if_neg c17] at h
    refine fs_if_ne_f (off := 5) (t := 9) (p := 7) (by decide +kernel) (by decide +kernel) rfl c17 ?_
    refine fs_iconst (n := -1) (p := 8) (by decide +kernel) rfl kc_m1 ?_
    have h := Option.some.inj h
    subst h
    exact fs_iret (by decide +kernel) rt_88

/-! ZoneShares.fit(I)I -/
theorem mx_92 : iv_mx 92 = 4 := by decide +kernel
theorem rt_92 : iv_rt 92 = some .int := by decide +kernel
def fm_92_54 (k_21 : Int32 → Int32 → Int32 → fx_S → Option (Int32 × fx_S)) (x1 : Int32) (x2 : Int32) (x3 : Int32) (σ : fx_S) : Option (Int32 × fx_S) :=
  k_21 x1 x2 (x3 + (1 : Int32)) σ
theorem fe_92_54 {d : Nat} (hd : 4 ≤ d) {k_21 : Int32 → Int32 → Int32 → fx_S → Option (Int32 × fx_S)} (hk_21 : ∀ (x1 : Int32) (x2 : Int32) (x3 : Int32) (σ : fx_S) (q : Int32 × fx_S), k_21 x1 x2 x3 σ = some q → fx_E none 92 d 21 [some (.ref 0), some (.int x1), some (.int x2), some (.int x3)] [] σ (some (.int q.1)) q.2) (x1 : Int32) (x2 : Int32) (x3 : Int32) (σ : fx_S) (q : Int32 × fx_S) (h : fm_92_54 k_21  x1 x2 x3 σ = some q) : fx_E none 92 d 54 [some (.ref 0), some (.int x1), some (.int x2), some (.int x3)] [] σ (some (.int q.1)) q.2 := by
  unfold fm_92_54 at h
  refine fs_iinc (k := 3) (n := 1) (p := 57) (M := 4) (al' := [some (.ref 0), some (.int x1), some (.int x2), some (.int (x3 + (1 : Int32)))]) (by decide +kernel) rfl kc_1 mx_92 rfl rfl rfl ?_
  refine fs_goto (off := -36) (p := 21) (by decide +kernel) (by decide +kernel) ?_
  exact hk_21 _ _ _ _ _ h
def fm_92_21 : Nat → Int32 → Int32 → Int32 → fx_S → Option (Int32 × fx_S)
  | 0, _, _, _, _ => none
  | n + 1, x1, x2, x3, σ =>
    if (4 : Int32) ≤ x3 then (
      if ¬ x2 = 0 then (
        (fm_119 σ).bind fun q6 =>
        (fx_cpy q6 63 (0 : Int32) 4 (x1 * (4 : Int32)) (4 : Int32)).bind fun t7 =>
        some (x2, t7)) else (
        some ((-2 : Int32), σ))) else (
      (fx_ld σ 63 x3).bind fun v10 =>
      (fx_ld σ 4 ((x1 * (4 : Int32)) + x3)).bind fun v13 =>
      if v10 = v13 then (
        fm_92_54 (fm_92_21 n) x1 x2 x3 σ) else (
        fm_92_54 (fm_92_21 n) x1 (x2 + (1 : Int32)) x3 σ))
theorem fe_92_21 {d : Nat} (hd : 4 ≤ d) : ∀ (n : Nat) (x1 : Int32) (x2 : Int32) (x3 : Int32) (σ : fx_S) (q : Int32 × fx_S), fm_92_21 n x1 x2 x3 σ = some q → fx_E none 92 d 21 [some (.ref 0), some (.int x1), some (.int x2), some (.int x3)] [] σ (some (.int q.1)) q.2 := by
  intro n
  induction n with
  | zero =>
    intro x1 x2 x3 σ q  h
    rw [fm_92_21] at h
    exact fx_no h
  | succ n ih =>
    intro x1 x2 x3 σ q  h
    rw [fm_92_21] at h
    refine fs_iload_n (k := 3) (p := 22) (by decide +kernel) rfl rfl ?_
    refine fs_iconst (n := 4) (p := 23) (by decide +kernel) rfl kc_4 ?_
    by_cases c2 : (4 : Int32) ≤ x3
    · rw [if_pos c2] at h
      refine fs_icmp_ge_t (off := 37) (t := 60) (by decide +kernel) (by decide +kernel) c2 ?_
      refine fs_iload_n (k := 2) (p := 61) (by decide +kernel) rfl rfl ?_
      by_cases c4 : ¬ x2 = 0
      · rw [if_pos c4] at h
        refine fs_if_ne_t (off := 6) (t := 67) (by decide +kernel) (by decide +kernel) c4 ?_
        refine fs_aload_n (k := 0) (p := 68) (by decide +kernel) rfl rfl ?_
        obtain ⟨q6, w5, h⟩ := fx_bd h
        refine fs_callV (idx := 83) (mj := 119) (ci := 9) (na := 0) (mx := 1) (p := 71) (args := [.ref 0]) (rest := []) (al2 := [some (.ref 0)]) (by decide +kernel) rfl (by decide +kernel) fo_0 rfl rfl rfl rfl rfl rfl rfl (by omega) (fun d' hd' => fe_119 (by omega) w5) rfl ?_
        refine fs_aload_n (k := 0) (p := 72) (by decide +kernel) rfl rfl ?_
        refine fs_gfr (idx := 50) (ci := 9) (j := 5) (p := 75) (by decide +kernel) rfl (by decide +kernel) fo_0 (fr_a0_5) ?_
        refine fs_gfr (idx := 143) (ci := 1) (j := 0) (p := 78) (by decide +kernel) rfl (by decide +kernel) fo_62 (fr_a62_0) ?_
        refine fs_iconst (n := 0) (p := 79) (by decide +kernel) rfl kc_0 ?_
        refine fs_aload_n (k := 0) (p := 80) (by decide +kernel) rfl rfl ?_
        refine fs_gfr (idx := 13) (ci := 9) (j := 1) (p := 83) (by decide +kernel) rfl (by decide +kernel) fo_0 (fr_a0_1) ?_
        refine fs_gfr (idx := 119) (ci := 6) (j := 2) (p := 86) (by decide +kernel) rfl (by decide +kernel) fo_1 (fr_a1_2) ?_
        refine fs_iload_n (k := 1) (p := 87) (by decide +kernel) rfl rfl ?_
        refine fs_iconst (n := 4) (p := 88) (by decide +kernel) rfl kc_4 ?_
        refine fs_imul (p := 89) (by decide +kernel) rfl ?_
        refine fs_iconst (n := 4) (p := 90) (by decide +kernel) rfl kc_4 ?_
        obtain ⟨t7, w8, h⟩ := fx_bd h
        refine fs_cpy (idx := 106) (p := 93) (by decide +kernel) rfl (by decide +kernel) rfl w8 ?_
        refine fs_iload_n (k := 2) (p := 94) (by decide +kernel) rfl rfl ?_
        have h := Option.some.inj h
        subst h
        exact fs_iret (by decide +kernel) rt_92
      · rw [if_neg c4] at h
        refine fs_if_ne_f (off := 6) (t := 67) (p := 64) (by decide +kernel) (by decide +kernel) rfl c4 ?_
        refine fs_bipush (n := -2) (p := 66) (by decide +kernel) rfl kb_m2 ?_
        have h := Option.some.inj h
        subst h
        exact fs_iret (by decide +kernel) rt_92
    · rw [if_neg c2] at h
      refine fs_icmp_ge_f (off := 37) (t := 60) (p := 26) (by decide +kernel) (by decide +kernel) rfl c2 ?_
      refine fs_aload_n (k := 0) (p := 27) (by decide +kernel) rfl rfl ?_
      refine fs_gfr (idx := 50) (ci := 9) (j := 5) (p := 30) (by decide +kernel) rfl (by decide +kernel) fo_0 (fr_a0_5) ?_
      refine fs_gfr (idx := 143) (ci := 1) (j := 0) (p := 33) (by decide +kernel) rfl (by decide +kernel) fo_62 (fr_a62_0) ?_
      refine fs_iload_n (k := 3) (p := 34) (by decide +kernel) rfl rfl ?_
      obtain ⟨v10, w11, h⟩ := fx_bd h
      refine fs_iaload (p := 35) (by decide +kernel) rfl w11 ?_
      refine fs_aload_n (k := 0) (p := 36) (by decide +kernel) rfl rfl ?_
      refine fs_gfr (idx := 13) (ci := 9) (j := 1) (p := 39) (by decide +kernel) rfl (by decide +kernel) fo_0 (fr_a0_1) ?_
      refine fs_gfr (idx := 119) (ci := 6) (j := 2) (p := 42) (by decide +kernel) rfl (by decide +kernel) fo_1 (fr_a1_2) ?_
      refine fs_iload_n (k := 1) (p := 43) (by decide +kernel) rfl rfl ?_
      refine fs_iconst (n := 4) (p := 44) (by decide +kernel) rfl kc_4 ?_
      refine fs_imul (p := 45) (by decide +kernel) rfl ?_
      refine fs_iload_n (k := 3) (p := 46) (by decide +kernel) rfl rfl ?_
      refine fs_iadd (p := 47) (by decide +kernel) rfl ?_
      obtain ⟨v13, w14, h⟩ := fx_bd h
      refine fs_iaload (p := 48) (by decide +kernel) rfl w14 ?_
      by_cases c18 : v10 = v13
      · rw [if_pos c18] at h
        refine fs_icmp_eq_t (off := 6) (t := 54) (by decide +kernel) (by decide +kernel) c18 ?_
        exact fe_92_54 hd ih _ _ _ _ _ h
      · rw [if_neg c18] at h
        refine fs_icmp_eq_f (off := 6) (t := 54) (p := 51) (by decide +kernel) (by decide +kernel) rfl c18 ?_
        refine fs_iinc (k := 2) (n := 1) (p := 54) (M := 4) (al' := [some (.ref 0), some (.int x1), some (.int (x2 + (1 : Int32))), some (.int x3)]) (by decide +kernel) rfl kc_1 mx_92 rfl rfl rfl ?_
        exact fe_92_54 hd ih _ _ _ _ _ h
def fm_92 (x1 : Int32) (σ : fx_S) : Option (Int32 × fx_S) :=
  (fm_121 x1 σ).bind fun q25 =>
  if ¬ (fx_b q25.1) = 0 then (
    (fm_15 q25.2).bind fun q28 =>
    fm_92_21 100000 x1 (0 : Int32) (0 : Int32) q28) else (
    some ((-1 : Int32), q25.2))
theorem fe_92 {d : Nat} (hd : 4 ≤ d) {x1 : Int32} {σ : fx_S} {q : Int32 × fx_S} (h : fm_92 x1 σ = some q) : fx_E none 92 d 0 [some (.ref 0), some (.int x1), none, none] [] σ (some (.int q.1)) q.2 := by
  unfold fm_92 at h
  refine fs_aload_n (k := 0) (p := 1) (by decide +kernel) rfl rfl ?_
  refine fs_iload_n (k := 1) (p := 2) (by decide +kernel) rfl rfl ?_
  obtain ⟨q25, w24, h⟩ := fx_bd h
  refine fs_callV (idx := 137) (mj := 121) (ci := 9) (na := 1) (mx := 2) (p := 5) (args := [.ref 0, .int x1]) (rest := []) (al2 := [some (.ref 0), some (.int x1)]) (by decide +kernel) rfl (by decide +kernel) fo_0 rfl rfl rfl rfl rfl rfl rfl (by omega) (fun d' hd' => fe_121 (by omega) w24) rfl ?_
  by_cases c26 : ¬ (fx_b q25.1) = 0
  · rw [if_pos c26] at h
    refine fs_if_ne_t (off := 5) (t := 10) (by decide +kernel) (by decide +kernel) c26 ?_
    refine fs_aload_n (k := 0) (p := 11) (by decide +kernel) rfl rfl ?_
    refine fs_gfr (idx := 50) (ci := 9) (j := 5) (p := 14) (by decide +kernel) rfl (by decide +kernel) fo_0 (fr_a0_5) ?_
    obtain ⟨q28, w27, h⟩ := fx_bd h
    refine fs_callV (idx := 140) (mj := 15) (ci := 1) (na := 0) (mx := 3) (p := 17) (args := [.ref 62]) (rest := []) (al2 := [some (.ref 62), none, none]) (by decide +kernel) rfl (by decide +kernel) fo_62 rfl rfl rfl rfl rfl rfl rfl (by omega) (fun d' hd' => fe_15 (by omega) w27) rfl ?_
    refine fs_iconst (n := 0) (p := 18) (by decide +kernel) rfl kc_0 ?_
    refine fs_istore_n (k := 2) (p := 19) (M := 4) (al' := [some (.ref 0), some (.int x1), some (.int (0 : Int32)), none]) (by decide +kernel) rfl mx_92 rfl rfl ?_
    refine fs_iconst (n := 0) (p := 20) (by decide +kernel) rfl kc_0 ?_
    refine fs_istore_n (k := 3) (p := 21) (M := 4) (al' := [some (.ref 0), some (.int x1), some (.int (0 : Int32)), some (.int (0 : Int32))]) (by decide +kernel) rfl mx_92 rfl rfl ?_
    exact fe_92_21 hd 100000 _ _ _ _ _ h
  · rw [if_neg c26] at h
    refine fs_if_ne_f (off := 5) (t := 10) (p := 8) (by decide +kernel) (by decide +kernel) rfl c26 ?_
    refine fs_iconst (n := -1) (p := 9) (by decide +kernel) rfl kc_m1 ?_
    have h := Option.some.inj h
    subst h
    exact fs_iret (by decide +kernel) rt_92

/-! ZoneShares.people(II)I -/
theorem mx_97 : iv_mx 97 = 4 := by decide +kernel
theorem rt_97 : iv_rt 97 = some .int := by decide +kernel
def fm_97 (x1 : Int32) (x2 : Int32) (σ : fx_S) : Option (Int32 × fx_S) :=
  (fm_114 x1 σ).bind fun q22 =>
  if (fx_b q22.1) = 0 then (
    some ((-1 : Int32), q22.2)) else (
    if x2 < 0 then (
      some ((-1 : Int32), q22.2)) else (
      if x2 ≤ (10 : Int32) then (
        (fx_ldr 4 70 x1).bind fun v27 =>
        (fm_20 v27 q22.2).bind fun q32 =>
        if (8 : Int32) ≤ x2 then (
          if ¬ x2 = (8 : Int32) then (
            if ¬ x2 = (9 : Int32) then (
              (fm_66 1 x1 q32).bind fun q37 =>
              some (q37.1, q37.2)) else (
              some ((q32.1 v27 7), q32))) else (
            some ((q32.1 v27 6), q32))) else (
          (fx_ld q32 (v27 + 1) x2).bind fun v38 =>
          some (v38, q32))) else (
        some ((-1 : Int32), q22.2))))
theorem fe_97 {d : Nat} (hd : 5 ≤ d) {x1 : Int32} {x2 : Int32} {σ : fx_S} {q : Int32 × fx_S} (h : fm_97 x1 x2 σ = some q) : fx_E none 97 d 0 [some (.ref 0), some (.int x1), some (.int x2), none] [] σ (some (.int q.1)) q.2 := by
  unfold fm_97 at h
  refine fs_iload_n (k := 1) (p := 1) (by decide +kernel) rfl rfl ?_
  obtain ⟨q22, w21, h⟩ := fx_bd h
  refine fs_callS (idx := 94) (mj := 114) (na := 1) (mx := 1) (p := 4) (args := [.int x1]) (rest := []) (al2 := [some (.int x1)]) (by decide +kernel) rfl (by decide +kernel) rfl rfl rfl rfl rfl rfl rfl (by omega) (fun d' hd' => fe_114 (by omega) w21) rfl ?_
  by_cases c23 : (fx_b q22.1) = 0
  · rw [if_pos c23] at h
    refine fs_if_eq_t (off := 13) (t := 17) (by decide +kernel) (by decide +kernel) c23 ?_
    refine fs_iconst (n := -1) (p := 18) (by decide +kernel) rfl kc_m1 ?_
    have h := Option.some.inj h
    subst h
    exact fs_iret (by decide +kernel) rt_97
  · rw [if_neg c23] at h
    refine fs_if_eq_f (off := 13) (t := 17) (p := 7) (by decide +kernel) (by decide +kernel) rfl c23 ?_
    refine fs_iload_n (k := 2) (p := 8) (by decide +kernel) rfl rfl ?_
    by_cases c25 : x2 < 0
    · rw [if_pos c25] at h
      refine fs_if_lt_t (off := 9) (t := 17) (by decide +kernel) (by decide +kernel) c25 ?_
      refine fs_iconst (n := -1) (p := 18) (by decide +kernel) rfl kc_m1 ?_
      have h := Option.some.inj h
      subst h
      exact fs_iret (by decide +kernel) rt_97
    · rw [if_neg c25] at h
      refine fs_if_lt_f (off := 9) (t := 17) (p := 11) (by decide +kernel) (by decide +kernel) rfl c25 ?_
      refine fs_iload_n (k := 2) (p := 12) (by decide +kernel) rfl rfl ?_
      refine fs_bipush (n := 10) (p := 14) (by decide +kernel) rfl kb_10 ?_
      by_cases c26 : x2 ≤ (10 : Int32)
      · rw [if_pos c26] at h
        refine fs_icmp_le_t (off := 5) (t := 19) (by decide +kernel) (by decide +kernel) c26 ?_
        refine fs_aload_n (k := 0) (p := 20) (by decide +kernel) rfl rfl ?_
        refine fs_gfr (idx := 60) (ci := 9) (j := 6) (p := 23) (by decide +kernel) rfl (by decide +kernel) fo_0 (fr_a0_6) ?_
        refine fs_iload_n (k := 1) (p := 24) (by decide +kernel) rfl rfl ?_
        obtain ⟨v27, w28, h⟩ := fx_bd h
        have g29 := fa_70 w28
        refine fs_aaload (t := 4) (p := 25) (by decide +kernel) rfl (by decide +kernel) w28 ?_
        refine fs_astore_n (k := 3) (p := 26) (M := 4) (al' := [some (.ref 0), some (.int x1), some (.int x2), some (.ref v27)]) (by decide +kernel) rfl mx_97 rfl rfl ?_
        refine fs_aload_n (k := 3) (p := 27) (by decide +kernel) rfl rfl ?_
        obtain ⟨q32, w31, h⟩ := fx_bd h
        refine fs_callV (idx := 187) (mj := 20) (ci := 2) (na := 0) (mx := 1) (p := 30) (args := [.ref v27]) (rest := []) (al2 := [some (.ref v27)]) (by decide +kernel) rfl (by decide +kernel) g29 rfl rfl rfl rfl rfl rfl rfl (by omega) (fun d' hd' => fe_20 (by omega) w31) rfl ?_
        refine fs_iload_n (k := 2) (p := 31) (by decide +kernel) rfl rfl ?_
        refine fs_bipush (n := 8) (p := 33) (by decide +kernel) rfl kb_8 ?_
        by_cases c33 : (8 : Int32) ≤ x2
        · rw [if_pos c33] at h
          refine fs_icmp_ge_t (off := 10) (t := 43) (by decide +kernel) (by decide +kernel) c33 ?_
          refine fs_iload_n (k := 2) (p := 44) (by decide +kernel) rfl rfl ?_
          refine fs_bipush (n := 8) (p := 46) (by decide +kernel) rfl kb_8 ?_
          by_cases c34 : ¬ x2 = (8 : Int32)
          · rw [if_pos c34] at h
            refine fs_icmp_ne_t (off := 8) (t := 54) (by decide +kernel) (by decide +kernel) c34 ?_
            refine fs_iload_n (k := 2) (p := 55) (by decide +kernel) rfl rfl ?_
            refine fs_bipush (n := 9) (p := 57) (by decide +kernel) rfl kb_9 ?_
            by_cases c35 : ¬ x2 = (9 : Int32)
            · rw [if_pos c35] at h
              refine fs_icmp_ne_t (off := 10) (t := 67) (by decide +kernel) (by decide +kernel) c35 ?_
              refine fs_aload_n (k := 0) (p := 68) (by decide +kernel) rfl rfl ?_
              refine fs_gfr (idx := 13) (ci := 9) (j := 1) (p := 71) (by decide +kernel) rfl (by decide +kernel) fo_0 (fr_a0_1) ?_
              refine fs_iload_n (k := 1) (p := 72) (by decide +kernel) rfl rfl ?_
              obtain ⟨q37, w36, h⟩ := fx_bd h
              refine fs_callV (idx := 112) (mj := 66) (ci := 6) (na := 1) (mx := 4) (p := 75) (args := [.ref 1, .int x1]) (rest := []) (al2 := [some (.ref 1), some (.int x1), none, none]) (by decide +kernel) rfl (by decide +kernel) fo_1 rfl rfl rfl rfl rfl rfl rfl (by omega) (fun d' hd' => fe_66 (by omega) w36) rfl ?_
              have h := Option.some.inj h
              subst h
              exact fs_iret (by decide +kernel) rt_97
            · rw [if_neg c35] at h
              refine fs_icmp_ne_f (off := 10) (t := 67) (p := 60) (by decide +kernel) (by decide +kernel) rfl c35 ?_
              refine fs_aload_n (k := 3) (p := 61) (by decide +kernel) rfl rfl ?_
              refine fs_gfi (idx := 196) (ci := 2) (j := 7) (p := 64) (by decide +kernel) rfl (by decide +kernel) g29 ?_
              refine fs_goto (off := 11) (p := 75) (by decide +kernel) (by decide +kernel) ?_
              have h := Option.some.inj h
              subst h
              exact fs_iret (by decide +kernel) rt_97
          · rw [if_neg c34] at h
            refine fs_icmp_ne_f (off := 8) (t := 54) (p := 49) (by decide +kernel) (by decide +kernel) rfl c34 ?_
            refine fs_aload_n (k := 3) (p := 50) (by decide +kernel) rfl rfl ?_
            refine fs_gfi (idx := 193) (ci := 2) (j := 6) (p := 53) (by decide +kernel) rfl (by decide +kernel) g29 ?_
            have h := Option.some.inj h
            subst h
            exact fs_iret (by decide +kernel) rt_97
        · rw [if_neg c33] at h
          refine fs_icmp_ge_f (off := 10) (t := 43) (p := 36) (by decide +kernel) (by decide +kernel) rfl c33 ?_
          refine fs_aload_n (k := 3) (p := 37) (by decide +kernel) rfl rfl ?_
          refine fs_gfr (idx := 190) (ci := 2) (j := 0) (p := 40) (by decide +kernel) rfl (by decide +kernel) g29 (fr_2_0 g29) ?_
          refine fs_iload_n (k := 2) (p := 41) (by decide +kernel) rfl rfl ?_
          obtain ⟨v38, w39, h⟩ := fx_bd h
          refine fs_iaload (p := 42) (by decide +kernel) rfl w39 ?_
          have h := Option.some.inj h
          subst h
          exact fs_iret (by decide +kernel) rt_97
      · rw [if_neg c26] at h
        refine fs_icmp_le_f (off := 5) (t := 19) (p := 17) (by decide +kernel) (by decide +kernel) rfl c26 ?_
        refine fs_iconst (n := -1) (p := 18) (by decide +kernel) rfl kc_m1 ?_
        have h := Option.some.inj h
        subst h
        exact fs_iret (by decide +kernel) rt_97

/-! ZoneShares.misfit(II)J -/
theorem mx_102 : iv_mx 102 = 5 := by decide +kernel
theorem rt_102 : iv_rt 102 = some .long := by decide +kernel
def fm_102_17 (σ : fx_S) : Option (Int64 × fx_S) :=
  some ((-1 : Int64), σ)
theorem fe_102_17 {d : Nat} (hd : 4 ≤ d) (o0 : Option Value) (o1 : Option Value) (o2 : Option Value) (σ : fx_S) (q : Int64 × fx_S) (h : fm_102_17  σ = some q) : fx_E none 102 d 17 [o0, o1, o2, none, none] [] σ (some (.long q.1)) q.2 := by
  unfold fm_102_17 at h
  refine fs_ldc2 (idx := 221) (p := 20) (x := -1) (by decide +kernel) rfl (by decide +kernel) ?_
  have h := Option.some.inj h
  subst h
  exact fs_lret (by decide +kernel) rt_102
def fm_102 (x1 : Int32) (x2 : Int32) (σ : fx_S) : Option (Int64 × fx_S) :=
  if x2 < 0 then (
    fm_102_17 σ) else (
    if (1 : Int32) < x2 then (
      fm_102_17 σ) else (
      (fm_121 x1 σ).bind fun q19 =>
      if ¬ (fx_b q19.1) = 0 then (
        (fm_12 4 (x1 * (4 : Int32)) q19.2).bind fun q22 =>
        if ¬ q22.1 = (0 : Int64) then (
          (fm_14 q22.2).bind fun q26 =>
          (fm_127 q26.1 q22.1 x2 q26.2).bind fun q28 =>
          some (q28.1, q28.2)) else (
          some ((-1 : Int64), q22.2))) else (
        fm_102_17 q19.2)))
theorem fe_102 {d : Nat} (hd : 4 ≤ d) {x1 : Int32} {x2 : Int32} {σ : fx_S} {q : Int64 × fx_S} (h : fm_102 x1 x2 σ = some q) : fx_E none 102 d 0 [some (.ref 0), some (.int x1), some (.int x2), none, none] [] σ (some (.long q.1)) q.2 := by
  unfold fm_102 at h
  refine fs_iload_n (k := 2) (p := 1) (by decide +kernel) rfl rfl ?_
  by_cases c16 : x2 < 0
  · rw [if_pos c16] at h
    refine fs_if_lt_t (off := 16) (t := 17) (by decide +kernel) (by decide +kernel) c16 ?_
    exact fe_102_17 hd _ _ _ _ _ h
  · rw [if_neg c16] at h
    refine fs_if_lt_f (off := 16) (t := 17) (p := 4) (by decide +kernel) (by decide +kernel) rfl c16 ?_
    refine fs_iload_n (k := 2) (p := 5) (by decide +kernel) rfl rfl ?_
    refine fs_iconst (n := 1) (p := 6) (by decide +kernel) rfl kc_1 ?_
    by_cases c17 : (1 : Int32) < x2
    · rw [if_pos c17] at h
      refine fs_icmp_gt_t (off := 11) (t := 17) (by decide +kernel) (by decide +kernel) c17 ?_
      exact fe_102_17 hd _ _ _ _ _ h
    · rw [if_neg c17] at h
      refine fs_icmp_gt_f (off := 11) (t := 17) (p := 9) (by decide +kernel) (by decide +kernel) rfl c17 ?_
      refine fs_aload_n (k := 0) (p := 10) (by decide +kernel) rfl rfl ?_
      refine fs_iload_n (k := 1) (p := 11) (by decide +kernel) rfl rfl ?_
      obtain ⟨q19, w18, h⟩ := fx_bd h
      refine fs_callV (idx := 137) (mj := 121) (ci := 9) (na := 1) (mx := 2) (p := 14) (args := [.ref 0, .int x1]) (rest := []) (al2 := [some (.ref 0), some (.int x1)]) (by decide +kernel) rfl (by decide +kernel) fo_0 rfl rfl rfl rfl rfl rfl rfl (by omega) (fun d' hd' => fe_121 (by omega) w18) rfl ?_
      by_cases c20 : ¬ (fx_b q19.1) = 0
      · rw [if_pos c20] at h
        refine fs_if_ne_t (off := 7) (t := 21) (by decide +kernel) (by decide +kernel) c20 ?_
        refine fs_aload_n (k := 0) (p := 22) (by decide +kernel) rfl rfl ?_
        refine fs_gfr (idx := 50) (ci := 9) (j := 5) (p := 25) (by decide +kernel) rfl (by decide +kernel) fo_0 (fr_a0_5) ?_
        refine fs_aload_n (k := 0) (p := 26) (by decide +kernel) rfl rfl ?_
        refine fs_gfr (idx := 13) (ci := 9) (j := 1) (p := 29) (by decide +kernel) rfl (by decide +kernel) fo_0 (fr_a0_1) ?_
        refine fs_gfr (idx := 119) (ci := 6) (j := 2) (p := 32) (by decide +kernel) rfl (by decide +kernel) fo_1 (fr_a1_2) ?_
        refine fs_iload_n (k := 1) (p := 33) (by decide +kernel) rfl rfl ?_
        refine fs_iconst (n := 4) (p := 34) (by decide +kernel) rfl kc_4 ?_
        refine fs_imul (p := 35) (by decide +kernel) rfl ?_
        obtain ⟨q22, w21, h⟩ := fx_bd h
        refine fs_callV (idx := 240) (mj := 12) (ci := 1) (na := 2) (mx := 4) (p := 38) (args := [.ref 62, .ref 4, .int (x1 * (4 : Int32))]) (rest := []) (al2 := [some (.ref 62), some (.ref 4), some (.int (x1 * (4 : Int32))), none]) (by decide +kernel) rfl (by decide +kernel) fo_62 rfl rfl rfl rfl rfl rfl rfl (by omega) (fun d' hd' => fe_12 (by omega) w21) rfl ?_
        refine fs_lstore_n (k := 3) (p := 39) (M := 5) (al' := [some (.ref 0), some (.int x1), some (.int x2), some (.long q22.1), none]) (by decide +kernel) rfl mx_102 rfl rfl ?_
        refine fs_lload_n (k := 3) (p := 40) (by decide +kernel) rfl rfl ?_
        refine fs_lconst (n := 0) (p := 41) (by decide +kernel) rfl kl_0 ?_
        by_cases c24 : ¬ q22.1 = (0 : Int64)
        · rw [if_pos c24] at h
          refine fs_lcmp_ne_t (off := 7) (t := 49) (by decide +kernel) (by decide +kernel) (by decide +kernel) c24 ?_
          refine fs_aload_n (k := 0) (p := 50) (by decide +kernel) rfl rfl ?_
          refine fs_gfr (idx := 50) (ci := 9) (j := 5) (p := 53) (by decide +kernel) rfl (by decide +kernel) fo_0 (fr_a0_5) ?_
          obtain ⟨q26, w25, h⟩ := fx_bd h
          refine fs_callV (idx := 244) (mj := 14) (ci := 1) (na := 0) (mx := 4) (p := 56) (args := [.ref 62]) (rest := []) (al2 := [some (.ref 62), none, none, none]) (by decide +kernel) rfl (by decide +kernel) fo_62 rfl rfl rfl rfl rfl rfl rfl (by omega) (fun d' hd' => fe_14 (by omega) w25) rfl ?_
          refine fs_lload_n (k := 3) (p := 57) (by decide +kernel) rfl rfl ?_
          refine fs_iload_n (k := 2) (p := 58) (by decide +kernel) rfl rfl ?_
          obtain ⟨q28, w27, h⟩ := fx_bd h
          refine fs_callS (idx := 214) (mj := 127) (na := 3) (mx := 7) (p := 61) (args := [.long q26.1, .long q22.1, .int x2]) (rest := []) (al2 := [some (.long q26.1), none, some (.long q22.1), none, some (.int x2), none, none]) (by decide +kernel) rfl (by decide +kernel) rfl rfl rfl rfl rfl rfl rfl (by omega) (fun d' hd' => fe_127 (by omega) w27) rfl ?_
          have h := Option.some.inj h
          subst h
          exact fs_lret (by decide +kernel) rt_102
        · rw [if_neg c24] at h
          refine fs_lcmp_ne_f (off := 7) (t := 49) (p := 45) (by decide +kernel) (by decide +kernel) (by decide +kernel) rfl c24 ?_
          refine fs_ldc2 (idx := 221) (p := 48) (x := -1) (by decide +kernel) rfl (by decide +kernel) ?_
          have h := Option.some.inj h
          subst h
          exact fs_lret (by decide +kernel) rt_102
      · rw [if_neg c20] at h
        refine fs_if_ne_f (off := 7) (t := 21) (p := 17) (by decide +kernel) (by decide +kernel) rfl c20 ?_
        exact fe_102_17 hd _ _ _ _ _ h

/-! ZoneShares.peopleInAll(Z)I -/
theorem mx_126 : iv_mx 126 = 5 := by decide +kernel
theorem rt_126 : iv_rt 126 = some .int := by decide +kernel
def fm_126_67 (x2 : Int32) (σ : fx_S) : Option (Int32 × fx_S) :=
  some (x2, σ)
theorem fe_126_67 {d : Nat} (hd : 5 ≤ d) (x2 : Int32) (o0 : Option Value) (o1 : Option Value) (o3 : Option Value) (o4 : Option Value) (σ : fx_S) (q : Int32 × fx_S) (h : fm_126_67  x2 σ = some q) : fx_E none 126 d 67 [o0, o1, some (.int x2), o3, o4] [] σ (some (.int q.1)) q.2 := by
  unfold fm_126_67 at h
  refine fs_iload_n (k := 2) (p := 68) (by decide +kernel) rfl rfl ?_
  have h := Option.some.inj h
  subst h
  exact fs_iret (by decide +kernel) rt_126
def fm_126_59 (k_4 : Int32 → Int32 → Int32 → fx_S → Option (Int32 × fx_S)) (x1 : Int32) (x3 : Int32) (s0 : Int32) (s1 : Int32) (σ : fx_S) : Option (Int32 × fx_S) :=
  k_4 x1 (s0 + s1) (x3 + (1 : Int32)) σ
theorem fe_126_59 {d : Nat} (hd : 5 ≤ d) {k_4 : Int32 → Int32 → Int32 → fx_S → Option (Int32 × fx_S)} (hk_4 : ∀ (x1 : Int32) (x2 : Int32) (x3 : Int32) (o4 : Option Value) (σ : fx_S) (q : Int32 × fx_S), k_4 x1 x2 x3 σ = some q → fx_E none 126 d 4 [some (.ref 0), some (.int x1), some (.int x2), some (.int x3), o4] [] σ (some (.int q.1)) q.2) (x1 : Int32) (x3 : Int32) (s0 : Int32) (s1 : Int32) (o2 : Option Value) (o4 : Option Value) (σ : fx_S) (q : Int32 × fx_S) (h : fm_126_59 k_4  x1 x3 s0 s1 σ = some q) : fx_E none 126 d 59 [some (.ref 0), some (.int x1), o2, some (.int x3), o4] [.int s1, .int s0] σ (some (.int q.1)) q.2 := by
  unfold fm_126_59 at h
  refine fs_iadd (p := 60) (by decide +kernel) rfl ?_
  refine fs_istore_n (k := 2) (p := 61) (M := 5) (al' := [some (.ref 0), some (.int x1), some (.int (s0 + s1)), some (.int x3), o4]) (by decide +kernel) rfl mx_126 rfl rfl ?_
  refine fs_iinc (k := 3) (n := 1) (p := 64) (M := 5) (al' := [some (.ref 0), some (.int x1), some (.int (s0 + s1)), some (.int (x3 + (1 : Int32))), o4]) (by decide +kernel) rfl kc_1 mx_126 rfl rfl rfl ?_
  refine fs_goto (off := -60) (p := 4) (by decide +kernel) (by decide +kernel) ?_
  exact hk_4 _ _ _ _ _ _ h
def fm_126_4 : Nat → Int32 → Int32 → Int32 → fx_S → Option (Int32 × fx_S)
  | 0, _, _, _, _ => none
  | n + 1, x1, x2, x3, σ =>
    if (3 : Int32) ≤ x3 then (
      fm_126_67 x2 σ) else (
      (fm_57 1 σ).bind fun q4 =>
      if (fx_b q4.1) = 0 then (
        fm_126_67 x2 q4.2) else (
        (fx_ldr 4 70 x3).bind fun v6 =>
        (fm_20 v6 q4.2).bind fun q11 =>
        if x1 = 0 then (
          fm_126_59 (fm_126_4 n) x1 x3 x2 (q11.1 v6 7) q11) else (
          (fm_66 1 x3 q11).bind fun q15 =>
          fm_126_59 (fm_126_4 n) x1 x3 x2 (q15.1 - (q15.2.1 v6 7)) q15.2)))
theorem fe_126_4 {d : Nat} (hd : 5 ≤ d) : ∀ (n : Nat) (x1 : Int32) (x2 : Int32) (x3 : Int32) (o4 : Option Value) (σ : fx_S) (q : Int32 × fx_S), fm_126_4 n x1 x2 x3 σ = some q → fx_E none 126 d 4 [some (.ref 0), some (.int x1), some (.int x2), some (.int x3), o4] [] σ (some (.int q.1)) q.2 := by
  intro n
  induction n with
  | zero =>
    intro x1 x2 x3 o4 σ q  h
    rw [fm_126_4] at h
    exact fx_no h
  | succ n ih =>
    intro x1 x2 x3 o4 σ q  h
    rw [fm_126_4] at h
    refine fs_iload_n (k := 3) (p := 5) (by decide +kernel) rfl rfl ?_
    refine fs_iconst (n := 3) (p := 6) (by decide +kernel) rfl kc_3 ?_
    by_cases c2 : (3 : Int32) ≤ x3
    · rw [if_pos c2] at h
      refine fs_icmp_ge_t (off := 61) (t := 67) (by decide +kernel) (by decide +kernel) c2 ?_
      exact fe_126_67 hd _ _ _ _ _ _ _ h
    · rw [if_neg c2] at h
      refine fs_icmp_ge_f (off := 61) (t := 67) (p := 9) (by decide +kernel) (by decide +kernel) rfl c2 ?_
      refine fs_aload_n (k := 0) (p := 10) (by decide +kernel) rfl rfl ?_
      refine fs_gfr (idx := 13) (ci := 9) (j := 1) (p := 13) (by decide +kernel) rfl (by decide +kernel) fo_0 (fr_a0_1) ?_
      obtain ⟨q4, w3, h⟩ := fx_bd h
      refine fs_callV (idx := 146) (mj := 57) (ci := 6) (na := 0) (mx := 1) (p := 16) (args := [.ref 1]) (rest := []) (al2 := [some (.ref 1)]) (by decide +kernel) rfl (by decide +kernel) fo_1 rfl rfl rfl rfl rfl rfl rfl (by omega) (fun d' hd' => fe_57 (by omega) w3) rfl ?_
      by_cases c5 : (fx_b q4.1) = 0
      · rw [if_pos c5] at h
        refine fs_if_eq_t (off := 51) (t := 67) (by decide +kernel) (by decide +kernel) c5 ?_
        exact fe_126_67 hd _ _ _ _ _ _ _ h
      · rw [if_neg c5] at h
        refine fs_if_eq_f (off := 51) (t := 67) (p := 19) (by decide +kernel) (by decide +kernel) rfl c5 ?_
        refine fs_aload_n (k := 0) (p := 20) (by decide +kernel) rfl rfl ?_
        refine fs_gfr (idx := 60) (ci := 9) (j := 6) (p := 23) (by decide +kernel) rfl (by decide +kernel) fo_0 (fr_a0_6) ?_
        refine fs_iload_n (k := 3) (p := 24) (by decide +kernel) rfl rfl ?_
        obtain ⟨v6, w7, h⟩ := fx_bd h
        have g8 := fa_70 w7
        refine fs_aaload (t := 4) (p := 25) (by decide +kernel) rfl (by decide +kernel) w7 ?_
        refine fs_astore (k := 4) (p := 27) (M := 5) (al' := [some (.ref 0), some (.int x1), some (.int x2), some (.int x3), some (.ref v6)]) (by decide +kernel) rfl mx_126 rfl rfl ?_
        refine fs_aload (k := 4) (p := 29) (by decide +kernel) rfl rfl ?_
        obtain ⟨q11, w10, h⟩ := fx_bd h
        refine fs_callV (idx := 187) (mj := 20) (ci := 2) (na := 0) (mx := 1) (p := 32) (args := [.ref v6]) (rest := []) (al2 := [some (.ref v6)]) (by decide +kernel) rfl (by decide +kernel) g8 rfl rfl rfl rfl rfl rfl rfl (by omega) (fun d' hd' => fe_20 (by omega) w10) rfl ?_
        refine fs_iload_n (k := 2) (p := 33) (by decide +kernel) rfl rfl ?_
        refine fs_iload_n (k := 1) (p := 34) (by decide +kernel) rfl rfl ?_
        by_cases c13 : x1 = 0
        · rw [if_pos c13] at h
          refine fs_if_eq_t (off := 20) (t := 54) (by decide +kernel) (by decide +kernel) c13 ?_
          refine fs_aload (k := 4) (p := 56) (by decide +kernel) rfl rfl ?_
          refine fs_gfi (idx := 196) (ci := 2) (j := 7) (p := 59) (by decide +kernel) rfl (by decide +kernel) g8 ?_
          exact fe_126_59 hd ih _ _ _ _ _ _ _ _ h
        · rw [if_neg c13] at h
          refine fs_if_eq_f (off := 20) (t := 54) (p := 37) (by decide +kernel) (by decide +kernel) rfl c13 ?_
          refine fs_aload_n (k := 0) (p := 38) (by decide +kernel) rfl rfl ?_
          refine fs_gfr (idx := 13) (ci := 9) (j := 1) (p := 41) (by decide +kernel) rfl (by decide +kernel) fo_0 (fr_a0_1) ?_
          refine fs_iload_n (k := 3) (p := 42) (by decide +kernel) rfl rfl ?_
          obtain ⟨q15, w14, h⟩ := fx_bd h
          refine fs_callV (idx := 112) (mj := 66) (ci := 6) (na := 1) (mx := 4) (p := 45) (args := [.ref 1, .int x3]) (rest := [.int x2]) (al2 := [some (.ref 1), some (.int x3), none, none]) (by decide +kernel) rfl (by decide +kernel) fo_1 rfl rfl rfl rfl rfl rfl rfl (by omega) (fun d' hd' => fe_66 (by omega) w14) rfl ?_
          refine fs_aload (k := 4) (p := 47) (by decide +kernel) rfl rfl ?_
          refine fs_gfi (idx := 196) (ci := 2) (j := 7) (p := 50) (by decide +kernel) rfl (by decide +kernel) g8 ?_
          refine fs_isub (p := 51) (by decide +kernel) rfl ?_
          refine fs_goto (off := 8) (p := 59) (by decide +kernel) (by decide +kernel) ?_
          exact fe_126_59 hd ih _ _ _ _ _ _ _ _ h
def fm_126 (x1 : Int32) (σ : fx_S) : Option (Int32 × fx_S) :=
  fm_126_4 100000 x1 (0 : Int32) (0 : Int32) σ
theorem fe_126 {d : Nat} (hd : 5 ≤ d) {x1 : Int32} {σ : fx_S} {q : Int32 × fx_S} (h : fm_126 x1 σ = some q) : fx_E none 126 d 0 [some (.ref 0), some (.int x1), none, none, none] [] σ (some (.int q.1)) q.2 := by
  unfold fm_126 at h
  refine fs_iconst (n := 0) (p := 1) (by decide +kernel) rfl kc_0 ?_
  refine fs_istore_n (k := 2) (p := 2) (M := 5) (al' := [some (.ref 0), some (.int x1), some (.int (0 : Int32)), none, none]) (by decide +kernel) rfl mx_126 rfl rfl ?_
  refine fs_iconst (n := 0) (p := 3) (by decide +kernel) rfl kc_0 ?_
  refine fs_istore_n (k := 3) (p := 4) (M := 5) (al' := [some (.ref 0), some (.int x1), some (.int (0 : Int32)), some (.int (0 : Int32)), none]) (by decide +kernel) rfl mx_126 rfl rfl ?_
  exact fe_126_4 hd 100000 _ _ _ _ _ _ h

/-! ZoneShares$Group.ready(I)LZoneShares$Group; -/
theorem mx_19 : iv_mx 19 = 2 := by decide +kernel
def fm_19_220 (x0 : Nat) (σ : fx_S) : Option (fx_S) :=
  some σ
theorem fe_19_220 {d : Nat} (hd : 5 ≤ d) (x0 : Nat) (o1 : Option Value) (σ : fx_S) (q : fx_S) (g0 : fx_oc x0 2 = true) (h : fm_19_220  x0 σ = some q) : fx_E none 19 d 220 [some (.ref x0), o1] [] σ (some (.ref x0)) q := by
  unfold fm_19_220 at h
  refine fs_aload_n (k := 0) (p := 221) (by decide +kernel) rfl rfl ?_
  have h := Option.some.inj h
  subst h
  exact fs_aret (by decide +kernel) (by decide +kernel)
def fm_19_201 (x0 : Nat) (x1 : Int32) (σ : fx_S) : Option (fx_S) :=
  if ¬ x1 = (32 : Int32) then (
    fm_19_220 x0 σ) else (
    (fm_21 x0 (32 : Int32) σ).bind fun q4 =>
    if (fx_b q4.1) = 0 then (
      fm_19_220 x0 q4.2) else (
      (fm_29 x0 q4.2).bind fun q7 =>
      fm_19_220 x0 q7))
theorem fe_19_201 {d : Nat} (hd : 5 ≤ d) (x0 : Nat) (x1 : Int32) (σ : fx_S) (q : fx_S) (g0 : fx_oc x0 2 = true) (h : fm_19_201  x0 x1 σ = some q) : fx_E none 19 d 201 [some (.ref x0), some (.int x1)] [] σ (some (.ref x0)) q := by
  unfold fm_19_201 at h
  refine fs_iload_n (k := 1) (p := 202) (by decide +kernel) rfl rfl ?_
  refine fs_bipush (n := 32) (p := 204) (by decide +kernel) rfl kb_32 ?_
  by_cases c2 : ¬ x1 = (32 : Int32)
  · rw [if_pos c2] at h
    refine fs_icmp_ne_t (off := 16) (t := 220) (by decide +kernel) (by decide +kernel) c2 ?_
    exact fe_19_220 hd _ _ _ _ g0 h
  · rw [if_neg c2] at h
    refine fs_icmp_ne_f (off := 16) (t := 220) (p := 207) (by decide +kernel) (by decide +kernel) rfl c2 ?_
    refine fs_aload_n (k := 0) (p := 208) (by decide +kernel) rfl rfl ?_
    refine fs_bipush (n := 32) (p := 210) (by decide +kernel) rfl kb_32 ?_
    obtain ⟨q4, w3, h⟩ := fx_bd h
    refine fs_callV (idx := 52) (mj := 21) (ci := 2) (na := 1) (mx := 3) (p := 213) (args := [.ref x0, .int (32 : Int32)]) (rest := []) (al2 := [some (.ref x0), some (.int (32 : Int32)), none]) (by decide +kernel) rfl (by decide +kernel) g0 rfl rfl rfl rfl rfl rfl rfl (by omega) (fun d' hd' => fe_21 (by omega) w3) rfl ?_
    by_cases c5 : (fx_b q4.1) = 0
    · rw [if_pos c5] at h
      refine fs_if_eq_t (off := 7) (t := 220) (by decide +kernel) (by decide +kernel) c5 ?_
      exact fe_19_220 hd _ _ _ _ g0 h
    · rw [if_neg c5] at h
      refine fs_if_eq_f (off := 7) (t := 220) (p := 216) (by decide +kernel) (by decide +kernel) rfl c5 ?_
      refine fs_aload_n (k := 0) (p := 217) (by decide +kernel) rfl rfl ?_
      obtain ⟨q7, w6, h⟩ := fx_bd h
      refine fs_callV (idx := 79) (mj := 29) (ci := 2) (na := 0) (mx := 8) (p := 220) (args := [.ref x0]) (rest := []) (al2 := [some (.ref x0), none, none, none, none, none, none, none]) (by decide +kernel) rfl (by decide +kernel) g0 rfl rfl rfl rfl rfl rfl rfl (by omega) (fun d' hd' => fe_29 (by omega) w6) rfl ?_
      exact fe_19_220 hd _ _ _ _ g0 h
def fm_19_198 (x0 : Nat) (x1 : Int32) (s1 : Nat) (s2 : Int32) (σ : fx_S) : Option (fx_S) :=
  (fm_41 s1 s2 σ).bind fun q2 =>
  fm_19_201 x0 x1 q2
theorem fe_19_198 {d : Nat} (hd : 5 ≤ d) (x0 : Nat) (x1 : Int32) (s1 : Nat) (s2 : Int32) (σ : fx_S) (q : fx_S) (g0 : fx_oc x0 2 = true) (gs1 : fx_oc s1 7 = true) (h : fm_19_198  x0 x1 s1 s2 σ = some q) : fx_E none 19 d 198 [some (.ref x0), some (.int x1)] [.int s2, .ref s1, .ref 6] σ (some (.ref x0)) q := by
  unfold fm_19_198 at h
  obtain ⟨q2, w1, h⟩ := fx_bd h
  refine fs_callV (idx := 64) (mj := 41) (ci := 5) (na := 2) (mx := 4) (p := 201) (args := [.ref 6, .ref s1, .int s2]) (rest := []) (al2 := [some (.ref 6), some (.ref s1), some (.int s2), none]) (by decide +kernel) rfl (by decide +kernel) fo_6 rfl rfl rfl rfl rfl rfl rfl (by omega) (fun d' hd' => fe_41 (by omega) w1) rfl ?_
  exact fe_19_201 hd _ _ _ _ g0 h
def fm_19_155 (x0 : Nat) (x1 : Int32) (σ : fx_S) : Option (fx_S) :=
  if ¬ x1 = (16 : Int32) then (
    fm_19_201 x0 x1 σ) else (
    (fm_21 x0 (16 : Int32) σ).bind fun q4 =>
    if (fx_b q4.1) = 0 then (
      fm_19_201 x0 x1 q4.2) else (
      (fm_26 x0 q4.2).bind fun q7 =>
      if ¬ (q7.1 1 7) = (1 : Int32) then (
        fm_19_198 x0 x1 (x0 + 30) (0 : Int32) q7) else (
        fm_19_198 x0 x1 (x0 + 30) (1 : Int32) q7)))
theorem fe_19_155 {d : Nat} (hd : 5 ≤ d) (x0 : Nat) (x1 : Int32) (σ : fx_S) (q : fx_S) (g0 : fx_oc x0 2 = true) (h : fm_19_155  x0 x1 σ = some q) : fx_E none 19 d 155 [some (.ref x0), some (.int x1)] [] σ (some (.ref x0)) q := by
  unfold fm_19_155 at h
  refine fs_iload_n (k := 1) (p := 156) (by decide +kernel) rfl rfl ?_
  refine fs_bipush (n := 16) (p := 158) (by decide +kernel) rfl kb_16 ?_
  by_cases c2 : ¬ x1 = (16 : Int32)
  · rw [if_pos c2] at h
    refine fs_icmp_ne_t (off := 43) (t := 201) (by decide +kernel) (by decide +kernel) c2 ?_
    exact fe_19_201 hd _ _ _ _ g0 h
  · rw [if_neg c2] at h
    refine fs_icmp_ne_f (off := 43) (t := 201) (p := 161) (by decide +kernel) (by decide +kernel) rfl c2 ?_
    refine fs_aload_n (k := 0) (p := 162) (by decide +kernel) rfl rfl ?_
    refine fs_bipush (n := 16) (p := 164) (by decide +kernel) rfl kb_16 ?_
    obtain ⟨q4, w3, h⟩ := fx_bd h
    refine fs_callV (idx := 52) (mj := 21) (ci := 2) (na := 1) (mx := 3) (p := 167) (args := [.ref x0, .int (16 : Int32)]) (rest := []) (al2 := [some (.ref x0), some (.int (16 : Int32)), none]) (by decide +kernel) rfl (by decide +kernel) g0 rfl rfl rfl rfl rfl rfl rfl (by omega) (fun d' hd' => fe_21 (by omega) w3) rfl ?_
    by_cases c5 : (fx_b q4.1) = 0
    · rw [if_pos c5] at h
      refine fs_if_eq_t (off := 34) (t := 201) (by decide +kernel) (by decide +kernel) c5 ?_
      exact fe_19_201 hd _ _ _ _ g0 h
    · rw [if_neg c5] at h
      refine fs_if_eq_f (off := 34) (t := 201) (p := 170) (by decide +kernel) (by decide +kernel) rfl c5 ?_
      refine fs_aload_n (k := 0) (p := 171) (by decide +kernel) rfl rfl ?_
      obtain ⟨q7, w6, h⟩ := fx_bd h
      refine fs_callV (idx := 76) (mj := 26) (ci := 2) (na := 0) (mx := 4) (p := 174) (args := [.ref x0]) (rest := []) (al2 := [some (.ref x0), none, none, none]) (by decide +kernel) rfl (by decide +kernel) g0 rfl rfl rfl rfl rfl rfl rfl (by omega) (fun d' hd' => fe_26 (by omega) w6) rfl ?_
      refine fs_aload_n (k := 0) (p := 175) (by decide +kernel) rfl rfl ?_
      refine fs_gfr (idx := 45) (ci := 2) (j := 11) (p := 178) (by decide +kernel) rfl (by decide +kernel) g0 (fr_2_11 g0) ?_
      refine fs_aload_n (k := 0) (p := 179) (by decide +kernel) rfl rfl ?_
      refine fs_gfr (idx := 31) (ci := 2) (j := 5) (p := 182) (by decide +kernel) rfl (by decide +kernel) g0 (fr_2_5 g0) ?_
      refine fs_aload_n (k := 0) (p := 183) (by decide +kernel) rfl rfl ?_
      refine fs_gfr (idx := 41) (ci := 2) (j := 10) (p := 186) (by decide +kernel) rfl (by decide +kernel) g0 (fr_2_10 g0) ?_
      refine fs_gfi (idx := 59) (ci := 6) (j := 7) (p := 189) (by decide +kernel) rfl (by decide +kernel) fo_1 ?_
      refine fs_iconst (n := 1) (p := 190) (by decide +kernel) rfl kc_1 ?_
      by_cases c9 : ¬ (q7.1 1 7) = (1 : Int32)
      · rw [if_pos c9] at h
        refine fs_icmp_ne_t (off := 7) (t := 197) (by decide +kernel) (by decide +kernel) c9 ?_
        refine fs_iconst (n := 0) (p := 198) (by decide +kernel) rfl kc_0 ?_
        exact fe_19_198 hd _ _ _ _ _ _ g0 (fg_2_5 g0) h
      · rw [if_neg c9] at h
        refine fs_icmp_ne_f (off := 7) (t := 197) (p := 193) (by decide +kernel) (by decide +kernel) rfl c9 ?_
        refine fs_iconst (n := 1) (p := 194) (by decide +kernel) rfl kc_1 ?_
        refine fs_goto (off := 4) (p := 198) (by decide +kernel) (by decide +kernel) ?_
        exact fe_19_198 hd _ _ _ _ _ _ g0 (fg_2_5 g0) h
def fm_19_152 (x0 : Nat) (x1 : Int32) (s1 : Nat) (s2 : Int32) (σ : fx_S) : Option (fx_S) :=
  (fm_41 s1 s2 σ).bind fun q2 =>
  fm_19_155 x0 x1 q2
theorem fe_19_152 {d : Nat} (hd : 5 ≤ d) (x0 : Nat) (x1 : Int32) (s1 : Nat) (s2 : Int32) (σ : fx_S) (q : fx_S) (g0 : fx_oc x0 2 = true) (gs1 : fx_oc s1 7 = true) (h : fm_19_152  x0 x1 s1 s2 σ = some q) : fx_E none 19 d 152 [some (.ref x0), some (.int x1)] [.int s2, .ref s1, .ref 6] σ (some (.ref x0)) q := by
  unfold fm_19_152 at h
  obtain ⟨q2, w1, h⟩ := fx_bd h
  refine fs_callV (idx := 64) (mj := 41) (ci := 5) (na := 2) (mx := 4) (p := 155) (args := [.ref 6, .ref s1, .int s2]) (rest := []) (al2 := [some (.ref 6), some (.ref s1), some (.int s2), none]) (by decide +kernel) rfl (by decide +kernel) fo_6 rfl rfl rfl rfl rfl rfl rfl (by omega) (fun d' hd' => fe_41 (by omega) w1) rfl ?_
  exact fe_19_155 hd _ _ _ _ g0 h
def fm_19_115 (x0 : Nat) (x1 : Int32) (σ : fx_S) : Option (fx_S) :=
  (fm_21 x0 (8 : Int32) σ).bind fun q2 =>
  if (fx_b q2.1) = 0 then (
    fm_19_155 x0 x1 q2.2) else (
    (fm_25 x0 q2.2).bind fun q5 =>
    if ¬ (q5.1 1 7) = (1 : Int32) then (
      fm_19_152 x0 x1 (x0 + 21) (0 : Int32) q5) else (
      fm_19_152 x0 x1 (x0 + 21) (1 : Int32) q5))
theorem fe_19_115 {d : Nat} (hd : 5 ≤ d) (x0 : Nat) (x1 : Int32) (σ : fx_S) (q : fx_S) (g0 : fx_oc x0 2 = true) (h : fm_19_115  x0 x1 σ = some q) : fx_E none 19 d 115 [some (.ref x0), some (.int x1)] [] σ (some (.ref x0)) q := by
  unfold fm_19_115 at h
  refine fs_aload_n (k := 0) (p := 116) (by decide +kernel) rfl rfl ?_
  refine fs_bipush (n := 8) (p := 118) (by decide +kernel) rfl kb_8 ?_
  obtain ⟨q2, w1, h⟩ := fx_bd h
  refine fs_callV (idx := 52) (mj := 21) (ci := 2) (na := 1) (mx := 3) (p := 121) (args := [.ref x0, .int (8 : Int32)]) (rest := []) (al2 := [some (.ref x0), some (.int (8 : Int32)), none]) (by decide +kernel) rfl (by decide +kernel) g0 rfl rfl rfl rfl rfl rfl rfl (by omega) (fun d' hd' => fe_21 (by omega) w1) rfl ?_
  by_cases c3 : (fx_b q2.1) = 0
  · rw [if_pos c3] at h
    refine fs_if_eq_t (off := 34) (t := 155) (by decide +kernel) (by decide +kernel) c3 ?_
    exact fe_19_155 hd _ _ _ _ g0 h
  · rw [if_neg c3] at h
    refine fs_if_eq_f (off := 34) (t := 155) (p := 124) (by decide +kernel) (by decide +kernel) rfl c3 ?_
    refine fs_aload_n (k := 0) (p := 125) (by decide +kernel) rfl rfl ?_
    obtain ⟨q5, w4, h⟩ := fx_bd h
    refine fs_callV (idx := 73) (mj := 25) (ci := 2) (na := 0) (mx := 6) (p := 128) (args := [.ref x0]) (rest := []) (al2 := [some (.ref x0), none, none, none, none, none]) (by decide +kernel) rfl (by decide +kernel) g0 rfl rfl rfl rfl rfl rfl rfl (by omega) (fun d' hd' => fe_25 (by omega) w4) rfl ?_
    refine fs_aload_n (k := 0) (p := 129) (by decide +kernel) rfl rfl ?_
    refine fs_gfr (idx := 45) (ci := 2) (j := 11) (p := 132) (by decide +kernel) rfl (by decide +kernel) g0 (fr_2_11 g0) ?_
    refine fs_aload_n (k := 0) (p := 133) (by decide +kernel) rfl rfl ?_
    refine fs_gfr (idx := 28) (ci := 2) (j := 4) (p := 136) (by decide +kernel) rfl (by decide +kernel) g0 (fr_2_4 g0) ?_
    refine fs_aload_n (k := 0) (p := 137) (by decide +kernel) rfl rfl ?_
    refine fs_gfr (idx := 41) (ci := 2) (j := 10) (p := 140) (by decide +kernel) rfl (by decide +kernel) g0 (fr_2_10 g0) ?_
    refine fs_gfi (idx := 59) (ci := 6) (j := 7) (p := 143) (by decide +kernel) rfl (by decide +kernel) fo_1 ?_
    refine fs_iconst (n := 1) (p := 144) (by decide +kernel) rfl kc_1 ?_
    by_cases c7 : ¬ (q5.1 1 7) = (1 : Int32)
    · rw [if_pos c7] at h
      refine fs_icmp_ne_t (off := 7) (t := 151) (by decide +kernel) (by decide +kernel) c7 ?_
      refine fs_iconst (n := 0) (p := 152) (by decide +kernel) rfl kc_0 ?_
      exact fe_19_152 hd _ _ _ _ _ _ g0 (fg_2_4 g0) h
    · rw [if_neg c7] at h
      refine fs_icmp_ne_f (off := 7) (t := 151) (p := 147) (by decide +kernel) (by decide +kernel) rfl c7 ?_
      refine fs_iconst (n := 1) (p := 148) (by decide +kernel) rfl kc_1 ?_
      refine fs_goto (off := 4) (p := 152) (by decide +kernel) (by decide +kernel) ?_
      exact fe_19_152 hd _ _ _ _ _ _ g0 (fg_2_4 g0) h
def fm_19_103 (x0 : Nat) (x1 : Int32) (σ : fx_S) : Option (fx_S) :=
  if x1 = (8 : Int32) then (
    fm_19_115 x0 x1 σ) else (
    if ¬ x1 = (16 : Int32) then (
      fm_19_155 x0 x1 σ) else (
      fm_19_115 x0 x1 σ))
theorem fe_19_103 {d : Nat} (hd : 5 ≤ d) (x0 : Nat) (x1 : Int32) (σ : fx_S) (q : fx_S) (g0 : fx_oc x0 2 = true) (h : fm_19_103  x0 x1 σ = some q) : fx_E none 19 d 103 [some (.ref x0), some (.int x1)] [] σ (some (.ref x0)) q := by
  unfold fm_19_103 at h
  refine fs_iload_n (k := 1) (p := 104) (by decide +kernel) rfl rfl ?_
  refine fs_bipush (n := 8) (p := 106) (by decide +kernel) rfl kb_8 ?_
  by_cases c2 : x1 = (8 : Int32)
  · rw [if_pos c2] at h
    refine fs_icmp_eq_t (off := 9) (t := 115) (by decide +kernel) (by decide +kernel) c2 ?_
    exact fe_19_115 hd _ _ _ _ g0 h
  · rw [if_neg c2] at h
    refine fs_icmp_eq_f (off := 9) (t := 115) (p := 109) (by decide +kernel) (by decide +kernel) rfl c2 ?_
    refine fs_iload_n (k := 1) (p := 110) (by decide +kernel) rfl rfl ?_
    refine fs_bipush (n := 16) (p := 112) (by decide +kernel) rfl kb_16 ?_
    by_cases c3 : ¬ x1 = (16 : Int32)
    · rw [if_pos c3] at h
      refine fs_icmp_ne_t (off := 43) (t := 155) (by decide +kernel) (by decide +kernel) c3 ?_
      exact fe_19_155 hd _ _ _ _ g0 h
    · rw [if_neg c3] at h
      refine fs_icmp_ne_f (off := 43) (t := 155) (p := 115) (by decide +kernel) (by decide +kernel) rfl c3 ?_
      exact fe_19_115 hd _ _ _ _ g0 h
def fm_19_100 (x0 : Nat) (x1 : Int32) (s1 : Nat) (s2 : Int32) (σ : fx_S) : Option (fx_S) :=
  (fm_41 s1 s2 σ).bind fun q2 =>
  fm_19_103 x0 x1 q2
theorem fe_19_100 {d : Nat} (hd : 5 ≤ d) (x0 : Nat) (x1 : Int32) (s1 : Nat) (s2 : Int32) (σ : fx_S) (q : fx_S) (g0 : fx_oc x0 2 = true) (gs1 : fx_oc s1 7 = true) (h : fm_19_100  x0 x1 s1 s2 σ = some q) : fx_E none 19 d 100 [some (.ref x0), some (.int x1)] [.int s2, .ref s1, .ref 6] σ (some (.ref x0)) q := by
  unfold fm_19_100 at h
  obtain ⟨q2, w1, h⟩ := fx_bd h
  refine fs_callV (idx := 64) (mj := 41) (ci := 5) (na := 2) (mx := 4) (p := 103) (args := [.ref 6, .ref s1, .int s2]) (rest := []) (al2 := [some (.ref 6), some (.ref s1), some (.int s2), none]) (by decide +kernel) rfl (by decide +kernel) fo_6 rfl rfl rfl rfl rfl rfl rfl (by omega) (fun d' hd' => fe_41 (by omega) w1) rfl ?_
  exact fe_19_103 hd _ _ _ _ g0 h
def fm_19_59 (x0 : Nat) (x1 : Int32) (σ : fx_S) : Option (fx_S) :=
  if ¬ x1 = (4 : Int32) then (
    fm_19_103 x0 x1 σ) else (
    (fm_21 x0 (4 : Int32) σ).bind fun q4 =>
    if (fx_b q4.1) = 0 then (
      fm_19_103 x0 x1 q4.2) else (
      (fm_24 x0 q4.2).bind fun q7 =>
      if ¬ (q7.1 1 7) = (1 : Int32) then (
        fm_19_100 x0 x1 (x0 + 12) (0 : Int32) q7) else (
        fm_19_100 x0 x1 (x0 + 12) (1 : Int32) q7)))
theorem fe_19_59 {d : Nat} (hd : 5 ≤ d) (x0 : Nat) (x1 : Int32) (σ : fx_S) (q : fx_S) (g0 : fx_oc x0 2 = true) (h : fm_19_59  x0 x1 σ = some q) : fx_E none 19 d 59 [some (.ref x0), some (.int x1)] [] σ (some (.ref x0)) q := by
  unfold fm_19_59 at h
  refine fs_iload_n (k := 1) (p := 60) (by decide +kernel) rfl rfl ?_
  refine fs_iconst (n := 4) (p := 61) (by decide +kernel) rfl kc_4 ?_
  by_cases c2 : ¬ x1 = (4 : Int32)
  · rw [if_pos c2] at h
    refine fs_icmp_ne_t (off := 42) (t := 103) (by decide +kernel) (by decide +kernel) c2 ?_
    exact fe_19_103 hd _ _ _ _ g0 h
  · rw [if_neg c2] at h
    refine fs_icmp_ne_f (off := 42) (t := 103) (p := 64) (by decide +kernel) (by decide +kernel) rfl c2 ?_
    refine fs_aload_n (k := 0) (p := 65) (by decide +kernel) rfl rfl ?_
    refine fs_iconst (n := 4) (p := 66) (by decide +kernel) rfl kc_4 ?_
    obtain ⟨q4, w3, h⟩ := fx_bd h
    refine fs_callV (idx := 52) (mj := 21) (ci := 2) (na := 1) (mx := 3) (p := 69) (args := [.ref x0, .int (4 : Int32)]) (rest := []) (al2 := [some (.ref x0), some (.int (4 : Int32)), none]) (by decide +kernel) rfl (by decide +kernel) g0 rfl rfl rfl rfl rfl rfl rfl (by omega) (fun d' hd' => fe_21 (by omega) w3) rfl ?_
    by_cases c5 : (fx_b q4.1) = 0
    · rw [if_pos c5] at h
      refine fs_if_eq_t (off := 34) (t := 103) (by decide +kernel) (by decide +kernel) c5 ?_
      exact fe_19_103 hd _ _ _ _ g0 h
    · rw [if_neg c5] at h
      refine fs_if_eq_f (off := 34) (t := 103) (p := 72) (by decide +kernel) (by decide +kernel) rfl c5 ?_
      refine fs_aload_n (k := 0) (p := 73) (by decide +kernel) rfl rfl ?_
      obtain ⟨q7, w6, h⟩ := fx_bd h
      refine fs_callV (idx := 70) (mj := 24) (ci := 2) (na := 0) (mx := 4) (p := 76) (args := [.ref x0]) (rest := []) (al2 := [some (.ref x0), none, none, none]) (by decide +kernel) rfl (by decide +kernel) g0 rfl rfl rfl rfl rfl rfl rfl (by omega) (fun d' hd' => fe_24 (by omega) w6) rfl ?_
      refine fs_aload_n (k := 0) (p := 77) (by decide +kernel) rfl rfl ?_
      refine fs_gfr (idx := 45) (ci := 2) (j := 11) (p := 80) (by decide +kernel) rfl (by decide +kernel) g0 (fr_2_11 g0) ?_
      refine fs_aload_n (k := 0) (p := 81) (by decide +kernel) rfl rfl ?_
      refine fs_gfr (idx := 25) (ci := 2) (j := 3) (p := 84) (by decide +kernel) rfl (by decide +kernel) g0 (fr_2_3 g0) ?_
      refine fs_aload_n (k := 0) (p := 85) (by decide +kernel) rfl rfl ?_
      refine fs_gfr (idx := 41) (ci := 2) (j := 10) (p := 88) (by decide +kernel) rfl (by decide +kernel) g0 (fr_2_10 g0) ?_
      refine fs_gfi (idx := 59) (ci := 6) (j := 7) (p := 91) (by decide +kernel) rfl (by decide +kernel) fo_1 ?_
      refine fs_iconst (n := 1) (p := 92) (by decide +kernel) rfl kc_1 ?_
      by_cases c9 : ¬ (q7.1 1 7) = (1 : Int32)
      · rw [if_pos c9] at h
        refine fs_icmp_ne_t (off := 7) (t := 99) (by decide +kernel) (by decide +kernel) c9 ?_
        refine fs_iconst (n := 0) (p := 100) (by decide +kernel) rfl kc_0 ?_
        exact fe_19_100 hd _ _ _ _ _ _ g0 (fg_2_3 g0) h
      · rw [if_neg c9] at h
        refine fs_icmp_ne_f (off := 7) (t := 99) (p := 95) (by decide +kernel) (by decide +kernel) rfl c9 ?_
        refine fs_iconst (n := 1) (p := 96) (by decide +kernel) rfl kc_1 ?_
        refine fs_goto (off := 4) (p := 100) (by decide +kernel) (by decide +kernel) ?_
        exact fe_19_100 hd _ _ _ _ _ _ g0 (fg_2_3 g0) h
def fm_19_56 (x0 : Nat) (x1 : Int32) (s1 : Nat) (s2 : Int32) (σ : fx_S) : Option (fx_S) :=
  (fm_41 s1 s2 σ).bind fun q2 =>
  fm_19_59 x0 x1 q2
theorem fe_19_56 {d : Nat} (hd : 5 ≤ d) (x0 : Nat) (x1 : Int32) (s1 : Nat) (s2 : Int32) (σ : fx_S) (q : fx_S) (g0 : fx_oc x0 2 = true) (gs1 : fx_oc s1 7 = true) (h : fm_19_56  x0 x1 s1 s2 σ = some q) : fx_E none 19 d 56 [some (.ref x0), some (.int x1)] [.int s2, .ref s1, .ref 6] σ (some (.ref x0)) q := by
  unfold fm_19_56 at h
  obtain ⟨q2, w1, h⟩ := fx_bd h
  refine fs_callV (idx := 64) (mj := 41) (ci := 5) (na := 2) (mx := 4) (p := 59) (args := [.ref 6, .ref s1, .int s2]) (rest := []) (al2 := [some (.ref 6), some (.ref s1), some (.int s2), none]) (by decide +kernel) rfl (by decide +kernel) fo_6 rfl rfl rfl rfl rfl rfl rfl (by omega) (fun d' hd' => fe_41 (by omega) w1) rfl ?_
  exact fe_19_59 hd _ _ _ _ g0 h
def fm_19_20 (x0 : Nat) (x1 : Int32) (σ : fx_S) : Option (fx_S) :=
  (fm_21 x0 (2 : Int32) σ).bind fun q2 =>
  if (fx_b q2.1) = 0 then (
    fm_19_59 x0 x1 q2.2) else (
    (fm_23 x0 q2.2).bind fun q5 =>
    if ¬ (q5.1 1 7) = (1 : Int32) then (
      fm_19_56 x0 x1 (x0 + 3) (0 : Int32) q5) else (
      fm_19_56 x0 x1 (x0 + 3) (1 : Int32) q5))
theorem fe_19_20 {d : Nat} (hd : 5 ≤ d) (x0 : Nat) (x1 : Int32) (σ : fx_S) (q : fx_S) (g0 : fx_oc x0 2 = true) (h : fm_19_20  x0 x1 σ = some q) : fx_E none 19 d 20 [some (.ref x0), some (.int x1)] [] σ (some (.ref x0)) q := by
  unfold fm_19_20 at h
  refine fs_aload_n (k := 0) (p := 21) (by decide +kernel) rfl rfl ?_
  refine fs_iconst (n := 2) (p := 22) (by decide +kernel) rfl kc_2 ?_
  obtain ⟨q2, w1, h⟩ := fx_bd h
  refine fs_callV (idx := 52) (mj := 21) (ci := 2) (na := 1) (mx := 3) (p := 25) (args := [.ref x0, .int (2 : Int32)]) (rest := []) (al2 := [some (.ref x0), some (.int (2 : Int32)), none]) (by decide +kernel) rfl (by decide +kernel) g0 rfl rfl rfl rfl rfl rfl rfl (by omega) (fun d' hd' => fe_21 (by omega) w1) rfl ?_
  by_cases c3 : (fx_b q2.1) = 0
  · rw [if_pos c3] at h
    refine fs_if_eq_t (off := 34) (t := 59) (by decide +kernel) (by decide +kernel) c3 ?_
    exact fe_19_59 hd _ _ _ _ g0 h
  · rw [if_neg c3] at h
    refine fs_if_eq_f (off := 34) (t := 59) (p := 28) (by decide +kernel) (by decide +kernel) rfl c3 ?_
    refine fs_aload_n (k := 0) (p := 29) (by decide +kernel) rfl rfl ?_
    obtain ⟨q5, w4, h⟩ := fx_bd h
    refine fs_callV (idx := 56) (mj := 23) (ci := 2) (na := 0) (mx := 4) (p := 32) (args := [.ref x0]) (rest := []) (al2 := [some (.ref x0), none, none, none]) (by decide +kernel) rfl (by decide +kernel) g0 rfl rfl rfl rfl rfl rfl rfl (by omega) (fun d' hd' => fe_23 (by omega) w4) rfl ?_
    refine fs_aload_n (k := 0) (p := 33) (by decide +kernel) rfl rfl ?_
    refine fs_gfr (idx := 45) (ci := 2) (j := 11) (p := 36) (by decide +kernel) rfl (by decide +kernel) g0 (fr_2_11 g0) ?_
    refine fs_aload_n (k := 0) (p := 37) (by decide +kernel) rfl rfl ?_
    refine fs_gfr (idx := 21) (ci := 2) (j := 2) (p := 40) (by decide +kernel) rfl (by decide +kernel) g0 (fr_2_2 g0) ?_
    refine fs_aload_n (k := 0) (p := 41) (by decide +kernel) rfl rfl ?_
    refine fs_gfr (idx := 41) (ci := 2) (j := 10) (p := 44) (by decide +kernel) rfl (by decide +kernel) g0 (fr_2_10 g0) ?_
    refine fs_gfi (idx := 59) (ci := 6) (j := 7) (p := 47) (by decide +kernel) rfl (by decide +kernel) fo_1 ?_
    refine fs_iconst (n := 1) (p := 48) (by decide +kernel) rfl kc_1 ?_
    by_cases c7 : ¬ (q5.1 1 7) = (1 : Int32)
    · rw [if_pos c7] at h
      refine fs_icmp_ne_t (off := 7) (t := 55) (by decide +kernel) (by decide +kernel) c7 ?_
      refine fs_iconst (n := 0) (p := 56) (by decide +kernel) rfl kc_0 ?_
      exact fe_19_56 hd _ _ _ _ _ _ g0 (fg_2_2 g0) h
    · rw [if_neg c7] at h
      refine fs_icmp_ne_f (off := 7) (t := 55) (p := 51) (by decide +kernel) (by decide +kernel) rfl c7 ?_
      refine fs_iconst (n := 1) (p := 52) (by decide +kernel) rfl kc_1 ?_
      refine fs_goto (off := 4) (p := 56) (by decide +kernel) (by decide +kernel) ?_
      exact fe_19_56 hd _ _ _ _ _ _ g0 (fg_2_2 g0) h
def fm_19 (x0 : Nat) (x1 : Int32) (σ : fx_S) : Option (fx_S) :=
  if fx_oc x0 2 = true then (
  (fm_20 x0 σ).bind fun q58 =>
  if x1 = (2 : Int32) then (
    fm_19_20 x0 x1 q58) else (
    if x1 = (4 : Int32) then (
      fm_19_20 x0 x1 q58) else (
      if ¬ x1 = (32 : Int32) then (
        fm_19_59 x0 x1 q58) else (
        fm_19_20 x0 x1 q58)))) else none
theorem fe_19 {d : Nat} (hd : 5 ≤ d) {x0 : Nat} {x1 : Int32} {σ : fx_S} {q : fx_S} (h : fm_19 x0 x1 σ = some q) : fx_E none 19 d 0 [some (.ref x0), some (.int x1)] [] σ (some (.ref x0)) q := by
  unfold fm_19 at h
  obtain ⟨g0, h⟩ := fx_gd h
  refine fs_aload_n (k := 0) (p := 1) (by decide +kernel) rfl rfl ?_
  obtain ⟨q58, w57, h⟩ := fx_bd h
  refine fs_callV (idx := 49) (mj := 20) (ci := 2) (na := 0) (mx := 1) (p := 4) (args := [.ref x0]) (rest := []) (al2 := [some (.ref x0)]) (by decide +kernel) rfl (by decide +kernel) g0 rfl rfl rfl rfl rfl rfl rfl (by omega) (fun d' hd' => fe_20 (by omega) w57) rfl ?_
  refine fs_iload_n (k := 1) (p := 5) (by decide +kernel) rfl rfl ?_
  refine fs_iconst (n := 2) (p := 6) (by decide +kernel) rfl kc_2 ?_
  by_cases c60 : x1 = (2 : Int32)
  · rw [if_pos c60] at h
    refine fs_icmp_eq_t (off := 14) (t := 20) (by decide +kernel) (by decide +kernel) c60 ?_
    exact fe_19_20 hd _ _ _ _ g0 h
  · rw [if_neg c60] at h
    refine fs_icmp_eq_f (off := 14) (t := 20) (p := 9) (by decide +kernel) (by decide +kernel) rfl c60 ?_
    refine fs_iload_n (k := 1) (p := 10) (by decide +kernel) rfl rfl ?_
    refine fs_iconst (n := 4) (p := 11) (by decide +kernel) rfl kc_4 ?_
    by_cases c61 : x1 = (4 : Int32)
    · rw [if_pos c61] at h
      refine fs_icmp_eq_t (off := 9) (t := 20) (by decide +kernel) (by decide +kernel) c61 ?_
      exact fe_19_20 hd _ _ _ _ g0 h
    · rw [if_neg c61] at h
      refine fs_icmp_eq_f (off := 9) (t := 20) (p := 14) (by decide +kernel) (by decide +kernel) rfl c61 ?_
      refine fs_iload_n (k := 1) (p := 15) (by decide +kernel) rfl rfl ?_
      refine fs_bipush (n := 32) (p := 17) (by decide +kernel) rfl kb_32 ?_
      by_cases c62 : ¬ x1 = (32 : Int32)
      · rw [if_pos c62] at h
        refine fs_icmp_ne_t (off := 42) (t := 59) (by decide +kernel) (by decide +kernel) c62 ?_
        exact fe_19_59 hd _ _ _ _ g0 h
      · rw [if_neg c62] at h
        refine fs_icmp_ne_f (off := 42) (t := 59) (p := 20) (by decide +kernel) (by decide +kernel) rfl c62 ?_
        exact fe_19_20 hd _ _ _ _ g0 h

/-! ZoneShares.adopt()I -/
theorem mx_93 : iv_mx 93 = 3 := by decide +kernel
theorem rt_93 : iv_rt 93 = some .int := by decide +kernel
def fm_93_44 : Nat → Int32 → Int32 → fx_S → Option (Int32 × fx_S)
  | 0, _, _, _ => none
  | n + 1, x1, x2, σ =>
    if (3 : Int32) ≤ x2 then (
      (fx_cpy σ 2 (96 : Int32) 2 (0 : Int32) (96 : Int32)).bind fun t3 =>
      some (x1, t3)) else (
      (fm_122 x2 σ).bind fun q6 =>
      fm_93_44 n (x1 + q6.1) (x2 + (1 : Int32)) q6.2)
theorem fe_93_44 {d : Nat} (hd : 6 ≤ d) : ∀ (n : Nat) (x1 : Int32) (x2 : Int32) (σ : fx_S) (q : Int32 × fx_S), fm_93_44 n x1 x2 σ = some q → fx_E none 93 d 44 [some (.ref 0), some (.int x1), some (.int x2)] [] σ (some (.int q.1)) q.2 := by
  intro n
  induction n with
  | zero =>
    intro x1 x2 σ q  h
    rw [fm_93_44] at h
    exact fx_no h
  | succ n ih =>
    intro x1 x2 σ q  h
    rw [fm_93_44] at h
    refine fs_iload_n (k := 2) (p := 45) (by decide +kernel) rfl rfl ?_
    refine fs_iconst (n := 3) (p := 46) (by decide +kernel) rfl kc_3 ?_
    by_cases c2 : (3 : Int32) ≤ x2
    · rw [if_pos c2] at h
      refine fs_icmp_ge_t (off := 17) (t := 63) (by decide +kernel) (by decide +kernel) c2 ?_
      refine fs_aload_n (k := 0) (p := 64) (by decide +kernel) rfl rfl ?_
      refine fs_gfr (idx := 13) (ci := 9) (j := 1) (p := 67) (by decide +kernel) rfl (by decide +kernel) fo_0 (fr_a0_1) ?_
      refine fs_gfr (idx := 157) (ci := 6) (j := 0) (p := 70) (by decide +kernel) rfl (by decide +kernel) fo_1 (fr_a1_0) ?_
      refine fs_bipush (n := 96) (p := 72) (by decide +kernel) rfl kb_96 ?_
      refine fs_aload_n (k := 0) (p := 73) (by decide +kernel) rfl rfl ?_
      refine fs_gfr (idx := 13) (ci := 9) (j := 1) (p := 76) (by decide +kernel) rfl (by decide +kernel) fo_0 (fr_a0_1) ?_
      refine fs_gfr (idx := 157) (ci := 6) (j := 0) (p := 79) (by decide +kernel) rfl (by decide +kernel) fo_1 (fr_a1_0) ?_
      refine fs_iconst (n := 0) (p := 80) (by decide +kernel) rfl kc_0 ?_
      refine fs_bipush (n := 96) (p := 82) (by decide +kernel) rfl kb_96 ?_
      obtain ⟨t3, w4, h⟩ := fx_bd h
      refine fs_cpy (idx := 106) (p := 85) (by decide +kernel) rfl (by decide +kernel) rfl w4 ?_
      refine fs_iload_n (k := 1) (p := 86) (by decide +kernel) rfl rfl ?_
      have h := Option.some.inj h
      subst h
      exact fs_iret (by decide +kernel) rt_93
    · rw [if_neg c2] at h
      refine fs_icmp_ge_f (off := 17) (t := 63) (p := 49) (by decide +kernel) (by decide +kernel) rfl c2 ?_
      refine fs_iload_n (k := 1) (p := 50) (by decide +kernel) rfl rfl ?_
      refine fs_aload_n (k := 0) (p := 51) (by decide +kernel) rfl rfl ?_
      refine fs_iload_n (k := 2) (p := 52) (by decide +kernel) rfl rfl ?_
      obtain ⟨q6, w5, h⟩ := fx_bd h
      refine fs_callV (idx := 154) (mj := 122) (ci := 9) (na := 1) (mx := 6) (p := 55) (args := [.ref 0, .int x2]) (rest := [.int x1]) (al2 := [some (.ref 0), some (.int x2), none, none, none, none]) (by decide +kernel) rfl (by decide +kernel) fo_0 rfl rfl rfl rfl rfl rfl rfl (by omega) (fun d' hd' => fe_122 (by omega) w5) rfl ?_
      refine fs_iadd (p := 56) (by decide +kernel) rfl ?_
      refine fs_istore_n (k := 1) (p := 57) (M := 3) (al' := [some (.ref 0), some (.int (x1 + q6.1)), some (.int x2)]) (by decide +kernel) rfl mx_93 rfl rfl ?_
      refine fs_iinc (k := 2) (n := 1) (p := 60) (M := 3) (al' := [some (.ref 0), some (.int (x1 + q6.1)), some (.int (x2 + (1 : Int32)))]) (by decide +kernel) rfl kc_1 mx_93 rfl rfl rfl ?_
      refine fs_goto (off := -16) (p := 44) (by decide +kernel) (by decide +kernel) ?_
      exact ih _ _ _ _ h
def fm_93_14 : Nat → Int32 → fx_S → Option (Int32 × fx_S)
  | 0, _, _ => none
  | n + 1, x1, σ =>
    if (3 : Int32) ≤ x1 then (
      (fm_119 σ).bind fun q4 =>
      fm_93_44 100000 (0 : Int32) (0 : Int32) q4) else (
      (fx_ldr 4 70 x1).bind fun v5 =>
      (fm_19 v5 (2 : Int32) σ).bind fun q10 =>
      fm_93_14 n (x1 + (1 : Int32)) q10)
theorem fe_93_14 {d : Nat} (hd : 6 ≤ d) : ∀ (n : Nat) (x1 : Int32) (σ : fx_S) (q : Int32 × fx_S), fm_93_14 n x1 σ = some q → fx_E none 93 d 14 [some (.ref 0), some (.int x1), none] [] σ (some (.int q.1)) q.2 := by
  intro n
  induction n with
  | zero =>
    intro x1 σ q  h
    rw [fm_93_14] at h
    exact fx_no h
  | succ n ih =>
    intro x1 σ q  h
    rw [fm_93_14] at h
    refine fs_iload_n (k := 1) (p := 15) (by decide +kernel) rfl rfl ?_
    refine fs_iconst (n := 3) (p := 16) (by decide +kernel) rfl kc_3 ?_
    by_cases c2 : (3 : Int32) ≤ x1
    · rw [if_pos c2] at h
      refine fs_icmp_ge_t (off := 20) (t := 36) (by decide +kernel) (by decide +kernel) c2 ?_
      refine fs_aload_n (k := 0) (p := 37) (by decide +kernel) rfl rfl ?_
      obtain ⟨q4, w3, h⟩ := fx_bd h
      refine fs_callV (idx := 83) (mj := 119) (ci := 9) (na := 0) (mx := 1) (p := 40) (args := [.ref 0]) (rest := []) (al2 := [some (.ref 0)]) (by decide +kernel) rfl (by decide +kernel) fo_0 rfl rfl rfl rfl rfl rfl rfl (by omega) (fun d' hd' => fe_119 (by omega) w3) rfl ?_
      refine fs_iconst (n := 0) (p := 41) (by decide +kernel) rfl kc_0 ?_
      refine fs_istore_n (k := 1) (p := 42) (M := 3) (al' := [some (.ref 0), some (.int (0 : Int32)), none]) (by decide +kernel) rfl mx_93 rfl rfl ?_
      refine fs_iconst (n := 0) (p := 43) (by decide +kernel) rfl kc_0 ?_
      refine fs_istore_n (k := 2) (p := 44) (M := 3) (al' := [some (.ref 0), some (.int (0 : Int32)), some (.int (0 : Int32))]) (by decide +kernel) rfl mx_93 rfl rfl ?_
      exact fe_93_44 hd 100000 _ _ _ _ h
    · rw [if_neg c2] at h
      refine fs_icmp_ge_f (off := 20) (t := 36) (p := 19) (by decide +kernel) (by decide +kernel) rfl c2 ?_
      refine fs_aload_n (k := 0) (p := 20) (by decide +kernel) rfl rfl ?_
      refine fs_gfr (idx := 60) (ci := 9) (j := 6) (p := 23) (by decide +kernel) rfl (by decide +kernel) fo_0 (fr_a0_6) ?_
      refine fs_iload_n (k := 1) (p := 24) (by decide +kernel) rfl rfl ?_
      obtain ⟨v5, w6, h⟩ := fx_bd h
      have g7 := fa_70 w6
      refine fs_aaload (t := 4) (p := 25) (by decide +kernel) rfl (by decide +kernel) w6 ?_
      refine fs_iconst (n := 2) (p := 26) (by decide +kernel) rfl kc_2 ?_
      obtain ⟨q10, w9, h⟩ := fx_bd h
      refine fs_callV (idx := 150) (mj := 19) (ci := 2) (na := 1) (mx := 2) (p := 29) (args := [.ref v5, .int (2 : Int32)]) (rest := []) (al2 := [some (.ref v5), some (.int (2 : Int32))]) (by decide +kernel) rfl (by decide +kernel) g7 rfl rfl rfl rfl rfl rfl rfl (by omega) (fun d' hd' => fe_19 (by omega) w9) rfl ?_
      refine fs_pop (p := 30) (by decide +kernel) rfl rfl ?_
      refine fs_iinc (k := 1) (n := 1) (p := 33) (M := 3) (al' := [some (.ref 0), some (.int (x1 + (1 : Int32))), none]) (by decide +kernel) rfl kc_1 mx_93 rfl rfl rfl ?_
      refine fs_goto (off := -19) (p := 14) (by decide +kernel) (by decide +kernel) ?_
      exact ih _ _ _ h
def fm_93 (σ : fx_S) : Option (Int32 × fx_S) :=
  (fm_57 1 σ).bind fun q21 =>
  if ¬ (fx_b q21.1) = 0 then (
    fm_93_14 100000 (0 : Int32) q21.2) else (
    some ((-1 : Int32), q21.2))
theorem fe_93 {d : Nat} (hd : 6 ≤ d) {σ : fx_S} {q : Int32 × fx_S} (h : fm_93 σ = some q) : fx_E none 93 d 0 [some (.ref 0), none, none] [] σ (some (.int q.1)) q.2 := by
  unfold fm_93 at h
  refine fs_aload_n (k := 0) (p := 1) (by decide +kernel) rfl rfl ?_
  refine fs_gfr (idx := 13) (ci := 9) (j := 1) (p := 4) (by decide +kernel) rfl (by decide +kernel) fo_0 (fr_a0_1) ?_
  obtain ⟨q21, w20, h⟩ := fx_bd h
  refine fs_callV (idx := 146) (mj := 57) (ci := 6) (na := 0) (mx := 1) (p := 7) (args := [.ref 1]) (rest := []) (al2 := [some (.ref 1)]) (by decide +kernel) rfl (by decide +kernel) fo_1 rfl rfl rfl rfl rfl rfl rfl (by omega) (fun d' hd' => fe_57 (by omega) w20) rfl ?_
  by_cases c22 : ¬ (fx_b q21.1) = 0
  · rw [if_pos c22] at h
    refine fs_if_ne_t (off := 5) (t := 12) (by decide +kernel) (by decide +kernel) c22 ?_
    refine fs_iconst (n := 0) (p := 13) (by decide +kernel) rfl kc_0 ?_
    refine fs_istore_n (k := 1) (p := 14) (M := 3) (al' := [some (.ref 0), some (.int (0 : Int32)), none]) (by decide +kernel) rfl mx_93 rfl rfl ?_
    exact fe_93_14 hd 100000 _ _ _ h
  · rw [if_neg c22] at h
    refine fs_if_ne_f (off := 5) (t := 12) (p := 10) (by decide +kernel) (by decide +kernel) rfl c22 ?_
    refine fs_iconst (n := -1) (p := 11) (by decide +kernel) rfl kc_m1 ?_
    have h := Option.some.inj h
    subst h
    exact fs_iret (by decide +kernel) rt_93
end
