/-! ZoneSharesModel.newCells(I)I -/
theorem mx_202 : iv_mx 202 = 4 := by decide +kernel
theorem rt_202 : iv_rt 202 = some .int := by decide +kernel
def fm_202_28 (k_4 : Int32 → Int32 → Int32 → fx_S → Option (Int32 × fx_S)) (x1 : Int32) (x3 : Int32) (s0 : Int32) (s1 : Int32) (σ : fx_S) : Option (Int32 × fx_S) :=
  (fm_131 s1 σ).bind fun q2 =>
  k_4 x1 (s0 + q2.1) (x3 + (1 : Int32)) q2.2
theorem fe_202_28 {d : Nat} (hd : 1 ≤ d) {k_4 : Int32 → Int32 → Int32 → fx_S → Option (Int32 × fx_S)} (hk_4 : ∀ (x1 : Int32) (x2 : Int32) (x3 : Int32) (σ : fx_S) (q : Int32 × fx_S), k_4 x1 x2 x3 σ = some q → fx_E none 202 d 4 [some (.ref 215), some (.int x1), some (.int x2), some (.int x3)] [] σ (some (.int q.1)) q.2) (x1 : Int32) (x3 : Int32) (s0 : Int32) (s1 : Int32) (o2 : Option Value) (σ : fx_S) (q : Int32 × fx_S) (h : fm_202_28 k_4  x1 x3 s0 s1 σ = some q) : fx_E none 202 d 28 [some (.ref 215), some (.int x1), o2, some (.int x3)] [.int s1, .int s0] σ (some (.int q.1)) q.2 := by
  unfold fm_202_28 at h
  obtain ⟨q2, w1, h⟩ := fx_bd h
  refine fs_callS (idx := 186) (mj := 131) (na := 1) (mx := 1) (p := 31) (args := [.int s1]) (rest := [.int s0]) (al2 := [some (.int s1)]) (by decide +kernel) rfl (by decide +kernel) rfl rfl rfl rfl rfl rfl rfl (by omega) (fun d' hd' => fe_131 (by omega) w1) rfl ?_
  refine fs_iadd (p := 32) (by decide +kernel) rfl ?_
  refine fs_istore_n (k := 2) (p := 33) (M := 4) (al' := [some (.ref 215), some (.int x1), some (.int (s0 + q2.1)), some (.int x3)]) (by decide +kernel) rfl mx_202 rfl rfl ?_
  refine fs_iinc (k := 3) (n := 1) (p := 36) (M := 4) (al' := [some (.ref 215), some (.int x1), some (.int (s0 + q2.1)), some (.int (x3 + (1 : Int32)))]) (by decide +kernel) rfl kc_1 mx_202 rfl rfl rfl ?_
  refine fs_goto (off := -32) (p := 4) (by decide +kernel) (by decide +kernel) ?_
  exact hk_4 _ _ _ _ _ h
def fm_202_4 : Nat → Int32 → Int32 → Int32 → fx_S → Option (Int32 × fx_S)
  | 0, _, _, _, _ => none
  | n + 1, x1, x2, x3, σ =>
    (fm_151 σ).bind fun q2 =>
    if q2.1 ≤ x3 then (
      some (x2, q2.2)) else (
      (fm_152 (1 : Int32) x3 q2.2).bind fun q7 =>
      if ¬ q7.1 = x1 then (
        fm_202_28 (fm_202_4 n) x1 x3 x2 (0 : Int32) q7.2) else (
        fm_202_28 (fm_202_4 n) x1 x3 x2 (1 : Int32) q7.2))
theorem fe_202_4 {d : Nat} (hd : 1 ≤ d) : ∀ (n : Nat) (x1 : Int32) (x2 : Int32) (x3 : Int32) (σ : fx_S) (q : Int32 × fx_S), fm_202_4 n x1 x2 x3 σ = some q → fx_E none 202 d 4 [some (.ref 215), some (.int x1), some (.int x2), some (.int x3)] [] σ (some (.int q.1)) q.2 := by
  intro n
  induction n with
  | zero =>
    intro x1 x2 x3 σ q  h
    rw [fm_202_4] at h
    exact fx_no h
  | succ n ih =>
    intro x1 x2 x3 σ q  h
    rw [fm_202_4] at h
    refine fs_iload_n (k := 3) (p := 5) (by decide +kernel) rfl rfl ?_
    refine fs_aload_n (k := 0) (p := 6) (by decide +kernel) rfl rfl ?_
    obtain ⟨q2, w1, h⟩ := fx_bd h
    refine fs_callV (idx := 196) (mj := 151) (ci := 10) (na := 0) (mx := 1) (p := 9) (args := [.ref 215]) (rest := [.int x3]) (al2 := [some (.ref 215)]) (by decide +kernel) rfl (by decide +kernel) fo_215 rfl rfl rfl rfl rfl rfl rfl (by omega) (fun d' hd' => fe_151 (by omega) w1) rfl ?_
    by_cases c5 : q2.1 ≤ x3
    · rw [if_pos c5] at h
      refine fs_icmp_ge_t (off := 30) (t := 39) (by decide +kernel) (by decide +kernel) c5 ?_
      refine fs_iload_n (k := 2) (p := 40) (by decide +kernel) rfl rfl ?_
      have h := Option.some.inj h
      subst h
      exact fs_iret (by decide +kernel) rt_202
    · rw [if_neg c5] at h
      refine fs_icmp_ge_f (off := 30) (t := 39) (p := 12) (by decide +kernel) (by decide +kernel) rfl c5 ?_
      refine fs_iload_n (k := 2) (p := 13) (by decide +kernel) rfl rfl ?_
      refine fs_aload_n (k := 0) (p := 14) (by decide +kernel) rfl rfl ?_
      refine fs_iconst (n := 1) (p := 15) (by decide +kernel) rfl kc_1 ?_
      refine fs_iload_n (k := 3) (p := 16) (by decide +kernel) rfl rfl ?_
      obtain ⟨q7, w6, h⟩ := fx_bd h
      refine fs_callV (idx := 199) (mj := 152) (ci := 10) (na := 2) (mx := 3) (p := 19) (args := [.ref 215, .int (1 : Int32), .int x3]) (rest := [.int x2]) (al2 := [some (.ref 215), some (.int (1 : Int32)), some (.int x3)]) (by decide +kernel) rfl (by decide +kernel) fo_215 rfl rfl rfl rfl rfl rfl rfl (by omega) (fun d' hd' => fe_152 (by omega) w6) rfl ?_
      refine fs_iload_n (k := 1) (p := 20) (by decide +kernel) rfl rfl ?_
      by_cases c10 : ¬ q7.1 = x1
      · rw [if_pos c10] at h
        refine fs_icmp_ne_t (off := 7) (t := 27) (by decide +kernel) (by decide +kernel) c10 ?_
        refine fs_iconst (n := 0) (p := 28) (by decide +kernel) rfl kc_0 ?_
        exact fe_202_28 hd ih _ _ _ _ _ _ _ h
      · rw [if_neg c10] at h
        refine fs_icmp_ne_f (off := 7) (t := 27) (p := 23) (by decide +kernel) (by decide +kernel) rfl c10 ?_
        refine fs_iconst (n := 1) (p := 24) (by decide +kernel) rfl kc_1 ?_
        refine fs_goto (off := 4) (p := 28) (by decide +kernel) (by decide +kernel) ?_
        exact fe_202_28 hd ih _ _ _ _ _ _ _ h
def fm_202 (x1 : Int32) (σ : fx_S) : Option (Int32 × fx_S) :=
  fm_202_4 100000 x1 (0 : Int32) (0 : Int32) σ
theorem fe_202 {d : Nat} (hd : 1 ≤ d) {x1 : Int32} {σ : fx_S} {q : Int32 × fx_S} (h : fm_202 x1 σ = some q) : fx_E none 202 d 0 [some (.ref 215), some (.int x1), none, none] [] σ (some (.int q.1)) q.2 := by
  unfold fm_202 at h
  refine fs_iconst (n := 0) (p := 1) (by decide +kernel) rfl kc_0 ?_
  refine fs_istore_n (k := 2) (p := 2) (M := 4) (al' := [some (.ref 215), some (.int x1), some (.int (0 : Int32)), none]) (by decide +kernel) rfl mx_202 rfl rfl ?_
  refine fs_iconst (n := 0) (p := 3) (by decide +kernel) rfl kc_0 ?_
  refine fs_istore_n (k := 3) (p := 4) (M := 4) (al' := [some (.ref 215), some (.int x1), some (.int (0 : Int32)), some (.int (0 : Int32))]) (by decide +kernel) rfl mx_202 rfl rfl ?_
  exact fe_202_4 hd 100000 _ _ _ _ _ h

/-! ZoneSharesModel.laysCellsOf(I)V -/
theorem mx_205 : iv_mx 205 = 3 := by decide +kernel
theorem rt_205 : iv_rt 205 = none := by decide +kernel
def fm_205_121 : Nat → Int32 → Int32 → fx_S → Option (fx_S)
  | 0, _, _, _ => none
  | n + 1, x1, x2, σ =>
    if (4 : Int32) ≤ x2 then (
      some σ) else (
      (fx_ld σ 216 (((32 : Int32) + ((4 : Int32) * x1)) + x2)).bind fun v3 =>
      (fx_st σ 243 x2 v3).bind fun t6 =>
      fm_205_121 n x1 (x2 + (1 : Int32)) t6)
theorem fe_205_121 {d : Nat} (hd : 2 ≤ d) : ∀ (n : Nat) (x1 : Int32) (x2 : Int32) (σ : fx_S) (q : fx_S), fm_205_121 n x1 x2 σ = some q → fx_E none 205 d 121 [some (.ref 215), some (.int x1), some (.int x2)] [] σ none q := by
  intro n
  induction n with
  | zero =>
    intro x1 x2 σ q  h
    rw [fm_205_121] at h
    exact fx_no h
  | succ n ih =>
    intro x1 x2 σ q  h
    rw [fm_205_121] at h
    refine fs_iload_n (k := 2) (p := 122) (by decide +kernel) rfl rfl ?_
    refine fs_iconst (n := 4) (p := 123) (by decide +kernel) rfl kc_4 ?_
    by_cases c2 : (4 : Int32) ≤ x2
    · rw [if_pos c2] at h
      refine fs_icmp_ge_t (off := 28) (t := 151) (by decide +kernel) (by decide +kernel) c2 ?_
      have h := Option.some.inj h
      subst h
      exact fs_ret (by decide +kernel) rt_205
    · rw [if_neg c2] at h
      refine fs_icmp_ge_f (off := 28) (t := 151) (p := 126) (by decide +kernel) (by decide +kernel) rfl c2 ?_
      refine fs_aload_n (k := 0) (p := 127) (by decide +kernel) rfl rfl ?_
      refine fs_gfr (idx := 94) (ci := 10) (j := 38) (p := 130) (by decide +kernel) rfl (by decide +kernel) fo_215 (fr_a215_38) ?_
      refine fs_iload_n (k := 2) (p := 131) (by decide +kernel) rfl rfl ?_
      refine fs_aload_n (k := 0) (p := 132) (by decide +kernel) rfl rfl ?_
      refine fs_gfr (idx := 9) (ci := 10) (j := 0) (p := 135) (by decide +kernel) rfl (by decide +kernel) fo_215 (fr_a215_0) ?_
      refine fs_bipush (n := 32) (p := 137) (by decide +kernel) rfl kb_32 ?_
      refine fs_iconst (n := 4) (p := 138) (by decide +kernel) rfl kc_4 ?_
      refine fs_iload_n (k := 1) (p := 139) (by decide +kernel) rfl rfl ?_
      refine fs_imul (p := 140) (by decide +kernel) rfl ?_
      refine fs_iadd (p := 141) (by decide +kernel) rfl ?_
      refine fs_iload_n (k := 2) (p := 142) (by decide +kernel) rfl rfl ?_
      refine fs_iadd (p := 143) (by decide +kernel) rfl ?_
      obtain ⟨v3, w4, h⟩ := fx_bd h
      refine fs_iaload (p := 144) (by decide +kernel) rfl w4 ?_
      obtain ⟨t6, w7, h⟩ := fx_bd h
      refine fs_iastore (p := 145) (by decide +kernel) rfl w7 ?_
      refine fs_iinc (k := 2) (n := 1) (p := 148) (M := 3) (al' := [some (.ref 215), some (.int x1), some (.int (x2 + (1 : Int32)))]) (by decide +kernel) rfl kc_1 mx_205 rfl rfl rfl ?_
      refine fs_goto (off := -27) (p := 121) (by decide +kernel) (by decide +kernel) ?_
      exact ih _ _ _ _ h
def fm_205_109 (k_79 : Int32 → Int32 → fx_S → Option (fx_S)) (x1 : Int32) (x2 : Int32) (s1 : Int32) (s2 : Int32) (σ : fx_S) : Option (fx_S) :=
  k_79 x1 (x2 + (1 : Int32)) (fx_w1 σ 215 42 (s1 + s2))
theorem fe_205_109 {d : Nat} (hd : 2 ≤ d) {k_79 : Int32 → Int32 → fx_S → Option (fx_S)} (hk_79 : ∀ (x1 : Int32) (x2 : Int32) (σ : fx_S) (q : fx_S), k_79 x1 x2 σ = some q → fx_E none 205 d 79 [some (.ref 215), some (.int x1), some (.int x2)] [] σ none q) (x1 : Int32) (x2 : Int32) (s1 : Int32) (s2 : Int32) (σ : fx_S) (q : fx_S) (h : fm_205_109 k_79  x1 x2 s1 s2 σ = some q) : fx_E none 205 d 109 [some (.ref 215), some (.int x1), some (.int x2)] [.int s2, .int s1, .ref 215] σ none q := by
  unfold fm_205_109 at h
  refine fs_iadd (p := 110) (by decide +kernel) rfl ?_
  refine fs_pfi (idx := 382) (ci := 10) (j := 42) (p := 113) (by decide +kernel) rfl (by decide +kernel) (by decide +kernel) fo_215 (fx_oki _ (by decide +kernel)) ?_
  refine fs_iinc (k := 2) (n := 1) (p := 116) (M := 3) (al' := [some (.ref 215), some (.int x1), some (.int (x2 + (1 : Int32)))]) (by decide +kernel) rfl kc_1 mx_205 rfl rfl rfl ?_
  refine fs_goto (off := -37) (p := 79) (by decide +kernel) (by decide +kernel) ?_
  exact hk_79 _ _ _ _ h
def fm_205_79 : Nat → Int32 → Int32 → fx_S → Option (fx_S)
  | 0, _, _, _ => none
  | n + 1, x1, x2, σ =>
    if (8 : Int32) ≤ x2 then (
      fm_205_121 100000 x1 (0 : Int32) σ) else (
      (fm_153 (0 : Int32) x2 σ).bind fun q4 =>
      if (fx_b q4.1) = 0 then (
        fm_205_109 (fm_205_79 n) x1 x2 (σ.1 215 42) (0 : Int32) q4.2) else (
        (fm_155 x1 x2 q4.2).bind fun q7 =>
        fm_205_109 (fm_205_79 n) x1 x2 (σ.1 215 42) q7.1 q7.2))
theorem fe_205_79 {d : Nat} (hd : 2 ≤ d) : ∀ (n : Nat) (x1 : Int32) (x2 : Int32) (σ : fx_S) (q : fx_S), fm_205_79 n x1 x2 σ = some q → fx_E none 205 d 79 [some (.ref 215), some (.int x1), some (.int x2)] [] σ none q := by
  intro n
  induction n with
  | zero =>
    intro x1 x2 σ q  h
    rw [fm_205_79] at h
    exact fx_no h
  | succ n ih =>
    intro x1 x2 σ q  h
    rw [fm_205_79] at h
    refine fs_iload_n (k := 2) (p := 80) (by decide +kernel) rfl rfl ?_
    refine fs_bipush (n := 8) (p := 82) (by decide +kernel) rfl kb_8 ?_
    by_cases c2 : (8 : Int32) ≤ x2
    · rw [if_pos c2] at h
      refine fs_icmp_ge_t (off := 37) (t := 119) (by decide +kernel) (by decide +kernel) c2 ?_
      refine fs_iconst (n := 0) (p := 120) (by decide +kernel) rfl kc_0 ?_
      refine fs_istore_n (k := 2) (p := 121) (M := 3) (al' := [some (.ref 215), some (.int x1), some (.int (0 : Int32))]) (by decide +kernel) rfl mx_205 rfl rfl ?_
      exact fe_205_121 hd 100000 _ _ _ _ h
    · rw [if_neg c2] at h
      refine fs_icmp_ge_f (off := 37) (t := 119) (p := 85) (by decide +kernel) (by decide +kernel) rfl c2 ?_
      refine fs_aload_n (k := 0) (p := 86) (by decide +kernel) rfl rfl ?_
      refine fs_dup (p := 87) (by decide +kernel) rfl rfl ?_
      refine fs_gfi (idx := 382) (ci := 10) (j := 42) (p := 90) (by decide +kernel) rfl (by decide +kernel) fo_215 ?_
      refine fs_aload_n (k := 0) (p := 91) (by decide +kernel) rfl rfl ?_
      refine fs_iconst (n := 0) (p := 92) (by decide +kernel) rfl kc_0 ?_
      refine fs_iload_n (k := 2) (p := 93) (by decide +kernel) rfl rfl ?_
      obtain ⟨q4, w3, h⟩ := fx_bd h
      refine fs_callV (idx := 202) (mj := 153) (ci := 10) (na := 2) (mx := 4) (p := 96) (args := [.ref 215, .int (0 : Int32), .int x2]) (rest := [.int (σ.1 215 42), .ref 215]) (al2 := [some (.ref 215), some (.int (0 : Int32)), some (.int x2), none]) (by decide +kernel) rfl (by decide +kernel) fo_215 rfl rfl rfl rfl rfl rfl rfl (by omega) (fun d' hd' => fe_153 (by omega) w3) rfl ?_
      by_cases c5 : (fx_b q4.1) = 0
      · rw [if_pos c5] at h
        refine fs_if_eq_t (off := 12) (t := 108) (by decide +kernel) (by decide +kernel) c5 ?_
        refine fs_iconst (n := 0) (p := 109) (by decide +kernel) rfl kc_0 ?_
        exact fe_205_109 hd ih _ _ _ _ _ _ h
      · rw [if_neg c5] at h
        refine fs_if_eq_f (off := 12) (t := 108) (p := 99) (by decide +kernel) (by decide +kernel) rfl c5 ?_
        refine fs_aload_n (k := 0) (p := 100) (by decide +kernel) rfl rfl ?_
        refine fs_iload_n (k := 1) (p := 101) (by decide +kernel) rfl rfl ?_
        refine fs_iload_n (k := 2) (p := 102) (by decide +kernel) rfl rfl ?_
        obtain ⟨q7, w6, h⟩ := fx_bd h
        refine fs_callV (idx := 264) (mj := 155) (ci := 10) (na := 2) (mx := 3) (p := 105) (args := [.ref 215, .int x1, .int x2]) (rest := [.int (σ.1 215 42), .ref 215]) (al2 := [some (.ref 215), some (.int x1), some (.int x2)]) (by decide +kernel) rfl (by decide +kernel) fo_215 rfl rfl rfl rfl rfl rfl rfl (by omega) (fun d' hd' => fe_155 (by omega) w6) rfl ?_
        refine fs_goto (off := 4) (p := 109) (by decide +kernel) (by decide +kernel) ?_
        exact fe_205_109 hd ih _ _ _ _ _ _ h
def fm_205_66 (k_23 : Int32 → Int32 → fx_S → Option (fx_S)) (x1 : Int32) (x2 : Int32) (σ : fx_S) : Option (fx_S) :=
  k_23 x1 (x2 + (1 : Int32)) σ
theorem fe_205_66 {d : Nat} (hd : 2 ≤ d) {k_23 : Int32 → Int32 → fx_S → Option (fx_S)} (hk_23 : ∀ (x1 : Int32) (x2 : Int32) (σ : fx_S) (q : fx_S), k_23 x1 x2 σ = some q → fx_E none 205 d 23 [some (.ref 215), some (.int x1), some (.int x2)] [] σ none q) (x1 : Int32) (x2 : Int32) (σ : fx_S) (q : fx_S) (h : fm_205_66 k_23  x1 x2 σ = some q) : fx_E none 205 d 66 [some (.ref 215), some (.int x1), some (.int x2)] [] σ none q := by
  unfold fm_205_66 at h
  refine fs_iinc (k := 2) (n := 1) (p := 69) (M := 3) (al' := [some (.ref 215), some (.int x1), some (.int (x2 + (1 : Int32)))]) (by decide +kernel) rfl kc_1 mx_205 rfl rfl rfl ?_
  refine fs_goto (off := -46) (p := 23) (by decide +kernel) (by decide +kernel) ?_
  exact hk_23 _ _ _ _ h
def fm_205_23 : Nat → Int32 → Int32 → fx_S → Option (fx_S)
  | 0, _, _, _ => none
  | n + 1, x1, x2, σ =>
    (fm_151 σ).bind fun q2 =>
    if q2.1 ≤ x2 then (
      fm_205_79 100000 x1 (0 : Int32) (fx_w1 q2.2 215 42 (0 : Int32))) else (
      (fm_152 (0 : Int32) x2 q2.2).bind fun q7 =>
      if q7.1 = (8 : Int32) then (
        fm_205_66 (fm_205_23 n) x1 x2 q7.2) else (
        (fm_152 (0 : Int32) x2 q7.2).bind fun q11 =>
        (fm_152 (2 : Int32) x2 q11.2).bind fun q13 =>
        (fx_ld q13.2 242 (((4 : Int32) * q11.1) + q13.1)).bind fun v14 =>
        (fx_st q13.2 242 (((4 : Int32) * q11.1) + q13.1) (v14 + (1 : Int32))).bind fun t17 =>
        fm_205_66 (fm_205_23 n) x1 x2 t17))
theorem fe_205_23 {d : Nat} (hd : 2 ≤ d) : ∀ (n : Nat) (x1 : Int32) (x2 : Int32) (σ : fx_S) (q : fx_S), fm_205_23 n x1 x2 σ = some q → fx_E none 205 d 23 [some (.ref 215), some (.int x1), some (.int x2)] [] σ none q := by
  intro n
  induction n with
  | zero =>
    intro x1 x2 σ q  h
    rw [fm_205_23] at h
    exact fx_no h
  | succ n ih =>
    intro x1 x2 σ q  h
    rw [fm_205_23] at h
    refine fs_iload_n (k := 2) (p := 24) (by decide +kernel) rfl rfl ?_
    refine fs_aload_n (k := 0) (p := 25) (by decide +kernel) rfl rfl ?_
    obtain ⟨q2, w1, h⟩ := fx_bd h
    refine fs_callV (idx := 196) (mj := 151) (ci := 10) (na := 0) (mx := 1) (p := 28) (args := [.ref 215]) (rest := [.int x2]) (al2 := [some (.ref 215)]) (by decide +kernel) rfl (by decide +kernel) fo_215 rfl rfl rfl rfl rfl rfl rfl (by omega) (fun d' hd' => fe_151 (by omega) w1) rfl ?_
    by_cases c5 : q2.1 ≤ x2
    · rw [if_pos c5] at h
      refine fs_icmp_ge_t (off := 44) (t := 72) (by decide +kernel) (by decide +kernel) c5 ?_
      refine fs_aload_n (k := 0) (p := 73) (by decide +kernel) rfl rfl ?_
      refine fs_iconst (n := 0) (p := 74) (by decide +kernel) rfl kc_0 ?_
      refine fs_pfi (idx := 382) (ci := 10) (j := 42) (p := 77) (by decide +kernel) rfl (by decide +kernel) (by decide +kernel) fo_215 (fx_oki _ (by decide +kernel)) ?_
      refine fs_iconst (n := 0) (p := 78) (by decide +kernel) rfl kc_0 ?_
      refine fs_istore_n (k := 2) (p := 79) (M := 3) (al' := [some (.ref 215), some (.int x1), some (.int (0 : Int32))]) (by decide +kernel) rfl mx_205 rfl rfl ?_
      exact fe_205_79 hd 100000 _ _ _ _ h
    · rw [if_neg c5] at h
      refine fs_icmp_ge_f (off := 44) (t := 72) (p := 31) (by decide +kernel) (by decide +kernel) rfl c5 ?_
      refine fs_aload_n (k := 0) (p := 32) (by decide +kernel) rfl rfl ?_
      refine fs_iconst (n := 0) (p := 33) (by decide +kernel) rfl kc_0 ?_
      refine fs_iload_n (k := 2) (p := 34) (by decide +kernel) rfl rfl ?_
      obtain ⟨q7, w6, h⟩ := fx_bd h
      refine fs_callV (idx := 199) (mj := 152) (ci := 10) (na := 2) (mx := 3) (p := 37) (args := [.ref 215, .int (0 : Int32), .int x2]) (rest := []) (al2 := [some (.ref 215), some (.int (0 : Int32)), some (.int x2)]) (by decide +kernel) rfl (by decide +kernel) fo_215 rfl rfl rfl rfl rfl rfl rfl (by omega) (fun d' hd' => fe_152 (by omega) w6) rfl ?_
      refine fs_bipush (n := 8) (p := 39) (by decide +kernel) rfl kb_8 ?_
      by_cases c9 : q7.1 = (8 : Int32)
      · rw [if_pos c9] at h
        refine fs_icmp_eq_t (off := 27) (t := 66) (by decide +kernel) (by decide +kernel) c9 ?_
        exact fe_205_66 hd ih _ _ _ _ h
      · rw [if_neg c9] at h
        refine fs_icmp_eq_f (off := 27) (t := 66) (p := 42) (by decide +kernel) (by decide +kernel) rfl c9 ?_
        refine fs_aload_n (k := 0) (p := 43) (by decide +kernel) rfl rfl ?_
        refine fs_gfr (idx := 91) (ci := 10) (j := 37) (p := 46) (by decide +kernel) rfl (by decide +kernel) fo_215 (fr_a215_37) ?_
        refine fs_iconst (n := 4) (p := 47) (by decide +kernel) rfl kc_4 ?_
        refine fs_aload_n (k := 0) (p := 48) (by decide +kernel) rfl rfl ?_
        refine fs_iconst (n := 0) (p := 49) (by decide +kernel) rfl kc_0 ?_
        refine fs_iload_n (k := 2) (p := 50) (by decide +kernel) rfl rfl ?_
        obtain ⟨q11, w10, h⟩ := fx_bd h
        refine fs_callV (idx := 199) (mj := 152) (ci := 10) (na := 2) (mx := 3) (p := 53) (args := [.ref 215, .int (0 : Int32), .int x2]) (rest := [.int (4 : Int32), .ref 242]) (al2 := [some (.ref 215), some (.int (0 : Int32)), some (.int x2)]) (by decide +kernel) rfl (by decide +kernel) fo_215 rfl rfl rfl rfl rfl rfl rfl (by omega) (fun d' hd' => fe_152 (by omega) w10) rfl ?_
        refine fs_imul (p := 54) (by decide +kernel) rfl ?_
        refine fs_aload_n (k := 0) (p := 55) (by decide +kernel) rfl rfl ?_
        refine fs_iconst (n := 2) (p := 56) (by decide +kernel) rfl kc_2 ?_
        refine fs_iload_n (k := 2) (p := 57) (by decide +kernel) rfl rfl ?_
        obtain ⟨q13, w12, h⟩ := fx_bd h
        refine fs_callV (idx := 199) (mj := 152) (ci := 10) (na := 2) (mx := 3) (p := 60) (args := [.ref 215, .int (2 : Int32), .int x2]) (rest := [.int ((4 : Int32) * q11.1), .ref 242]) (al2 := [some (.ref 215), some (.int (2 : Int32)), some (.int x2)]) (by decide +kernel) rfl (by decide +kernel) fo_215 rfl rfl rfl rfl rfl rfl rfl (by omega) (fun d' hd' => fe_152 (by omega) w12) rfl ?_
        refine fs_iadd (p := 61) (by decide +kernel) rfl ?_
        refine fs_dup2 (p := 62) (by decide +kernel) rfl rfl rfl ?_
        obtain ⟨v14, w15, h⟩ := fx_bd h
        refine fs_iaload (p := 63) (by decide +kernel) rfl w15 ?_
        refine fs_iconst (n := 1) (p := 64) (by decide +kernel) rfl kc_1 ?_
        refine fs_iadd (p := 65) (by decide +kernel) rfl ?_
        obtain ⟨t17, w18, h⟩ := fx_bd h
        refine fs_iastore (p := 66) (by decide +kernel) rfl w18 ?_
        exact fe_205_66 hd ih _ _ _ _ h
def fm_205_2 : Nat → Int32 → Int32 → fx_S → Option (fx_S)
  | 0, _, _, _ => none
  | n + 1, x1, x2, σ =>
    if (32 : Int32) ≤ x2 then (
      fm_205_23 100000 x1 (0 : Int32) σ) else (
      (fx_st σ 242 x2 (0 : Int32)).bind fun t3 =>
      fm_205_2 n x1 (x2 + (1 : Int32)) t3)
theorem fe_205_2 {d : Nat} (hd : 2 ≤ d) : ∀ (n : Nat) (x1 : Int32) (x2 : Int32) (σ : fx_S) (q : fx_S), fm_205_2 n x1 x2 σ = some q → fx_E none 205 d 2 [some (.ref 215), some (.int x1), some (.int x2)] [] σ none q := by
  intro n
  induction n with
  | zero =>
    intro x1 x2 σ q  h
    rw [fm_205_2] at h
    exact fx_no h
  | succ n ih =>
    intro x1 x2 σ q  h
    rw [fm_205_2] at h
    refine fs_iload_n (k := 2) (p := 3) (by decide +kernel) rfl rfl ?_
    refine fs_bipush (n := 32) (p := 5) (by decide +kernel) rfl kb_32 ?_
    by_cases c2 : (32 : Int32) ≤ x2
    · rw [if_pos c2] at h
      refine fs_icmp_ge_t (off := 16) (t := 21) (by decide +kernel) (by decide +kernel) c2 ?_
      refine fs_iconst (n := 0) (p := 22) (by decide +kernel) rfl kc_0 ?_
      refine fs_istore_n (k := 2) (p := 23) (M := 3) (al' := [some (.ref 215), some (.int x1), some (.int (0 : Int32))]) (by decide +kernel) rfl mx_205 rfl rfl ?_
      exact fe_205_23 hd 100000 _ _ _ _ h
    · rw [if_neg c2] at h
      refine fs_icmp_ge_f (off := 16) (t := 21) (p := 8) (by decide +kernel) (by decide +kernel) rfl c2 ?_
      refine fs_aload_n (k := 0) (p := 9) (by decide +kernel) rfl rfl ?_
      refine fs_gfr (idx := 91) (ci := 10) (j := 37) (p := 12) (by decide +kernel) rfl (by decide +kernel) fo_215 (fr_a215_37) ?_
      refine fs_iload_n (k := 2) (p := 13) (by decide +kernel) rfl rfl ?_
      refine fs_iconst (n := 0) (p := 14) (by decide +kernel) rfl kc_0 ?_
      obtain ⟨t3, w4, h⟩ := fx_bd h
      refine fs_iastore (p := 15) (by decide +kernel) rfl w4 ?_
      refine fs_iinc (k := 2) (n := 1) (p := 18) (M := 3) (al' := [some (.ref 215), some (.int x1), some (.int (x2 + (1 : Int32)))]) (by decide +kernel) rfl kc_1 mx_205 rfl rfl rfl ?_
      refine fs_goto (off := -16) (p := 2) (by decide +kernel) (by decide +kernel) ?_
      exact ih _ _ _ _ h
def fm_205 (x1 : Int32) (σ : fx_S) : Option (fx_S) :=
  fm_205_2 100000 x1 (0 : Int32) σ
theorem fe_205 {d : Nat} (hd : 2 ≤ d) {x1 : Int32} {σ : fx_S} {q : fx_S} (h : fm_205 x1 σ = some q) : fx_E none 205 d 0 [some (.ref 215), some (.int x1), none] [] σ none q := by
  unfold fm_205 at h
  refine fs_iconst (n := 0) (p := 1) (by decide +kernel) rfl kc_0 ?_
  refine fs_istore_n (k := 2) (p := 2) (M := 3) (al' := [some (.ref 215), some (.int x1), some (.int (0 : Int32))]) (by decide +kernel) rfl mx_205 rfl rfl ?_
  exact fe_205_2 hd 100000 _ _ _ _ h

/-! ZoneSharesModel.weighs(I)I -/
theorem mx_206 : iv_mx 206 = 4 := by decide +kernel
theorem rt_206 : iv_rt 206 = some .int := by decide +kernel
def fm_206_4 : Nat → Int32 → Int32 → Int32 → fx_S → Option (Int32 × fx_S)
  | 0, _, _, _, _ => none
  | n + 1, x1, x2, x3, σ =>
    if (4 : Int32) ≤ x3 then (
      some (x2, σ)) else (
      (fx_ld σ 243 x3).bind fun v3 =>
      (fx_ld σ 242 (((4 : Int32) * x1) + x3)).bind fun v6 =>
      fm_206_4 n x1 (x2 + (v3 * v6)) (x3 + (1 : Int32)) σ)
theorem fe_206_4 {d : Nat} (hd : 0 ≤ d) : ∀ (n : Nat) (x1 : Int32) (x2 : Int32) (x3 : Int32) (σ : fx_S) (q : Int32 × fx_S), fm_206_4 n x1 x2 x3 σ = some q → fx_E none 206 d 4 [some (.ref 215), some (.int x1), some (.int x2), some (.int x3)] [] σ (some (.int q.1)) q.2 := by
  intro n
  induction n with
  | zero =>
    intro x1 x2 x3 σ q  h
    rw [fm_206_4] at h
    exact fx_no h
  | succ n ih =>
    intro x1 x2 x3 σ q  h
    rw [fm_206_4] at h
    refine fs_iload_n (k := 3) (p := 5) (by decide +kernel) rfl rfl ?_
    refine fs_iconst (n := 4) (p := 6) (by decide +kernel) rfl kc_4 ?_
    by_cases c2 : (4 : Int32) ≤ x3
    · rw [if_pos c2] at h
      refine fs_icmp_ge_t (off := 29) (t := 35) (by decide +kernel) (by decide +kernel) c2 ?_
      refine fs_iload_n (k := 2) (p := 36) (by decide +kernel) rfl rfl ?_
      have h := Option.some.inj h
      subst h
      exact fs_iret (by decide +kernel) rt_206
    · rw [if_neg c2] at h
      refine fs_icmp_ge_f (off := 29) (t := 35) (p := 9) (by decide +kernel) (by decide +kernel) rfl c2 ?_
      refine fs_iload_n (k := 2) (p := 10) (by decide +kernel) rfl rfl ?_
      refine fs_aload_n (k := 0) (p := 11) (by decide +kernel) rfl rfl ?_
      refine fs_gfr (idx := 94) (ci := 10) (j := 38) (p := 14) (by decide +kernel) rfl (by decide +kernel) fo_215 (fr_a215_38) ?_
      refine fs_iload_n (k := 3) (p := 15) (by decide +kernel) rfl rfl ?_
      obtain ⟨v3, w4, h⟩ := fx_bd h
      refine fs_iaload (p := 16) (by decide +kernel) rfl w4 ?_
      refine fs_aload_n (k := 0) (p := 17) (by decide +kernel) rfl rfl ?_
      refine fs_gfr (idx := 91) (ci := 10) (j := 37) (p := 20) (by decide +kernel) rfl (by decide +kernel) fo_215 (fr_a215_37) ?_
      refine fs_iconst (n := 4) (p := 21) (by decide +kernel) rfl kc_4 ?_
      refine fs_iload_n (k := 1) (p := 22) (by decide +kernel) rfl rfl ?_
      refine fs_imul (p := 23) (by decide +kernel) rfl ?_
      refine fs_iload_n (k := 3) (p := 24) (by decide +kernel) rfl rfl ?_
      refine fs_iadd (p := 25) (by decide +kernel) rfl ?_
      obtain ⟨v6, w7, h⟩ := fx_bd h
      refine fs_iaload (p := 26) (by decide +kernel) rfl w7 ?_
      refine fs_imul (p := 27) (by decide +kernel) rfl ?_
      refine fs_iadd (p := 28) (by decide +kernel) rfl ?_
      refine fs_istore_n (k := 2) (p := 29) (M := 4) (al' := [some (.ref 215), some (.int x1), some (.int (x2 + (v3 * v6))), some (.int x3)]) (by decide +kernel) rfl mx_206 rfl rfl ?_
      refine fs_iinc (k := 3) (n := 1) (p := 32) (M := 4) (al' := [some (.ref 215), some (.int x1), some (.int (x2 + (v3 * v6))), some (.int (x3 + (1 : Int32)))]) (by decide +kernel) rfl kc_1 mx_206 rfl rfl rfl ?_
      refine fs_goto (off := -28) (p := 4) (by decide +kernel) (by decide +kernel) ?_
      exact ih _ _ _ _ _ h
def fm_206 (x1 : Int32) (σ : fx_S) : Option (Int32 × fx_S) :=
  fm_206_4 100000 x1 (0 : Int32) (0 : Int32) σ
theorem fe_206 {d : Nat} (hd : 0 ≤ d) {x1 : Int32} {σ : fx_S} {q : Int32 × fx_S} (h : fm_206 x1 σ = some q) : fx_E none 206 d 0 [some (.ref 215), some (.int x1), none, none] [] σ (some (.int q.1)) q.2 := by
  unfold fm_206 at h
  refine fs_iconst (n := 0) (p := 1) (by decide +kernel) rfl kc_0 ?_
  refine fs_istore_n (k := 2) (p := 2) (M := 4) (al' := [some (.ref 215), some (.int x1), some (.int (0 : Int32)), none]) (by decide +kernel) rfl mx_206 rfl rfl ?_
  refine fs_iconst (n := 0) (p := 3) (by decide +kernel) rfl kc_0 ?_
  refine fs_istore_n (k := 3) (p := 4) (M := 4) (al' := [some (.ref 215), some (.int x1), some (.int (0 : Int32)), some (.int (0 : Int32))]) (by decide +kernel) rfl mx_206 rfl rfl ?_
  exact fe_206_4 hd 100000 _ _ _ _ _ h

/-! ZoneSharesModel.landCells(I)I -/
theorem mx_207 : iv_mx 207 = 4 := by decide +kernel
theorem rt_207 : iv_rt 207 = some .int := by decide +kernel
def fm_207_4 : Nat → Int32 → Int32 → Int32 → fx_S → Option (Int32 × fx_S)
  | 0, _, _, _, _ => none
  | n + 1, x1, x2, x3, σ =>
    if (8 : Int32) ≤ x3 then (
      some (x2, σ)) else (
      (fx_ld σ 242 (((4 : Int32) * x3) + x1)).bind fun v3 =>
      fm_207_4 n x1 (x2 + v3) (x3 + (1 : Int32)) σ)
theorem fe_207_4 {d : Nat} (hd : 0 ≤ d) : ∀ (n : Nat) (x1 : Int32) (x2 : Int32) (x3 : Int32) (σ : fx_S) (q : Int32 × fx_S), fm_207_4 n x1 x2 x3 σ = some q → fx_E none 207 d 4 [some (.ref 215), some (.int x1), some (.int x2), some (.int x3)] [] σ (some (.int q.1)) q.2 := by
  intro n
  induction n with
  | zero =>
    intro x1 x2 x3 σ q  h
    rw [fm_207_4] at h
    exact fx_no h
  | succ n ih =>
    intro x1 x2 x3 σ q  h
    rw [fm_207_4] at h
    refine fs_iload_n (k := 3) (p := 5) (by decide +kernel) rfl rfl ?_
    refine fs_bipush (n := 8) (p := 7) (by decide +kernel) rfl kb_8 ?_
    by_cases c2 : (8 : Int32) ≤ x3
    · rw [if_pos c2] at h
      refine fs_icmp_ge_t (off := 22) (t := 29) (by decide +kernel) (by decide +kernel) c2 ?_
      refine fs_iload_n (k := 2) (p := 30) (by decide +kernel) rfl rfl ?_
      have h := Option.some.inj h
      subst h
      exact fs_iret (by decide +kernel) rt_207
    · rw [if_neg c2] at h
      refine fs_icmp_ge_f (off := 22) (t := 29) (p := 10) (by decide +kernel) (by decide +kernel) rfl c2 ?_
      refine fs_iload_n (k := 2) (p := 11) (by decide +kernel) rfl rfl ?_
      refine fs_aload_n (k := 0) (p := 12) (by decide +kernel) rfl rfl ?_
      refine fs_gfr (idx := 91) (ci := 10) (j := 37) (p := 15) (by decide +kernel) rfl (by decide +kernel) fo_215 (fr_a215_37) ?_
      refine fs_iconst (n := 4) (p := 16) (by decide +kernel) rfl kc_4 ?_
      refine fs_iload_n (k := 3) (p := 17) (by decide +kernel) rfl rfl ?_
      refine fs_imul (p := 18) (by decide +kernel) rfl ?_
      refine fs_iload_n (k := 1) (p := 19) (by decide +kernel) rfl rfl ?_
      refine fs_iadd (p := 20) (by decide +kernel) rfl ?_
      obtain ⟨v3, w4, h⟩ := fx_bd h
      refine fs_iaload (p := 21) (by decide +kernel) rfl w4 ?_
      refine fs_iadd (p := 22) (by decide +kernel) rfl ?_
      refine fs_istore_n (k := 2) (p := 23) (M := 4) (al' := [some (.ref 215), some (.int x1), some (.int (x2 + v3)), some (.int x3)]) (by decide +kernel) rfl mx_207 rfl rfl ?_
      refine fs_iinc (k := 3) (n := 1) (p := 26) (M := 4) (al' := [some (.ref 215), some (.int x1), some (.int (x2 + v3)), some (.int (x3 + (1 : Int32)))]) (by decide +kernel) rfl kc_1 mx_207 rfl rfl rfl ?_
      refine fs_goto (off := -22) (p := 4) (by decide +kernel) (by decide +kernel) ?_
      exact ih _ _ _ _ _ h
def fm_207 (x1 : Int32) (σ : fx_S) : Option (Int32 × fx_S) :=
  fm_207_4 100000 x1 (0 : Int32) (0 : Int32) σ
theorem fe_207 {d : Nat} (hd : 0 ≤ d) {x1 : Int32} {σ : fx_S} {q : Int32 × fx_S} (h : fm_207 x1 σ = some q) : fx_E none 207 d 0 [some (.ref 215), some (.int x1), none, none] [] σ (some (.int q.1)) q.2 := by
  unfold fm_207 at h
  refine fs_iconst (n := 0) (p := 1) (by decide +kernel) rfl kc_0 ?_
  refine fs_istore_n (k := 2) (p := 2) (M := 4) (al' := [some (.ref 215), some (.int x1), some (.int (0 : Int32)), none]) (by decide +kernel) rfl mx_207 rfl rfl ?_
  refine fs_iconst (n := 0) (p := 3) (by decide +kernel) rfl kc_0 ?_
  refine fs_istore_n (k := 3) (p := 4) (M := 4) (al' := [some (.ref 215), some (.int x1), some (.int (0 : Int32)), some (.int (0 : Int32))]) (by decide +kernel) rfl mx_207 rfl rfl ?_
  exact fe_207_4 hd 100000 _ _ _ _ _ h

/-! ZoneSharesModel.isOldCounted(I)Z -/
theorem mx_208 : iv_mx 208 = 4 := by decide +kernel
theorem rt_208 : iv_rt 208 = some .boolean := by decide +kernel
def fm_208_4 : Nat → Int32 → Int32 → Int32 → fx_S → Option (Bool × fx_S)
  | 0, _, _, _, _ => none
  | n + 1, x1, x2, x3, σ =>
    if (4 : Int32) ≤ x3 then (
      if x2 ≤ 0 then (
        some (false, σ)) else (
        some (true, σ))) else (
      (fx_ld σ 242 (((4 : Int32) * x1) + x3)).bind fun v5 =>
      fm_208_4 n x1 (x2 + v5) (x3 + (1 : Int32)) σ)
theorem fe_208_4 {d : Nat} (hd : 0 ≤ d) : ∀ (n : Nat) (x1 : Int32) (x2 : Int32) (x3 : Int32) (σ : fx_S) (q : Bool × fx_S), fm_208_4 n x1 x2 x3 σ = some q → fx_E none 208 d 4 [some (.ref 215), some (.int x1), some (.int x2), some (.int x3)] [] σ (some (.int (fx_b q.1))) q.2 := by
  intro n
  induction n with
  | zero =>
    intro x1 x2 x3 σ q  h
    rw [fm_208_4] at h
    exact fx_no h
  | succ n ih =>
    intro x1 x2 x3 σ q  h
    rw [fm_208_4] at h
    refine fs_iload_n (k := 3) (p := 5) (by decide +kernel) rfl rfl ?_
    refine fs_iconst (n := 4) (p := 6) (by decide +kernel) rfl kc_4 ?_
    by_cases c2 : (4 : Int32) ≤ x3
    · rw [if_pos c2] at h
      refine fs_icmp_ge_t (off := 22) (t := 28) (by decide +kernel) (by decide +kernel) c2 ?_
      refine fs_iload_n (k := 2) (p := 29) (by decide +kernel) rfl rfl ?_
      by_cases c4 : x2 ≤ 0
      · rw [if_pos c4] at h
        refine fs_if_le_t (off := 7) (t := 36) (by decide +kernel) (by decide +kernel) c4 ?_
        refine fs_iconst (n := 0) (p := 37) (by decide +kernel) rfl kc_0 ?_
        have h := Option.some.inj h
        subst h
        exact fs_zret (b := false) (by decide +kernel) rt_208
      · rw [if_neg c4] at h
        refine fs_if_le_f (off := 7) (t := 36) (p := 32) (by decide +kernel) (by decide +kernel) rfl c4 ?_
        refine fs_iconst (n := 1) (p := 33) (by decide +kernel) rfl kc_1 ?_
        refine fs_goto (off := 4) (p := 37) (by decide +kernel) (by decide +kernel) ?_
        have h := Option.some.inj h
        subst h
        exact fs_zret (b := true) (by decide +kernel) rt_208
    · rw [if_neg c2] at h
      refine fs_icmp_ge_f (off := 22) (t := 28) (p := 9) (by decide +kernel) (by decide +kernel) rfl c2 ?_
      refine fs_iload_n (k := 2) (p := 10) (by decide +kernel) rfl rfl ?_
      refine fs_aload_n (k := 0) (p := 11) (by decide +kernel) rfl rfl ?_
      refine fs_gfr (idx := 91) (ci := 10) (j := 37) (p := 14) (by decide +kernel) rfl (by decide +kernel) fo_215 (fr_a215_37) ?_
      refine fs_iconst (n := 4) (p := 15) (by decide +kernel) rfl kc_4 ?_
      refine fs_iload_n (k := 1) (p := 16) (by decide +kernel) rfl rfl ?_
      refine fs_imul (p := 17) (by decide +kernel) rfl ?_
      refine fs_iload_n (k := 3) (p := 18) (by decide +kernel) rfl rfl ?_
      refine fs_iadd (p := 19) (by decide +kernel) rfl ?_
      obtain ⟨v5, w6, h⟩ := fx_bd h
      refine fs_iaload (p := 20) (by decide +kernel) rfl w6 ?_
      refine fs_iadd (p := 21) (by decide +kernel) rfl ?_
      refine fs_istore_n (k := 2) (p := 22) (M := 4) (al' := [some (.ref 215), some (.int x1), some (.int (x2 + v5)), some (.int x3)]) (by decide +kernel) rfl mx_208 rfl rfl ?_
      refine fs_iinc (k := 3) (n := 1) (p := 25) (M := 4) (al' := [some (.ref 215), some (.int x1), some (.int (x2 + v5)), some (.int (x3 + (1 : Int32)))]) (by decide +kernel) rfl kc_1 mx_208 rfl rfl rfl ?_
      refine fs_goto (off := -21) (p := 4) (by decide +kernel) (by decide +kernel) ?_
      exact ih _ _ _ _ _ h
def fm_208 (x1 : Int32) (σ : fx_S) : Option (Bool × fx_S) :=
  fm_208_4 100000 x1 (0 : Int32) (0 : Int32) σ
theorem fe_208 {d : Nat} (hd : 0 ≤ d) {x1 : Int32} {σ : fx_S} {q : Bool × fx_S} (h : fm_208 x1 σ = some q) : fx_E none 208 d 0 [some (.ref 215), some (.int x1), none, none] [] σ (some (.int (fx_b q.1))) q.2 := by
  unfold fm_208 at h
  refine fs_iconst (n := 0) (p := 1) (by decide +kernel) rfl kc_0 ?_
  refine fs_istore_n (k := 2) (p := 2) (M := 4) (al' := [some (.ref 215), some (.int x1), some (.int (0 : Int32)), none]) (by decide +kernel) rfl mx_208 rfl rfl ?_
  refine fs_iconst (n := 0) (p := 3) (by decide +kernel) rfl kc_0 ?_
  refine fs_istore_n (k := 3) (p := 4) (M := 4) (al' := [some (.ref 215), some (.int x1), some (.int (0 : Int32)), some (.int (0 : Int32))]) (by decide +kernel) rfl mx_208 rfl rfl ?_
  exact fe_208_4 hd 100000 _ _ _ _ _ h

/-! ZoneSharesModel.laysMisfit(I)Z -/
theorem mx_209 : iv_mx 209 = 5 := by decide +kernel
theorem rt_209 : iv_rt 209 = some .boolean := by decide +kernel
def fm_209_93 (k_41 : Int32 → Int64 → Int32 → fx_S → Option (Bool × fx_S)) (x1 : Int32) (x2 : Int64) (x4 : Int32) (σ : fx_S) : Option (Bool × fx_S) :=
  k_41 x1 x2 (x4 + (1 : Int32)) σ
theorem fe_209_93 {d : Nat} (hd : 1 ≤ d) {k_41 : Int32 → Int64 → Int32 → fx_S → Option (Bool × fx_S)} (hk_41 : ∀ (x1 : Int32) (x2 : Int64) (x4 : Int32) (σ : fx_S) (q : Bool × fx_S), k_41 x1 x2 x4 σ = some q → fx_E none 209 d 41 [some (.ref 215), some (.int x1), some (.long x2), none, some (.int x4)] [] σ (some (.int (fx_b q.1))) q.2) (x1 : Int32) (x2 : Int64) (x4 : Int32) (σ : fx_S) (q : Bool × fx_S) (h : fm_209_93 k_41  x1 x2 x4 σ = some q) : fx_E none 209 d 93 [some (.ref 215), some (.int x1), some (.long x2), none, some (.int x4)] [] σ (some (.int (fx_b q.1))) q.2 := by
  unfold fm_209_93 at h
  refine fs_iinc (k := 4) (n := 1) (p := 96) (M := 5) (al' := [some (.ref 215), some (.int x1), some (.long x2), none, some (.int (x4 + (1 : Int32)))]) (by decide +kernel) rfl kc_1 mx_209 rfl rfl rfl ?_
  refine fs_goto (off := -55) (p := 41) (by decide +kernel) (by decide +kernel) ?_
  exact hk_41 _ _ _ _ _ h
def fm_209_41 : Nat → Int32 → Int64 → Int32 → fx_S → Option (Bool × fx_S)
  | 0, _, _, _, _ => none
  | n + 1, x1, x2, x4, σ =>
    if (8 : Int32) ≤ x4 then (
      if x2 ≤ (0 : Int64) then (
        some (false, σ)) else (
        some (true, σ))) else (
      (fm_208 x4 σ).bind fun q6 =>
      if (fx_b q6.1) = 0 then (
        fm_209_93 (fm_209_41 n) x1 x2 x4 q6.2) else (
        (fm_155 x1 x4 q6.2).bind fun q9 =>
        (fm_206 x4 q9.2).bind fun q13 =>
        fm_209_93 (fm_209_41 n) x1 x2 x4 (fx_w2 q13.2 215 40 ((q6.2.2 215 40) + (if 0 < (((q9.1).toInt64 * x2) - (((q9.2.1 215 42)).toInt64 * (q13.1).toInt64)) then (((q9.1).toInt64 * x2) - (((q9.2.1 215 42)).toInt64 * (q13.1).toInt64)) else -(((q9.1).toInt64 * x2) - (((q9.2.1 215 42)).toInt64 * (q13.1).toInt64)))))))
theorem fe_209_41 {d : Nat} (hd : 1 ≤ d) : ∀ (n : Nat) (x1 : Int32) (x2 : Int64) (x4 : Int32) (σ : fx_S) (q : Bool × fx_S), fm_209_41 n x1 x2 x4 σ = some q → fx_E none 209 d 41 [some (.ref 215), some (.int x1), some (.long x2), none, some (.int x4)] [] σ (some (.int (fx_b q.1))) q.2 := by
  intro n
  induction n with
  | zero =>
    intro x1 x2 x4 σ q  h
    rw [fm_209_41] at h
    exact fx_no h
  | succ n ih =>
    intro x1 x2 x4 σ q  h
    rw [fm_209_41] at h
    refine fs_iload (k := 4) (p := 43) (by decide +kernel) rfl rfl ?_
    refine fs_bipush (n := 8) (p := 45) (by decide +kernel) rfl kb_8 ?_
    by_cases c2 : (8 : Int32) ≤ x4
    · rw [if_pos c2] at h
      refine fs_icmp_ge_t (off := 54) (t := 99) (by decide +kernel) (by decide +kernel) c2 ?_
      refine fs_lload_n (k := 2) (p := 100) (by decide +kernel) rfl rfl ?_
      refine fs_lconst (n := 0) (p := 101) (by decide +kernel) rfl kl_0 ?_
      by_cases c4 : x2 ≤ (0 : Int64)
      · rw [if_pos c4] at h
        refine fs_lcmp_le_t (off := 7) (t := 109) (by decide +kernel) (by decide +kernel) (by decide +kernel) c4 ?_
        refine fs_iconst (n := 0) (p := 110) (by decide +kernel) rfl kc_0 ?_
        have h := Option.some.inj h
        subst h
        exact fs_zret (b := false) (by decide +kernel) rt_209
      · rw [if_neg c4] at h
        refine fs_lcmp_le_f (off := 7) (t := 109) (p := 105) (by decide +kernel) (by decide +kernel) (by decide +kernel) rfl c4 ?_
        refine fs_iconst (n := 1) (p := 106) (by decide +kernel) rfl kc_1 ?_
        refine fs_goto (off := 4) (p := 110) (by decide +kernel) (by decide +kernel) ?_
        have h := Option.some.inj h
        subst h
        exact fs_zret (b := true) (by decide +kernel) rt_209
    · rw [if_neg c2] at h
      refine fs_icmp_ge_f (off := 54) (t := 99) (p := 48) (by decide +kernel) (by decide +kernel) rfl c2 ?_
      refine fs_aload_n (k := 0) (p := 49) (by decide +kernel) rfl rfl ?_
      refine fs_iload (k := 4) (p := 51) (by decide +kernel) rfl rfl ?_
      obtain ⟨q6, w5, h⟩ := fx_bd h
      refine fs_callV (idx := 394) (mj := 208) (ci := 10) (na := 1) (mx := 4) (p := 54) (args := [.ref 215, .int x4]) (rest := []) (al2 := [some (.ref 215), some (.int x4), none, none]) (by decide +kernel) rfl (by decide +kernel) fo_215 rfl rfl rfl rfl rfl rfl rfl (by omega) (fun d' hd' => fe_208 (by omega) w5) rfl ?_
      by_cases c7 : (fx_b q6.1) = 0
      · rw [if_pos c7] at h
        refine fs_if_eq_t (off := 39) (t := 93) (by decide +kernel) (by decide +kernel) c7 ?_
        exact fe_209_93 hd ih _ _ _ _ _ h
      · rw [if_neg c7] at h
        refine fs_if_eq_f (off := 39) (t := 93) (p := 57) (by decide +kernel) (by decide +kernel) rfl c7 ?_
        refine fs_aload_n (k := 0) (p := 58) (by decide +kernel) rfl rfl ?_
        refine fs_dup (p := 59) (by decide +kernel) rfl rfl ?_
        refine fs_gfl (idx := 388) (ci := 10) (j := 40) (p := 62) (by decide +kernel) rfl (by decide +kernel) fo_215 ?_
        refine fs_aload_n (k := 0) (p := 63) (by decide +kernel) rfl rfl ?_
        refine fs_iload_n (k := 1) (p := 64) (by decide +kernel) rfl rfl ?_
        refine fs_iload (k := 4) (p := 66) (by decide +kernel) rfl rfl ?_
        obtain ⟨q9, w8, h⟩ := fx_bd h
        refine fs_callV (idx := 264) (mj := 155) (ci := 10) (na := 2) (mx := 3) (p := 69) (args := [.ref 215, .int x1, .int x4]) (rest := [.long (q6.2.2 215 40), .ref 215]) (al2 := [some (.ref 215), some (.int x1), some (.int x4)]) (by decide +kernel) rfl (by decide +kernel) fo_215 rfl rfl rfl rfl rfl rfl rfl (by omega) (fun d' hd' => fe_155 (by omega) w8) rfl ?_
        refine fs_i2l (p := 70) (by decide +kernel) rfl ?_
        refine fs_lload_n (k := 2) (p := 71) (by decide +kernel) rfl rfl ?_
        refine fs_lmul (p := 72) (by decide +kernel) rfl ?_
        refine fs_aload_n (k := 0) (p := 73) (by decide +kernel) rfl rfl ?_
        refine fs_gfi (idx := 382) (ci := 10) (j := 42) (p := 76) (by decide +kernel) rfl (by decide +kernel) fo_215 ?_
        refine fs_i2l (p := 77) (by decide +kernel) rfl ?_
        refine fs_aload_n (k := 0) (p := 78) (by decide +kernel) rfl rfl ?_
        refine fs_iload (k := 4) (p := 80) (by decide +kernel) rfl rfl ?_
        obtain ⟨q13, w12, h⟩ := fx_bd h
        refine fs_callV (idx := 385) (mj := 206) (ci := 10) (na := 1) (mx := 4) (p := 83) (args := [.ref 215, .int x4]) (rest := [.long ((q9.2.1 215 42)).toInt64, .long ((q9.1).toInt64 * x2), .long (q6.2.2 215 40), .ref 215]) (al2 := [some (.ref 215), some (.int x4), none, none]) (by decide +kernel) rfl (by decide +kernel) fo_215 rfl rfl rfl rfl rfl rfl rfl (by omega) (fun d' hd' => fe_206 (by omega) w12) rfl ?_
        refine fs_i2l (p := 84) (by decide +kernel) rfl ?_
        refine fs_lmul (p := 85) (by decide +kernel) rfl ?_
        refine fs_lsub (p := 86) (by decide +kernel) rfl ?_
        refine fs_abl (idx := 397) (p := 89) (by decide +kernel) rfl (by decide +kernel) rfl ?_
        refine fs_ladd (p := 90) (by decide +kernel) rfl ?_
        refine fs_pfl (idx := 388) (ci := 10) (j := 40) (p := 93) (by decide +kernel) rfl (by decide +kernel) (by decide +kernel) fo_215 ?_
        exact fe_209_93 hd ih _ _ _ _ _ h
def fm_209_5 : Nat → Int32 → Int64 → Int32 → fx_S → Option (Bool × fx_S)
  | 0, _, _, _, _ => none
  | n + 1, x1, x2, x4, σ =>
    if (8 : Int32) ≤ x4 then (
      fm_209_41 100000 x1 x2 (0 : Int32) (fx_w2 (fx_w2 σ 215 40 (0 : Int64)) 215 41 x2)) else (
      (fm_206 x4 σ).bind fun q4 =>
      fm_209_5 n x1 (x2 + (q4.1).toInt64) (x4 + (1 : Int32)) q4.2)
theorem fe_209_5 {d : Nat} (hd : 1 ≤ d) : ∀ (n : Nat) (x1 : Int32) (x2 : Int64) (x4 : Int32) (σ : fx_S) (q : Bool × fx_S), fm_209_5 n x1 x2 x4 σ = some q → fx_E none 209 d 5 [some (.ref 215), some (.int x1), some (.long x2), none, some (.int x4)] [] σ (some (.int (fx_b q.1))) q.2 := by
  intro n
  induction n with
  | zero =>
    intro x1 x2 x4 σ q  h
    rw [fm_209_5] at h
    exact fx_no h
  | succ n ih =>
    intro x1 x2 x4 σ q  h
    rw [fm_209_5] at h
    refine fs_iload (k := 4) (p := 7) (by decide +kernel) rfl rfl ?_
    refine fs_bipush (n := 8) (p := 9) (by decide +kernel) rfl kb_8 ?_
    by_cases c2 : (8 : Int32) ≤ x4
    · rw [if_pos c2] at h
      refine fs_icmp_ge_t (off := 19) (t := 28) (by decide +kernel) (by decide +kernel) c2 ?_
      refine fs_aload_n (k := 0) (p := 29) (by decide +kernel) rfl rfl ?_
      refine fs_lconst (n := 0) (p := 30) (by decide +kernel) rfl kl_0 ?_
      refine fs_pfl (idx := 388) (ci := 10) (j := 40) (p := 33) (by decide +kernel) rfl (by decide +kernel) (by decide +kernel) fo_215 ?_
      refine fs_aload_n (k := 0) (p := 34) (by decide +kernel) rfl rfl ?_
      refine fs_lload_n (k := 2) (p := 35) (by decide +kernel) rfl rfl ?_
      refine fs_pfl (idx := 391) (ci := 10) (j := 41) (p := 38) (by decide +kernel) rfl (by decide +kernel) (by decide +kernel) fo_215 ?_
      refine fs_iconst (n := 0) (p := 39) (by decide +kernel) rfl kc_0 ?_
      refine fs_istore (k := 4) (p := 41) (M := 5) (al' := [some (.ref 215), some (.int x1), some (.long x2), none, some (.int (0 : Int32))]) (by decide +kernel) rfl mx_209 rfl rfl ?_
      exact fe_209_41 hd 100000 _ _ _ _ _ h
    · rw [if_neg c2] at h
      refine fs_icmp_ge_f (off := 19) (t := 28) (p := 12) (by decide +kernel) (by decide +kernel) rfl c2 ?_
      refine fs_lload_n (k := 2) (p := 13) (by decide +kernel) rfl rfl ?_
      refine fs_aload_n (k := 0) (p := 14) (by decide +kernel) rfl rfl ?_
      refine fs_iload (k := 4) (p := 16) (by decide +kernel) rfl rfl ?_
      obtain ⟨q4, w3, h⟩ := fx_bd h
      refine fs_callV (idx := 385) (mj := 206) (ci := 10) (na := 1) (mx := 4) (p := 19) (args := [.ref 215, .int x4]) (rest := [.long x2]) (al2 := [some (.ref 215), some (.int x4), none, none]) (by decide +kernel) rfl (by decide +kernel) fo_215 rfl rfl rfl rfl rfl rfl rfl (by omega) (fun d' hd' => fe_206 (by omega) w3) rfl ?_
      refine fs_i2l (p := 20) (by decide +kernel) rfl ?_
      refine fs_ladd (p := 21) (by decide +kernel) rfl ?_
      refine fs_lstore_n (k := 2) (p := 22) (M := 5) (al' := [some (.ref 215), some (.int x1), some (.long (x2 + (q4.1).toInt64)), none, some (.int x4)]) (by decide +kernel) rfl mx_209 rfl rfl ?_
      refine fs_iinc (k := 4) (n := 1) (p := 25) (M := 5) (al' := [some (.ref 215), some (.int x1), some (.long (x2 + (q4.1).toInt64)), none, some (.int (x4 + (1 : Int32)))]) (by decide +kernel) rfl kc_1 mx_209 rfl rfl rfl ?_
      refine fs_goto (off := -20) (p := 5) (by decide +kernel) (by decide +kernel) ?_
      exact ih _ _ _ _ _ h
def fm_209 (x1 : Int32) (σ : fx_S) : Option (Bool × fx_S) :=
  fm_209_5 100000 x1 (0 : Int64) (0 : Int32) σ
theorem fe_209 {d : Nat} (hd : 1 ≤ d) {x1 : Int32} {σ : fx_S} {q : Bool × fx_S} (h : fm_209 x1 σ = some q) : fx_E none 209 d 0 [some (.ref 215), some (.int x1), none, none, none] [] σ (some (.int (fx_b q.1))) q.2 := by
  unfold fm_209 at h
  refine fs_lconst (n := 0) (p := 1) (by decide +kernel) rfl kl_0 ?_
  refine fs_lstore_n (k := 2) (p := 2) (M := 5) (al' := [some (.ref 215), some (.int x1), some (.long (0 : Int64)), none, none]) (by decide +kernel) rfl mx_209 rfl rfl ?_
  refine fs_iconst (n := 0) (p := 3) (by decide +kernel) rfl kc_0 ?_
  refine fs_istore (k := 4) (p := 5) (M := 5) (al' := [some (.ref 215), some (.int x1), some (.long (0 : Int64)), none, some (.int (0 : Int32))]) (by decide +kernel) rfl mx_209 rfl rfl ?_
  exact fe_209_5 hd 100000 _ _ _ _ _ h

/-! ZoneSharesModel.misfit(II)J -/
theorem mx_210 : iv_mx 210 = 3 := by decide +kernel
theorem rt_210 : iv_rt 210 = some .long := by decide +kernel
def fm_210_24 (σ : fx_S) : Option (Int64 × fx_S) :=
  some ((-1 : Int64), σ)
theorem fe_210_24 {d : Nat} (hd : 3 ≤ d) (o0 : Option Value) (o1 : Option Value) (o2 : Option Value) (σ : fx_S) (q : Int64 × fx_S) (h : fm_210_24  σ = some q) : fx_E none 210 d 24 [o0, o1, o2] [] σ (some (.long q.1)) q.2 := by
  unfold fm_210_24 at h
  refine fs_ldc2 (idx := 306) (p := 27) (x := -1) (by decide +kernel) rfl (by decide +kernel) ?_
  have h := Option.some.inj h
  subst h
  exact fs_lret (by decide +kernel) rt_210
def fm_210_48 (σ : fx_S) : Option (Int64 × fx_S) :=
  some ((-1 : Int64), σ)
theorem fe_210_48 {d : Nat} (hd : 3 ≤ d) (o0 : Option Value) (o1 : Option Value) (o2 : Option Value) (σ : fx_S) (q : Int64 × fx_S) (h : fm_210_48  σ = some q) : fx_E none 210 d 48 [o0, o1, o2] [] σ (some (.long q.1)) q.2 := by
  unfold fm_210_48 at h
  refine fs_ldc2 (idx := 306) (p := 51) (x := -1) (by decide +kernel) rfl (by decide +kernel) ?_
  have h := Option.some.inj h
  subst h
  exact fs_lret (by decide +kernel) rt_210
def fm_210 (x1 : Int32) (x2 : Int32) (σ : fx_S) : Option (Int64 × fx_S) :=
  (fm_150 σ).bind fun q21 =>
  if (fx_b q21.1) = 0 then (
    fm_210_24 q21.2) else (
    (fm_148 x1 q21.2).bind fun q24 =>
    if (fx_b q24.1) = 0 then (
      fm_210_24 q24.2) else (
      (fm_130 (x2).toInt64 (0 : Int64) (1 : Int64) q24.2).bind fun q28 =>
      if ¬ (fx_b q28.1) = 0 then (
        (fm_205 x1 q28.2).bind fun q31 =>
        if (q31.1 215 42) = 0 then (
          fm_210_48 q31) else (
          (fm_209 x1 q31).bind fun q35 =>
          if ¬ (fx_b q35.1) = 0 then (
            (fm_194 (q35.2.2 215 40) (q35.2.2 215 41) x2 q35.2).bind fun q38 =>
            some (q38.1, q38.2)) else (
            fm_210_48 q35.2))) else (
        fm_210_24 q28.2)))
theorem fe_210 {d : Nat} (hd : 3 ≤ d) {x1 : Int32} {x2 : Int32} {σ : fx_S} {q : Int64 × fx_S} (h : fm_210 x1 x2 σ = some q) : fx_E none 210 d 0 [some (.ref 215), some (.int x1), some (.int x2)] [] σ (some (.long q.1)) q.2 := by
  unfold fm_210 at h
  refine fs_aload_n (k := 0) (p := 1) (by decide +kernel) rfl rfl ?_
  obtain ⟨q21, w20, h⟩ := fx_bd h
  refine fs_callV (idx := 303) (mj := 150) (ci := 10) (na := 0) (mx := 1) (p := 4) (args := [.ref 215]) (rest := []) (al2 := [some (.ref 215)]) (by decide +kernel) rfl (by decide +kernel) fo_215 rfl rfl rfl rfl rfl rfl rfl (by omega) (fun d' hd' => fe_150 (by omega) w20) rfl ?_
  by_cases c22 : (fx_b q21.1) = 0
  · rw [if_pos c22] at h
    refine fs_if_eq_t (off := 20) (t := 24) (by decide +kernel) (by decide +kernel) c22 ?_
    exact fe_210_24 hd _ _ _ _ _ h
  · rw [if_neg c22] at h
    refine fs_if_eq_f (off := 20) (t := 24) (p := 7) (by decide +kernel) (by decide +kernel) rfl c22 ?_
    refine fs_iload_n (k := 1) (p := 8) (by decide +kernel) rfl rfl ?_
    obtain ⟨q24, w23, h⟩ := fx_bd h
    refine fs_callS (idx := 190) (mj := 148) (na := 1) (mx := 1) (p := 11) (args := [.int x1]) (rest := []) (al2 := [some (.int x1)]) (by decide +kernel) rfl (by decide +kernel) rfl rfl rfl rfl rfl rfl rfl (by omega) (fun d' hd' => fe_148 (by omega) w23) rfl ?_
    by_cases c25 : (fx_b q24.1) = 0
    · rw [if_pos c25] at h
      refine fs_if_eq_t (off := 13) (t := 24) (by decide +kernel) (by decide +kernel) c25 ?_
      exact fe_210_24 hd _ _ _ _ _ h
    · rw [if_neg c25] at h
      refine fs_if_eq_f (off := 13) (t := 24) (p := 14) (by decide +kernel) (by decide +kernel) rfl c25 ?_
      refine fs_iload_n (k := 2) (p := 15) (by decide +kernel) rfl rfl ?_
      refine fs_i2l (p := 16) (by decide +kernel) rfl ?_
      refine fs_lconst (n := 0) (p := 17) (by decide +kernel) rfl kl_0 ?_
      refine fs_lconst (n := 1) (p := 18) (by decide +kernel) rfl kl_1 ?_
      obtain ⟨q28, w27, h⟩ := fx_bd h
      refine fs_callS (idx := 128) (mj := 130) (na := 3) (mx := 6) (p := 21) (args := [.long (x2).toInt64, .long (0 : Int64), .long (1 : Int64)]) (rest := []) (al2 := [some (.long (x2).toInt64), none, some (.long (0 : Int64)), none, some (.long (1 : Int64)), none]) (by decide +kernel) rfl (by decide +kernel) rfl rfl rfl rfl rfl rfl rfl (by omega) (fun d' hd' => fe_130 (by omega) w27) rfl ?_
      by_cases c29 : ¬ (fx_b q28.1) = 0
      · rw [if_pos c29] at h
        refine fs_if_ne_t (off := 7) (t := 28) (by decide +kernel) (by decide +kernel) c29 ?_
        refine fs_aload_n (k := 0) (p := 29) (by decide +kernel) rfl rfl ?_
        refine fs_iload_n (k := 1) (p := 30) (by decide +kernel) rfl rfl ?_
        obtain ⟨q31, w30, h⟩ := fx_bd h
        refine fs_callV (idx := 400) (mj := 205) (ci := 10) (na := 1) (mx := 3) (p := 33) (args := [.ref 215, .int x1]) (rest := []) (al2 := [some (.ref 215), some (.int x1), none]) (by decide +kernel) rfl (by decide +kernel) fo_215 rfl rfl rfl rfl rfl rfl rfl (by omega) (fun d' hd' => fe_205 (by omega) w30) rfl ?_
        refine fs_aload_n (k := 0) (p := 34) (by decide +kernel) rfl rfl ?_
        refine fs_gfi (idx := 382) (ci := 10) (j := 42) (p := 37) (by decide +kernel) rfl (by decide +kernel) fo_215 ?_
        by_cases c33 : (q31.1 215 42) = 0
        · rw [if_pos c33] at h
          refine fs_if_eq_t (off := 11) (t := 48) (by decide +kernel) (by decide +kernel) c33 ?_
          exact fe_210_48 hd _ _ _ _ _ h
        · rw [if_neg c33] at h
          refine fs_if_eq_f (off := 11) (t := 48) (p := 40) (by decide +kernel) (by decide +kernel) rfl c33 ?_
          refine fs_aload_n (k := 0) (p := 41) (by decide +kernel) rfl rfl ?_
          refine fs_iload_n (k := 1) (p := 42) (by decide +kernel) rfl rfl ?_
          obtain ⟨q35, w34, h⟩ := fx_bd h
          refine fs_callV (idx := 403) (mj := 209) (ci := 10) (na := 1) (mx := 5) (p := 45) (args := [.ref 215, .int x1]) (rest := []) (al2 := [some (.ref 215), some (.int x1), none, none, none]) (by decide +kernel) rfl (by decide +kernel) fo_215 rfl rfl rfl rfl rfl rfl rfl (by omega) (fun d' hd' => fe_209 (by omega) w34) rfl ?_
          by_cases c36 : ¬ (fx_b q35.1) = 0
          · rw [if_pos c36] at h
            refine fs_if_ne_t (off := 7) (t := 52) (by decide +kernel) (by decide +kernel) c36 ?_
            refine fs_aload_n (k := 0) (p := 53) (by decide +kernel) rfl rfl ?_
            refine fs_gfl (idx := 388) (ci := 10) (j := 40) (p := 56) (by decide +kernel) rfl (by decide +kernel) fo_215 ?_
            refine fs_aload_n (k := 0) (p := 57) (by decide +kernel) rfl rfl ?_
            refine fs_gfl (idx := 391) (ci := 10) (j := 41) (p := 60) (by decide +kernel) rfl (by decide +kernel) fo_215 ?_
            refine fs_iload_n (k := 2) (p := 61) (by decide +kernel) rfl rfl ?_
            obtain ⟨q38, w37, h⟩ := fx_bd h
            refine fs_callS (idx := 342) (mj := 194) (na := 3) (mx := 7) (p := 64) (args := [.long (q35.2.2 215 40), .long (q35.2.2 215 41), .int x2]) (rest := []) (al2 := [some (.long (q35.2.2 215 40)), none, some (.long (q35.2.2 215 41)), none, some (.int x2), none, none]) (by decide +kernel) rfl (by decide +kernel) rfl rfl rfl rfl rfl rfl rfl (by omega) (fun d' hd' => fe_194 (by omega) w37) rfl ?_
            have h := Option.some.inj h
            subst h
            exact fs_lret (by decide +kernel) rt_210
          · rw [if_neg c36] at h
            refine fs_if_ne_f (off := 7) (t := 52) (p := 48) (by decide +kernel) (by decide +kernel) rfl c36 ?_
            exact fe_210_48 hd _ _ _ _ _ h
      · rw [if_neg c29] at h
        refine fs_if_ne_f (off := 7) (t := 28) (p := 24) (by decide +kernel) (by decide +kernel) rfl c29 ?_
        exact fe_210_24 hd _ _ _ _ _ h

/-! ZoneSharesModel.isWeight(III)Z -/
theorem mx_213 : iv_mx 213 = 5 := by decide +kernel
theorem rt_213 : iv_rt 213 = some .boolean := by decide +kernel
def fm_213_40 (k_3 : Int32 → Int32 → Int32 → Int32 → fx_S → Option (Bool × fx_S)) (x1 : Int32) (x2 : Int32) (x3 : Int32) (x4 : Int32) (σ : fx_S) : Option (Bool × fx_S) :=
  k_3 x1 x2 x3 (x4 + (1 : Int32)) σ
theorem fe_213_40 {d : Nat} (hd : 0 ≤ d) {k_3 : Int32 → Int32 → Int32 → Int32 → fx_S → Option (Bool × fx_S)} (hk_3 : ∀ (x1 : Int32) (x2 : Int32) (x3 : Int32) (x4 : Int32) (σ : fx_S) (q : Bool × fx_S), k_3 x1 x2 x3 x4 σ = some q → fx_E none 213 d 3 [some (.ref 215), some (.int x1), some (.int x2), some (.int x3), some (.int x4)] [] σ (some (.int (fx_b q.1))) q.2) (x1 : Int32) (x2 : Int32) (x3 : Int32) (x4 : Int32) (σ : fx_S) (q : Bool × fx_S) (h : fm_213_40 k_3  x1 x2 x3 x4 σ = some q) : fx_E none 213 d 40 [some (.ref 215), some (.int x1), some (.int x2), some (.int x3), some (.int x4)] [] σ (some (.int (fx_b q.1))) q.2 := by
  unfold fm_213_40 at h
  refine fs_iinc (k := 4) (n := 1) (p := 43) (M := 5) (al' := [some (.ref 215), some (.int x1), some (.int x2), some (.int x3), some (.int (x4 + (1 : Int32)))]) (by decide +kernel) rfl kc_1 mx_213 rfl rfl rfl ?_
  refine fs_goto (off := -40) (p := 3) (by decide +kernel) (by decide +kernel) ?_
  exact hk_3 _ _ _ _ _ _ h
def fm_213_20 (k_3 : Int32 → Int32 → Int32 → Int32 → fx_S → Option (Bool × fx_S)) (x1 : Int32) (x2 : Int32) (x3 : Int32) (x4 : Int32) (σ : fx_S) : Option (Bool × fx_S) :=
  (fx_ld σ 216 (((32 : Int32) + ((4 : Int32) * x4)) + x2)).bind fun v1 =>
  if v1 = x3 then (
    fm_213_40 k_3 x1 x2 x3 x4 σ) else (
    some (false, σ))
theorem fe_213_20 {d : Nat} (hd : 0 ≤ d) {k_3 : Int32 → Int32 → Int32 → Int32 → fx_S → Option (Bool × fx_S)} (hk_3 : ∀ (x1 : Int32) (x2 : Int32) (x3 : Int32) (x4 : Int32) (σ : fx_S) (q : Bool × fx_S), k_3 x1 x2 x3 x4 σ = some q → fx_E none 213 d 3 [some (.ref 215), some (.int x1), some (.int x2), some (.int x3), some (.int x4)] [] σ (some (.int (fx_b q.1))) q.2) (x1 : Int32) (x2 : Int32) (x3 : Int32) (x4 : Int32) (σ : fx_S) (q : Bool × fx_S) (h : fm_213_20 k_3  x1 x2 x3 x4 σ = some q) : fx_E none 213 d 20 [some (.ref 215), some (.int x1), some (.int x2), some (.int x3), some (.int x4)] [] σ (some (.int (fx_b q.1))) q.2 := by
  unfold fm_213_20 at h
  refine fs_aload_n (k := 0) (p := 21) (by decide +kernel) rfl rfl ?_
  refine fs_gfr (idx := 9) (ci := 10) (j := 0) (p := 24) (by decide +kernel) rfl (by decide +kernel) fo_215 (fr_a215_0) ?_
  refine fs_bipush (n := 32) (p := 26) (by decide +kernel) rfl kb_32 ?_
  refine fs_iconst (n := 4) (p := 27) (by decide +kernel) rfl kc_4 ?_
  refine fs_iload (k := 4) (p := 29) (by decide +kernel) rfl rfl ?_
  refine fs_imul (p := 30) (by decide +kernel) rfl ?_
  refine fs_iadd (p := 31) (by decide +kernel) rfl ?_
  refine fs_iload_n (k := 2) (p := 32) (by decide +kernel) rfl rfl ?_
  refine fs_iadd (p := 33) (by decide +kernel) rfl ?_
  obtain ⟨v1, w2, h⟩ := fx_bd h
  refine fs_iaload (p := 34) (by decide +kernel) rfl w2 ?_
  refine fs_iload_n (k := 3) (p := 35) (by decide +kernel) rfl rfl ?_
  by_cases c6 : v1 = x3
  · rw [if_pos c6] at h
    refine fs_icmp_eq_t (off := 5) (t := 40) (by decide +kernel) (by decide +kernel) c6 ?_
    exact fe_213_40 hd hk_3 _ _ _ _ _ _ h
  · rw [if_neg c6] at h
    refine fs_icmp_eq_f (off := 5) (t := 40) (p := 38) (by decide +kernel) (by decide +kernel) rfl c6 ?_
    refine fs_iconst (n := 0) (p := 39) (by decide +kernel) rfl kc_0 ?_
    have h := Option.some.inj h
    subst h
    exact fs_zret (b := false) (by decide +kernel) rt_213
def fm_213_3 : Nat → Int32 → Int32 → Int32 → Int32 → fx_S → Option (Bool × fx_S)
  | 0, _, _, _, _, _ => none
  | n + 1, x1, x2, x3, x4, σ =>
    if (3 : Int32) ≤ x4 then (
      some (true, σ)) else (
      if x1 = (-1 : Int32) then (
        fm_213_20 (fm_213_3 n) x1 x2 x3 x4 σ) else (
        if ¬ x1 = x4 then (
          fm_213_40 (fm_213_3 n) x1 x2 x3 x4 σ) else (
          fm_213_20 (fm_213_3 n) x1 x2 x3 x4 σ)))
theorem fe_213_3 {d : Nat} (hd : 0 ≤ d) : ∀ (n : Nat) (x1 : Int32) (x2 : Int32) (x3 : Int32) (x4 : Int32) (σ : fx_S) (q : Bool × fx_S), fm_213_3 n x1 x2 x3 x4 σ = some q → fx_E none 213 d 3 [some (.ref 215), some (.int x1), some (.int x2), some (.int x3), some (.int x4)] [] σ (some (.int (fx_b q.1))) q.2 := by
  intro n
  induction n with
  | zero =>
    intro x1 x2 x3 x4 σ q  h
    rw [fm_213_3] at h
    exact fx_no h
  | succ n ih =>
    intro x1 x2 x3 x4 σ q  h
    rw [fm_213_3] at h
    refine fs_iload (k := 4) (p := 5) (by decide +kernel) rfl rfl ?_
    refine fs_iconst (n := 3) (p := 6) (by decide +kernel) rfl kc_3 ?_
    by_cases c2 : (3 : Int32) ≤ x4
    · rw [if_pos c2] at h
      refine fs_icmp_ge_t (off := 40) (t := 46) (by decide +kernel) (by decide +kernel) c2 ?_
      refine fs_iconst (n := 1) (p := 47) (by decide +kernel) rfl kc_1 ?_
      have h := Option.some.inj h
      subst h
      exact fs_zret (b := true) (by decide +kernel) rt_213
    · rw [if_neg c2] at h
      refine fs_icmp_ge_f (off := 40) (t := 46) (p := 9) (by decide +kernel) (by decide +kernel) rfl c2 ?_
      refine fs_iload_n (k := 1) (p := 10) (by decide +kernel) rfl rfl ?_
      refine fs_iconst (n := -1) (p := 11) (by decide +kernel) rfl kc_m1 ?_
      by_cases c4 : x1 = (-1 : Int32)
      · rw [if_pos c4] at h
        refine fs_icmp_eq_t (off := 9) (t := 20) (by decide +kernel) (by decide +kernel) c4 ?_
        exact fe_213_20 hd ih _ _ _ _ _ _ h
      · rw [if_neg c4] at h
        refine fs_icmp_eq_f (off := 9) (t := 20) (p := 14) (by decide +kernel) (by decide +kernel) rfl c4 ?_
        refine fs_iload_n (k := 1) (p := 15) (by decide +kernel) rfl rfl ?_
        refine fs_iload (k := 4) (p := 17) (by decide +kernel) rfl rfl ?_
        by_cases c5 : ¬ x1 = x4
        · rw [if_pos c5] at h
          refine fs_icmp_ne_t (off := 23) (t := 40) (by decide +kernel) (by decide +kernel) c5 ?_
          exact fe_213_40 hd ih _ _ _ _ _ _ h
        · rw [if_neg c5] at h
          refine fs_icmp_ne_f (off := 23) (t := 40) (p := 20) (by decide +kernel) (by decide +kernel) rfl c5 ?_
          exact fe_213_20 hd ih _ _ _ _ _ _ h
def fm_213 (x1 : Int32) (x2 : Int32) (x3 : Int32) (σ : fx_S) : Option (Bool × fx_S) :=
  fm_213_3 100000 x1 x2 x3 (0 : Int32) σ
theorem fe_213 {d : Nat} (hd : 0 ≤ d) {x1 : Int32} {x2 : Int32} {x3 : Int32} {σ : fx_S} {q : Bool × fx_S} (h : fm_213 x1 x2 x3 σ = some q) : fx_E none 213 d 0 [some (.ref 215), some (.int x1), some (.int x2), some (.int x3), none] [] σ (some (.int (fx_b q.1))) q.2 := by
  unfold fm_213 at h
  refine fs_iconst (n := 0) (p := 1) (by decide +kernel) rfl kc_0 ?_
  refine fs_istore (k := 4) (p := 3) (M := 5) (al' := [some (.ref 215), some (.int x1), some (.int x2), some (.int x3), some (.int (0 : Int32))]) (by decide +kernel) rfl mx_213 rfl rfl ?_
  exact fe_213_3 hd 100000 _ _ _ _ _ _ h

/-! ZoneSharesModel.weigh(III)I -/
theorem mx_214 : iv_mx 214 = 6 := by decide +kernel
theorem rt_214 : iv_rt 214 = some .int := by decide +kernel
def fm_214_111 (k_79 : Int32 → Int32 → Int32 → Int32 → Int32 → fx_S → Option (Int32 × fx_S)) (x1 : Int32) (x2 : Int32) (x3 : Int32) (x4 : Int32) (x5 : Int32) (σ : fx_S) : Option (Int32 × fx_S) :=
  k_79 x1 x2 x3 x4 (x5 + (1 : Int32)) σ
theorem fe_214_111 {d : Nat} (hd : 1 ≤ d) {k_79 : Int32 → Int32 → Int32 → Int32 → Int32 → fx_S → Option (Int32 × fx_S)} (hk_79 : ∀ (x1 : Int32) (x2 : Int32) (x3 : Int32) (x4 : Int32) (x5 : Int32) (σ : fx_S) (q : Int32 × fx_S), k_79 x1 x2 x3 x4 x5 σ = some q → fx_E none 214 d 79 [some (.ref 215), some (.int x1), some (.int x2), some (.int x3), some (.int x4), some (.int x5)] [] σ (some (.int q.1)) q.2) (x1 : Int32) (x2 : Int32) (x3 : Int32) (x4 : Int32) (x5 : Int32) (σ : fx_S) (q : Int32 × fx_S) (h : fm_214_111 k_79  x1 x2 x3 x4 x5 σ = some q) : fx_E none 214 d 111 [some (.ref 215), some (.int x1), some (.int x2), some (.int x3), some (.int x4), some (.int x5)] [] σ (some (.int q.1)) q.2 := by
  unfold fm_214_111 at h
  refine fs_iinc (k := 5) (n := 1) (p := 114) (M := 6) (al' := [some (.ref 215), some (.int x1), some (.int x2), some (.int x3), some (.int x4), some (.int (x5 + (1 : Int32)))]) (by decide +kernel) rfl kc_1 mx_214 rfl rfl rfl ?_
  refine fs_goto (off := -35) (p := 79) (by decide +kernel) (by decide +kernel) ?_
  exact hk_79 _ _ _ _ _ _ _ h
def fm_214_96 (k_79 : Int32 → Int32 → Int32 → Int32 → Int32 → fx_S → Option (Int32 × fx_S)) (x1 : Int32) (x2 : Int32) (x3 : Int32) (x4 : Int32) (x5 : Int32) (σ : fx_S) : Option (Int32 × fx_S) :=
  (fx_st σ 216 (((32 : Int32) + ((4 : Int32) * x5)) + x2) x3).bind fun t1 =>
  fm_214_111 k_79 x1 x2 x3 x4 x5 t1
theorem fe_214_96 {d : Nat} (hd : 1 ≤ d) {k_79 : Int32 → Int32 → Int32 → Int32 → Int32 → fx_S → Option (Int32 × fx_S)} (hk_79 : ∀ (x1 : Int32) (x2 : Int32) (x3 : Int32) (x4 : Int32) (x5 : Int32) (σ : fx_S) (q : Int32 × fx_S), k_79 x1 x2 x3 x4 x5 σ = some q → fx_E none 214 d 79 [some (.ref 215), some (.int x1), some (.int x2), some (.int x3), some (.int x4), some (.int x5)] [] σ (some (.int q.1)) q.2) (x1 : Int32) (x2 : Int32) (x3 : Int32) (x4 : Int32) (x5 : Int32) (σ : fx_S) (q : Int32 × fx_S) (h : fm_214_96 k_79  x1 x2 x3 x4 x5 σ = some q) : fx_E none 214 d 96 [some (.ref 215), some (.int x1), some (.int x2), some (.int x3), some (.int x4), some (.int x5)] [] σ (some (.int q.1)) q.2 := by
  unfold fm_214_96 at h
  refine fs_aload_n (k := 0) (p := 97) (by decide +kernel) rfl rfl ?_
  refine fs_gfr (idx := 9) (ci := 10) (j := 0) (p := 100) (by decide +kernel) rfl (by decide +kernel) fo_215 (fr_a215_0) ?_
  refine fs_bipush (n := 32) (p := 102) (by decide +kernel) rfl kb_32 ?_
  refine fs_iconst (n := 4) (p := 103) (by decide +kernel) rfl kc_4 ?_
  refine fs_iload (k := 5) (p := 105) (by decide +kernel) rfl rfl ?_
  refine fs_imul (p := 106) (by decide +kernel) rfl ?_
  refine fs_iadd (p := 107) (by decide +kernel) rfl ?_
  refine fs_iload_n (k := 2) (p := 108) (by decide +kernel) rfl rfl ?_
  refine fs_iadd (p := 109) (by decide +kernel) rfl ?_
  refine fs_iload_n (k := 3) (p := 110) (by decide +kernel) rfl rfl ?_
  obtain ⟨t1, w2, h⟩ := fx_bd h
  refine fs_iastore (p := 111) (by decide +kernel) rfl w2 ?_
  exact fe_214_111 hd hk_79 _ _ _ _ _ _ _ h
def fm_214_79 : Nat → Int32 → Int32 → Int32 → Int32 → Int32 → fx_S → Option (Int32 × fx_S)
  | 0, _, _, _, _, _, _ => none
  | n + 1, x1, x2, x3, x4, x5, σ =>
    if (3 : Int32) ≤ x5 then (
      some (x4, σ)) else (
      if x1 = (-1 : Int32) then (
        fm_214_96 (fm_214_79 n) x1 x2 x3 x4 x5 σ) else (
        if ¬ x1 = x5 then (
          fm_214_111 (fm_214_79 n) x1 x2 x3 x4 x5 σ) else (
          fm_214_96 (fm_214_79 n) x1 x2 x3 x4 x5 σ)))
theorem fe_214_79 {d : Nat} (hd : 1 ≤ d) : ∀ (n : Nat) (x1 : Int32) (x2 : Int32) (x3 : Int32) (x4 : Int32) (x5 : Int32) (σ : fx_S) (q : Int32 × fx_S), fm_214_79 n x1 x2 x3 x4 x5 σ = some q → fx_E none 214 d 79 [some (.ref 215), some (.int x1), some (.int x2), some (.int x3), some (.int x4), some (.int x5)] [] σ (some (.int q.1)) q.2 := by
  intro n
  induction n with
  | zero =>
    intro x1 x2 x3 x4 x5 σ q  h
    rw [fm_214_79] at h
    exact fx_no h
  | succ n ih =>
    intro x1 x2 x3 x4 x5 σ q  h
    rw [fm_214_79] at h
    refine fs_iload (k := 5) (p := 81) (by decide +kernel) rfl rfl ?_
    refine fs_iconst (n := 3) (p := 82) (by decide +kernel) rfl kc_3 ?_
    by_cases c2 : (3 : Int32) ≤ x5
    · rw [if_pos c2] at h
      refine fs_icmp_ge_t (off := 35) (t := 117) (by decide +kernel) (by decide +kernel) c2 ?_
      refine fs_iload (k := 4) (p := 119) (by decide +kernel) rfl rfl ?_
      have h := Option.some.inj h
      subst h
      exact fs_iret (by decide +kernel) rt_214
    · rw [if_neg c2] at h
      refine fs_icmp_ge_f (off := 35) (t := 117) (p := 85) (by decide +kernel) (by decide +kernel) rfl c2 ?_
      refine fs_iload_n (k := 1) (p := 86) (by decide +kernel) rfl rfl ?_
      refine fs_iconst (n := -1) (p := 87) (by decide +kernel) rfl kc_m1 ?_
      by_cases c4 : x1 = (-1 : Int32)
      · rw [if_pos c4] at h
        refine fs_icmp_eq_t (off := 9) (t := 96) (by decide +kernel) (by decide +kernel) c4 ?_
        exact fe_214_96 hd ih _ _ _ _ _ _ _ h
      · rw [if_neg c4] at h
        refine fs_icmp_eq_f (off := 9) (t := 96) (p := 90) (by decide +kernel) (by decide +kernel) rfl c4 ?_
        refine fs_iload_n (k := 1) (p := 91) (by decide +kernel) rfl rfl ?_
        refine fs_iload (k := 5) (p := 93) (by decide +kernel) rfl rfl ?_
        by_cases c5 : ¬ x1 = x5
        · rw [if_pos c5] at h
          refine fs_icmp_ne_t (off := 18) (t := 111) (by decide +kernel) (by decide +kernel) c5 ?_
          exact fe_214_111 hd ih _ _ _ _ _ _ _ h
        · rw [if_neg c5] at h
          refine fs_icmp_ne_f (off := 18) (t := 111) (p := 96) (by decide +kernel) (by decide +kernel) rfl c5 ?_
          exact fe_214_96 hd ih _ _ _ _ _ _ _ h
def fm_214 (x1 : Int32) (x2 : Int32) (x3 : Int32) (σ : fx_S) : Option (Int32 × fx_S) :=
  (fm_130 (x1).toInt64 (-1 : Int64) (2 : Int64) σ).bind fun q31 =>
  if (fx_b q31.1) = 0 then (
    some ((-1 : Int32), q31.2)) else (
    (fm_130 (x2).toInt64 (0 : Int64) (3 : Int64) q31.2).bind fun q35 =>
    if (fx_b q35.1) = 0 then (
      some ((-1 : Int32), q35.2)) else (
      (fm_130 (x3).toInt64 (0 : Int64) (9 : Int64) q35.2).bind fun q39 =>
      if ¬ (fx_b q39.1) = 0 then (
        (fm_213 x1 x2 x3 q39.2).bind fun q42 =>
        if (fx_b q42.1) = 0 then (
          (fm_132 q42.2).bind fun q45 =>
          (fx_ld q45 216 (((32 : Int32) + ((4 : Int32) * (if (0 : Int32) < x1 then x1 else (0 : Int32)))) + x2)).bind fun v46 =>
          fm_214_79 100000 x1 x2 x3 v46 (0 : Int32) q45) else (
          some ((-2 : Int32), q42.2))) else (
        some ((-1 : Int32), q39.2))))
theorem fe_214 {d : Nat} (hd : 1 ≤ d) {x1 : Int32} {x2 : Int32} {x3 : Int32} {σ : fx_S} {q : Int32 × fx_S} (h : fm_214 x1 x2 x3 σ = some q) : fx_E none 214 d 0 [some (.ref 215), some (.int x1), some (.int x2), some (.int x3), none, none] [] σ (some (.int q.1)) q.2 := by
  unfold fm_214 at h
  refine fs_iload_n (k := 1) (p := 1) (by decide +kernel) rfl rfl ?_
  refine fs_i2l (p := 2) (by decide +kernel) rfl ?_
  refine fs_ldc2 (idx := 306) (p := 5) (x := -1) (by decide +kernel) rfl (by decide +kernel) ?_
  refine fs_ldc2 (idx := 161) (p := 8) (x := 2) (by decide +kernel) rfl (by decide +kernel) ?_
  obtain ⟨q31, w30, h⟩ := fx_bd h
  refine fs_callS (idx := 128) (mj := 130) (na := 3) (mx := 6) (p := 11) (args := [.long (x1).toInt64, .long (-1 : Int64), .long (2 : Int64)]) (rest := []) (al2 := [some (.long (x1).toInt64), none, some (.long (-1 : Int64)), none, some (.long (2 : Int64)), none]) (by decide +kernel) rfl (by decide +kernel) rfl rfl rfl rfl rfl rfl rfl (by omega) (fun d' hd' => fe_130 (by omega) w30) rfl ?_
  by_cases c32 : (fx_b q31.1) = 0
  · rw [if_pos c32] at h
    refine fs_if_eq_t (off := 27) (t := 38) (by decide +kernel) (by decide +kernel) c32 ?_
    refine fs_iconst (n := -1) (p := 39) (by decide +kernel) rfl kc_m1 ?_
    have h := Option.some.inj h
    subst h
    exact fs_iret (by decide +kernel) rt_214
  · rw [if_neg c32] at h
    refine fs_if_eq_f (off := 27) (t := 38) (p := 14) (by decide +kernel) (by decide +kernel) rfl c32 ?_
    refine fs_iload_n (k := 2) (p := 15) (by decide +kernel) rfl rfl ?_
    refine fs_i2l (p := 16) (by decide +kernel) rfl ?_
    refine fs_lconst (n := 0) (p := 17) (by decide +kernel) rfl kl_0 ?_
    refine fs_ldc2 (idx := 327) (p := 20) (x := 3) (by decide +kernel) rfl (by decide +kernel) ?_
    obtain ⟨q35, w34, h⟩ := fx_bd h
    refine fs_callS (idx := 128) (mj := 130) (na := 3) (mx := 6) (p := 23) (args := [.long (x2).toInt64, .long (0 : Int64), .long (3 : Int64)]) (rest := []) (al2 := [some (.long (x2).toInt64), none, some (.long (0 : Int64)), none, some (.long (3 : Int64)), none]) (by decide +kernel) rfl (by decide +kernel) rfl rfl rfl rfl rfl rfl rfl (by omega) (fun d' hd' => fe_130 (by omega) w34) rfl ?_
    by_cases c36 : (fx_b q35.1) = 0
    · rw [if_pos c36] at h
      refine fs_if_eq_t (off := 15) (t := 38) (by decide +kernel) (by decide +kernel) c36 ?_
      refine fs_iconst (n := -1) (p := 39) (by decide +kernel) rfl kc_m1 ?_
      have h := Option.some.inj h
      subst h
      exact fs_iret (by decide +kernel) rt_214
    · rw [if_neg c36] at h
      refine fs_if_eq_f (off := 15) (t := 38) (p := 26) (by decide +kernel) (by decide +kernel) rfl c36 ?_
      refine fs_iload_n (k := 3) (p := 27) (by decide +kernel) rfl rfl ?_
      refine fs_i2l (p := 28) (by decide +kernel) rfl ?_
      refine fs_lconst (n := 0) (p := 29) (by decide +kernel) rfl kl_0 ?_
      refine fs_ldc2 (idx := 422) (p := 32) (x := 9) (by decide +kernel) rfl (by decide +kernel) ?_
      obtain ⟨q39, w38, h⟩ := fx_bd h
      refine fs_callS (idx := 128) (mj := 130) (na := 3) (mx := 6) (p := 35) (args := [.long (x3).toInt64, .long (0 : Int64), .long (9 : Int64)]) (rest := []) (al2 := [some (.long (x3).toInt64), none, some (.long (0 : Int64)), none, some (.long (9 : Int64)), none]) (by decide +kernel) rfl (by decide +kernel) rfl rfl rfl rfl rfl rfl rfl (by omega) (fun d' hd' => fe_130 (by omega) w38) rfl ?_
      by_cases c40 : ¬ (fx_b q39.1) = 0
      · rw [if_pos c40] at h
        refine fs_if_ne_t (off := 5) (t := 40) (by decide +kernel) (by decide +kernel) c40 ?_
        refine fs_aload_n (k := 0) (p := 41) (by decide +kernel) rfl rfl ?_
        refine fs_iload_n (k := 1) (p := 42) (by decide +kernel) rfl rfl ?_
        refine fs_iload_n (k := 2) (p := 43) (by decide +kernel) rfl rfl ?_
        refine fs_iload_n (k := 3) (p := 44) (by decide +kernel) rfl rfl ?_
        obtain ⟨q42, w41, h⟩ := fx_bd h
        refine fs_callV (idx := 424) (mj := 213) (ci := 10) (na := 3) (mx := 5) (p := 47) (args := [.ref 215, .int x1, .int x2, .int x3]) (rest := []) (al2 := [some (.ref 215), some (.int x1), some (.int x2), some (.int x3), none]) (by decide +kernel) rfl (by decide +kernel) fo_215 rfl rfl rfl rfl rfl rfl rfl (by omega) (fun d' hd' => fe_213 (by omega) w41) rfl ?_
        by_cases c43 : (fx_b q42.1) = 0
        · rw [if_pos c43] at h
          refine fs_if_eq_t (off := 6) (t := 53) (by decide +kernel) (by decide +kernel) c43 ?_
          refine fs_aload_n (k := 0) (p := 54) (by decide +kernel) rfl rfl ?_
          obtain ⟨q45, w44, h⟩ := fx_bd h
          refine fs_callV (idx := 170) (mj := 132) (ci := 10) (na := 0) (mx := 2) (p := 57) (args := [.ref 215]) (rest := []) (al2 := [some (.ref 215), none]) (by decide +kernel) rfl (by decide +kernel) fo_215 rfl rfl rfl rfl rfl rfl rfl (by omega) (fun d' hd' => fe_132 (by omega) w44) rfl ?_
          refine fs_aload_n (k := 0) (p := 58) (by decide +kernel) rfl rfl ?_
          refine fs_gfr (idx := 9) (ci := 10) (j := 0) (p := 61) (by decide +kernel) rfl (by decide +kernel) fo_215 (fr_a215_0) ?_
          refine fs_bipush (n := 32) (p := 63) (by decide +kernel) rfl kb_32 ?_
          refine fs_iconst (n := 4) (p := 64) (by decide +kernel) rfl kc_4 ?_
          refine fs_iconst (n := 0) (p := 65) (by decide +kernel) rfl kc_0 ?_
          refine fs_iload_n (k := 1) (p := 66) (by decide +kernel) rfl rfl ?_
          refine fs_max (idx := 428) (p := 69) (by decide +kernel) rfl (by decide +kernel) rfl ?_
          refine fs_imul (p := 70) (by decide +kernel) rfl ?_
          refine fs_iadd (p := 71) (by decide +kernel) rfl ?_
          refine fs_iload_n (k := 2) (p := 72) (by decide +kernel) rfl rfl ?_
          refine fs_iadd (p := 73) (by decide +kernel) rfl ?_
          obtain ⟨v46, w47, h⟩ := fx_bd h
          refine fs_iaload (p := 74) (by decide +kernel) rfl w47 ?_
          refine fs_istore (k := 4) (p := 76) (M := 6) (al' := [some (.ref 215), some (.int x1), some (.int x2), some (.int x3), some (.int v46), none]) (by decide +kernel) rfl mx_214 rfl rfl ?_
          refine fs_iconst (n := 0) (p := 77) (by decide +kernel) rfl kc_0 ?_
          refine fs_istore (k := 5) (p := 79) (M := 6) (al' := [some (.ref 215), some (.int x1), some (.int x2), some (.int x3), some (.int v46), some (.int (0 : Int32))]) (by decide +kernel) rfl mx_214 rfl rfl ?_
          exact fe_214_79 hd 100000 _ _ _ _ _ _ _ h
        · rw [if_neg c43] at h
          refine fs_if_eq_f (off := 6) (t := 53) (p := 50) (by decide +kernel) (by decide +kernel) rfl c43 ?_
          refine fs_bipush (n := -2) (p := 52) (by decide +kernel) rfl kb_m2 ?_
          have h := Option.some.inj h
          subst h
          exact fs_iret (by decide +kernel) rt_214
      · rw [if_neg c40] at h
        refine fs_if_ne_f (off := 5) (t := 40) (p := 38) (by decide +kernel) (by decide +kernel) rfl c40 ?_
        refine fs_iconst (n := -1) (p := 39) (by decide +kernel) rfl kc_m1 ?_
        have h := Option.some.inj h
        subst h
        exact fs_iret (by decide +kernel) rt_214

/-! ZoneSharesModel.settle(II)I -/
theorem mx_215 : iv_mx 215 = 4 := by decide +kernel
theorem rt_215 : iv_rt 215 = some .int := by decide +kernel
def fm_215 (x1 : Int32) (x2 : Int32) (σ : fx_S) : Option (Int32 × fx_S) :=
  (fm_130 (x1).toInt64 (0 : Int64) (1 : Int64) σ).bind fun q20 =>
  if (fx_b q20.1) = 0 then (
    some ((-1 : Int32), q20.2)) else (
    (fm_130 (x2).toInt64 (0 : Int64) (1 : Int64) q20.2).bind fun q24 =>
    if ¬ (fx_b q24.1) = 0 then (
      (fx_ld q24.2 216 ((3 : Int32) + x1)).bind fun v26 =>
      if ¬ v26 = x2 then (
        (fm_132 q24.2).bind fun q32 =>
        (fx_st q32 216 ((3 : Int32) + x1) x2).bind fun t33 =>
        some (v26, t33)) else (
        some ((-2 : Int32), q24.2))) else (
      some ((-1 : Int32), q24.2)))
theorem fe_215 {d : Nat} (hd : 1 ≤ d) {x1 : Int32} {x2 : Int32} {σ : fx_S} {q : Int32 × fx_S} (h : fm_215 x1 x2 σ = some q) : fx_E none 215 d 0 [some (.ref 215), some (.int x1), some (.int x2), none] [] σ (some (.int q.1)) q.2 := by
  unfold fm_215 at h
  refine fs_iload_n (k := 1) (p := 1) (by decide +kernel) rfl rfl ?_
  refine fs_i2l (p := 2) (by decide +kernel) rfl ?_
  refine fs_lconst (n := 0) (p := 3) (by decide +kernel) rfl kl_0 ?_
  refine fs_lconst (n := 1) (p := 4) (by decide +kernel) rfl kl_1 ?_
  obtain ⟨q20, w19, h⟩ := fx_bd h
  refine fs_callS (idx := 128) (mj := 130) (na := 3) (mx := 6) (p := 7) (args := [.long (x1).toInt64, .long (0 : Int64), .long (1 : Int64)]) (rest := []) (al2 := [some (.long (x1).toInt64), none, some (.long (0 : Int64)), none, some (.long (1 : Int64)), none]) (by decide +kernel) rfl (by decide +kernel) rfl rfl rfl rfl rfl rfl rfl (by omega) (fun d' hd' => fe_130 (by omega) w19) rfl ?_
  by_cases c21 : (fx_b q20.1) = 0
  · rw [if_pos c21] at h
    refine fs_if_eq_t (off := 13) (t := 20) (by decide +kernel) (by decide +kernel) c21 ?_
    refine fs_iconst (n := -1) (p := 21) (by decide +kernel) rfl kc_m1 ?_
    have h := Option.some.inj h
    subst h
    exact fs_iret (by decide +kernel) rt_215
  · rw [if_neg c21] at h
    refine fs_if_eq_f (off := 13) (t := 20) (p := 10) (by decide +kernel) (by decide +kernel) rfl c21 ?_
    refine fs_iload_n (k := 2) (p := 11) (by decide +kernel) rfl rfl ?_
    refine fs_i2l (p := 12) (by decide +kernel) rfl ?_
    refine fs_lconst (n := 0) (p := 13) (by decide +kernel) rfl kl_0 ?_
    refine fs_lconst (n := 1) (p := 14) (by decide +kernel) rfl kl_1 ?_
    obtain ⟨q24, w23, h⟩ := fx_bd h
    refine fs_callS (idx := 128) (mj := 130) (na := 3) (mx := 6) (p := 17) (args := [.long (x2).toInt64, .long (0 : Int64), .long (1 : Int64)]) (rest := []) (al2 := [some (.long (x2).toInt64), none, some (.long (0 : Int64)), none, some (.long (1 : Int64)), none]) (by decide +kernel) rfl (by decide +kernel) rfl rfl rfl rfl rfl rfl rfl (by omega) (fun d' hd' => fe_130 (by omega) w23) rfl ?_
    by_cases c25 : ¬ (fx_b q24.1) = 0
    · rw [if_pos c25] at h
      refine fs_if_ne_t (off := 5) (t := 22) (by decide +kernel) (by decide +kernel) c25 ?_
      refine fs_aload_n (k := 0) (p := 23) (by decide +kernel) rfl rfl ?_
      refine fs_gfr (idx := 9) (ci := 10) (j := 0) (p := 26) (by decide +kernel) rfl (by decide +kernel) fo_215 (fr_a215_0) ?_
      refine fs_iconst (n := 3) (p := 27) (by decide +kernel) rfl kc_3 ?_
      refine fs_iload_n (k := 1) (p := 28) (by decide +kernel) rfl rfl ?_
      refine fs_iadd (p := 29) (by decide +kernel) rfl ?_
      obtain ⟨v26, w27, h⟩ := fx_bd h
      refine fs_iaload (p := 30) (by decide +kernel) rfl w27 ?_
      refine fs_istore_n (k := 3) (p := 31) (M := 4) (al' := [some (.ref 215), some (.int x1), some (.int x2), some (.int v26)]) (by decide +kernel) rfl mx_215 rfl rfl ?_
      refine fs_iload_n (k := 3) (p := 32) (by decide +kernel) rfl rfl ?_
      refine fs_iload_n (k := 2) (p := 33) (by decide +kernel) rfl rfl ?_
      by_cases c30 : ¬ v26 = x2
      · rw [if_pos c30] at h
        refine fs_icmp_ne_t (off := 6) (t := 39) (by decide +kernel) (by decide +kernel) c30 ?_
        refine fs_aload_n (k := 0) (p := 40) (by decide +kernel) rfl rfl ?_
        obtain ⟨q32, w31, h⟩ := fx_bd h
        refine fs_callV (idx := 170) (mj := 132) (ci := 10) (na := 0) (mx := 2) (p := 43) (args := [.ref 215]) (rest := []) (al2 := [some (.ref 215), none]) (by decide +kernel) rfl (by decide +kernel) fo_215 rfl rfl rfl rfl rfl rfl rfl (by omega) (fun d' hd' => fe_132 (by omega) w31) rfl ?_
        refine fs_aload_n (k := 0) (p := 44) (by decide +kernel) rfl rfl ?_
        refine fs_gfr (idx := 9) (ci := 10) (j := 0) (p := 47) (by decide +kernel) rfl (by decide +kernel) fo_215 (fr_a215_0) ?_
        refine fs_iconst (n := 3) (p := 48) (by decide +kernel) rfl kc_3 ?_
        refine fs_iload_n (k := 1) (p := 49) (by decide +kernel) rfl rfl ?_
        refine fs_iadd (p := 50) (by decide +kernel) rfl ?_
        refine fs_iload_n (k := 2) (p := 51) (by decide +kernel) rfl rfl ?_
        obtain ⟨t33, w34, h⟩ := fx_bd h
        refine fs_iastore (p := 52) (by decide +kernel) rfl w34 ?_
        refine fs_iload_n (k := 3) (p := 53) (by decide +kernel) rfl rfl ?_
        have h := Option.some.inj h
        subst h
        exact fs_iret (by decide +kernel) rt_215
      · rw [if_neg c30] at h
        refine fs_icmp_ne_f (off := 6) (t := 39) (p := 36) (by decide +kernel) (by decide +kernel) rfl c30 ?_
        refine fs_bipush (n := -2) (p := 38) (by decide +kernel) rfl kb_m2 ?_
        have h := Option.some.inj h
        subst h
        exact fs_iret (by decide +kernel) rt_215
    · rw [if_neg c25] at h
      refine fs_if_ne_f (off := 5) (t := 22) (p := 20) (by decide +kernel) (by decide +kernel) rfl c25 ?_
      refine fs_iconst (n := -1) (p := 21) (by decide +kernel) rfl kc_m1 ?_
      have h := Option.some.inj h
      subst h
      exact fs_iret (by decide +kernel) rt_215

/-! ZoneSharesModel.district(II)I -/
theorem mx_216 : iv_mx 216 = 4 := by decide +kernel
theorem rt_216 : iv_rt 216 = some .int := by decide +kernel
def fm_216 (x1 : Int32) (x2 : Int32) (σ : fx_S) : Option (Int32 × fx_S) :=
  (fm_130 (x1).toInt64 (0 : Int64) (7 : Int64) σ).bind fun q20 =>
  if (fx_b q20.1) = 0 then (
    some ((-1 : Int32), q20.2)) else (
    (fm_130 (x2).toInt64 (0 : Int64) (3 : Int64) q20.2).bind fun q24 =>
    if ¬ (fx_b q24.1) = 0 then (
      (fx_ld q24.2 216 ((44 : Int32) + x1)).bind fun v26 =>
      if ¬ v26 = x2 then (
        (fm_132 q24.2).bind fun q32 =>
        (fx_st q32 216 ((44 : Int32) + x1) x2).bind fun t33 =>
        some (v26, t33)) else (
        some ((-2 : Int32), q24.2))) else (
      some ((-1 : Int32), q24.2)))
theorem fe_216 {d : Nat} (hd : 1 ≤ d) {x1 : Int32} {x2 : Int32} {σ : fx_S} {q : Int32 × fx_S} (h : fm_216 x1 x2 σ = some q) : fx_E none 216 d 0 [some (.ref 215), some (.int x1), some (.int x2), none] [] σ (some (.int q.1)) q.2 := by
  unfold fm_216 at h
  refine fs_iload_n (k := 1) (p := 1) (by decide +kernel) rfl rfl ?_
  refine fs_i2l (p := 2) (by decide +kernel) rfl ?_
  refine fs_lconst (n := 0) (p := 3) (by decide +kernel) rfl kl_0 ?_
  refine fs_ldc2 (idx := 308) (p := 6) (x := 7) (by decide +kernel) rfl (by decide +kernel) ?_
  obtain ⟨q20, w19, h⟩ := fx_bd h
  refine fs_callS (idx := 128) (mj := 130) (na := 3) (mx := 6) (p := 9) (args := [.long (x1).toInt64, .long (0 : Int64), .long (7 : Int64)]) (rest := []) (al2 := [some (.long (x1).toInt64), none, some (.long (0 : Int64)), none, some (.long (7 : Int64)), none]) (by decide +kernel) rfl (by decide +kernel) rfl rfl rfl rfl rfl rfl rfl (by omega) (fun d' hd' => fe_130 (by omega) w19) rfl ?_
  by_cases c21 : (fx_b q20.1) = 0
  · rw [if_pos c21] at h
    refine fs_if_eq_t (off := 15) (t := 24) (by decide +kernel) (by decide +kernel) c21 ?_
    refine fs_iconst (n := -1) (p := 25) (by decide +kernel) rfl kc_m1 ?_
    have h := Option.some.inj h
    subst h
    exact fs_iret (by decide +kernel) rt_216
  · rw [if_neg c21] at h
    refine fs_if_eq_f (off := 15) (t := 24) (p := 12) (by decide +kernel) (by decide +kernel) rfl c21 ?_
    refine fs_iload_n (k := 2) (p := 13) (by decide +kernel) rfl rfl ?_
    refine fs_i2l (p := 14) (by decide +kernel) rfl ?_
    refine fs_lconst (n := 0) (p := 15) (by decide +kernel) rfl kl_0 ?_
    refine fs_ldc2 (idx := 327) (p := 18) (x := 3) (by decide +kernel) rfl (by decide +kernel) ?_
    obtain ⟨q24, w23, h⟩ := fx_bd h
    refine fs_callS (idx := 128) (mj := 130) (na := 3) (mx := 6) (p := 21) (args := [.long (x2).toInt64, .long (0 : Int64), .long (3 : Int64)]) (rest := []) (al2 := [some (.long (x2).toInt64), none, some (.long (0 : Int64)), none, some (.long (3 : Int64)), none]) (by decide +kernel) rfl (by decide +kernel) rfl rfl rfl rfl rfl rfl rfl (by omega) (fun d' hd' => fe_130 (by omega) w23) rfl ?_
    by_cases c25 : ¬ (fx_b q24.1) = 0
    · rw [if_pos c25] at h
      refine fs_if_ne_t (off := 5) (t := 26) (by decide +kernel) (by decide +kernel) c25 ?_
      refine fs_aload_n (k := 0) (p := 27) (by decide +kernel) rfl rfl ?_
      refine fs_gfr (idx := 9) (ci := 10) (j := 0) (p := 30) (by decide +kernel) rfl (by decide +kernel) fo_215 (fr_a215_0) ?_
      refine fs_bipush (n := 44) (p := 32) (by decide +kernel) rfl kb_44 ?_
      refine fs_iload_n (k := 1) (p := 33) (by decide +kernel) rfl rfl ?_
      refine fs_iadd (p := 34) (by decide +kernel) rfl ?_
      obtain ⟨v26, w27, h⟩ := fx_bd h
      refine fs_iaload (p := 35) (by decide +kernel) rfl w27 ?_
      refine fs_istore_n (k := 3) (p := 36) (M := 4) (al' := [some (.ref 215), some (.int x1), some (.int x2), some (.int v26)]) (by decide +kernel) rfl mx_216 rfl rfl ?_
      refine fs_iload_n (k := 3) (p := 37) (by decide +kernel) rfl rfl ?_
      refine fs_iload_n (k := 2) (p := 38) (by decide +kernel) rfl rfl ?_
      by_cases c30 : ¬ v26 = x2
      · rw [if_pos c30] at h
        refine fs_icmp_ne_t (off := 6) (t := 44) (by decide +kernel) (by decide +kernel) c30 ?_
        refine fs_aload_n (k := 0) (p := 45) (by decide +kernel) rfl rfl ?_
        obtain ⟨q32, w31, h⟩ := fx_bd h
        refine fs_callV (idx := 170) (mj := 132) (ci := 10) (na := 0) (mx := 2) (p := 48) (args := [.ref 215]) (rest := []) (al2 := [some (.ref 215), none]) (by decide +kernel) rfl (by decide +kernel) fo_215 rfl rfl rfl rfl rfl rfl rfl (by omega) (fun d' hd' => fe_132 (by omega) w31) rfl ?_
        refine fs_aload_n (k := 0) (p := 49) (by decide +kernel) rfl rfl ?_
        refine fs_gfr (idx := 9) (ci := 10) (j := 0) (p := 52) (by decide +kernel) rfl (by decide +kernel) fo_215 (fr_a215_0) ?_
        refine fs_bipush (n := 44) (p := 54) (by decide +kernel) rfl kb_44 ?_
        refine fs_iload_n (k := 1) (p := 55) (by decide +kernel) rfl rfl ?_
        refine fs_iadd (p := 56) (by decide +kernel) rfl ?_
        refine fs_iload_n (k := 2) (p := 57) (by decide +kernel) rfl rfl ?_
        obtain ⟨t33, w34, h⟩ := fx_bd h
        refine fs_iastore (p := 58) (by decide +kernel) rfl w34 ?_
        refine fs_iload_n (k := 3) (p := 59) (by decide +kernel) rfl rfl ?_
        have h := Option.some.inj h
        subst h
        exact fs_iret (by decide +kernel) rt_216
      · rw [if_neg c30] at h
        refine fs_icmp_ne_f (off := 6) (t := 44) (p := 41) (by decide +kernel) (by decide +kernel) rfl c30 ?_
        refine fs_bipush (n := -2) (p := 43) (by decide +kernel) rfl kb_m2 ?_
        have h := Option.some.inj h
        subst h
        exact fs_iret (by decide +kernel) rt_216
    · rw [if_neg c25] at h
      refine fs_if_ne_f (off := 5) (t := 26) (p := 24) (by decide +kernel) (by decide +kernel) rfl c25 ?_
      refine fs_iconst (n := -1) (p := 25) (by decide +kernel) rfl kc_m1 ?_
      have h := Option.some.inj h
      subst h
      exact fs_iret (by decide +kernel) rt_216

/-! ZoneSharesModel.cell(III)I -/
theorem mx_218 : iv_mx 218 = 5 := by decide +kernel
theorem rt_218 : iv_rt 218 = some .int := by decide +kernel
def fm_218 (x1 : Int32) (x2 : Int32) (x3 : Int32) (σ : fx_S) : Option (Int32 × fx_S) :=
  (fm_130 (x1).toInt64 (0 : Int64) (2 : Int64) σ).bind fun q19 =>
  if (fx_b q19.1) = 0 then (
    some ((-1 : Int32), q19.2)) else (
    (fm_144 x1 q19.2).bind fun q22 =>
    if (fx_b q22.1) = 0 then (
      some ((-1 : Int32), q22.2)) else (
      (fm_198 x2 x3 q22.2).bind fun q25 =>
      if ¬ (fx_b q25.1) = 0 then (
        (fx_ld q25.2 216 ((((52 : Int32) + ((96 : Int32) * x1)) + ((12 : Int32) * x2)) + x3)).bind fun v27 =>
        if ¬ x1 = (2 : Int32) then (
          if ¬ v27 = (8 : Int32) then (
            some (((97 : Int32) + v27), q25.2)) else (
            some ((46 : Int32), q25.2))) else (
          some (((48 : Int32) + v27), q25.2))) else (
        some ((-1 : Int32), q25.2))))
theorem fe_218 {d : Nat} (hd : 2 ≤ d) {x1 : Int32} {x2 : Int32} {x3 : Int32} {σ : fx_S} {q : Int32 × fx_S} (h : fm_218 x1 x2 x3 σ = some q) : fx_E none 218 d 0 [some (.ref 215), some (.int x1), some (.int x2), some (.int x3), none] [] σ (some (.int q.1)) q.2 := by
  unfold fm_218 at h
  refine fs_iload_n (k := 1) (p := 1) (by decide +kernel) rfl rfl ?_
  refine fs_i2l (p := 2) (by decide +kernel) rfl ?_
  refine fs_lconst (n := 0) (p := 3) (by decide +kernel) rfl kl_0 ?_
  refine fs_ldc2 (idx := 161) (p := 6) (x := 2) (by decide +kernel) rfl (by decide +kernel) ?_
  obtain ⟨q19, w18, h⟩ := fx_bd h
  refine fs_callS (idx := 128) (mj := 130) (na := 3) (mx := 6) (p := 9) (args := [.long (x1).toInt64, .long (0 : Int64), .long (2 : Int64)]) (rest := []) (al2 := [some (.long (x1).toInt64), none, some (.long (0 : Int64)), none, some (.long (2 : Int64)), none]) (by decide +kernel) rfl (by decide +kernel) rfl rfl rfl rfl rfl rfl rfl (by omega) (fun d' hd' => fe_130 (by omega) w18) rfl ?_
  by_cases c20 : (fx_b q19.1) = 0
  · rw [if_pos c20] at h
    refine fs_if_eq_t (off := 20) (t := 29) (by decide +kernel) (by decide +kernel) c20 ?_
    refine fs_iconst (n := -1) (p := 30) (by decide +kernel) rfl kc_m1 ?_
    have h := Option.some.inj h
    subst h
    exact fs_iret (by decide +kernel) rt_218
  · rw [if_neg c20] at h
    refine fs_if_eq_f (off := 20) (t := 29) (p := 12) (by decide +kernel) (by decide +kernel) rfl c20 ?_
    refine fs_aload_n (k := 0) (p := 13) (by decide +kernel) rfl rfl ?_
    refine fs_iload_n (k := 1) (p := 14) (by decide +kernel) rfl rfl ?_
    obtain ⟨q22, w21, h⟩ := fx_bd h
    refine fs_callV (idx := 163) (mj := 144) (ci := 10) (na := 1) (mx := 2) (p := 17) (args := [.ref 215, .int x1]) (rest := []) (al2 := [some (.ref 215), some (.int x1)]) (by decide +kernel) rfl (by decide +kernel) fo_215 rfl rfl rfl rfl rfl rfl rfl (by omega) (fun d' hd' => fe_144 (by omega) w21) rfl ?_
    by_cases c23 : (fx_b q22.1) = 0
    · rw [if_pos c23] at h
      refine fs_if_eq_t (off := 12) (t := 29) (by decide +kernel) (by decide +kernel) c23 ?_
      refine fs_iconst (n := -1) (p := 30) (by decide +kernel) rfl kc_m1 ?_
      have h := Option.some.inj h
      subst h
      exact fs_iret (by decide +kernel) rt_218
    · rw [if_neg c23] at h
      refine fs_if_eq_f (off := 12) (t := 29) (p := 20) (by decide +kernel) (by decide +kernel) rfl c23 ?_
      refine fs_aload_n (k := 0) (p := 21) (by decide +kernel) rfl rfl ?_
      refine fs_iload_n (k := 2) (p := 22) (by decide +kernel) rfl rfl ?_
      refine fs_iload_n (k := 3) (p := 23) (by decide +kernel) rfl rfl ?_
      obtain ⟨q25, w24, h⟩ := fx_bd h
      refine fs_callV (idx := 346) (mj := 198) (ci := 10) (na := 2) (mx := 3) (p := 26) (args := [.ref 215, .int x2, .int x3]) (rest := []) (al2 := [some (.ref 215), some (.int x2), some (.int x3)]) (by decide +kernel) rfl (by decide +kernel) fo_215 rfl rfl rfl rfl rfl rfl rfl (by omega) (fun d' hd' => fe_198 (by omega) w24) rfl ?_
      by_cases c26 : ¬ (fx_b q25.1) = 0
      · rw [if_pos c26] at h
        refine fs_if_ne_t (off := 5) (t := 31) (by decide +kernel) (by decide +kernel) c26 ?_
        refine fs_aload_n (k := 0) (p := 32) (by decide +kernel) rfl rfl ?_
        refine fs_gfr (idx := 9) (ci := 10) (j := 0) (p := 35) (by decide +kernel) rfl (by decide +kernel) fo_215 (fr_a215_0) ?_
        refine fs_bipush (n := 52) (p := 37) (by decide +kernel) rfl kb_52 ?_
        refine fs_bipush (n := 96) (p := 39) (by decide +kernel) rfl kb_96 ?_
        refine fs_iload_n (k := 1) (p := 40) (by decide +kernel) rfl rfl ?_
        refine fs_imul (p := 41) (by decide +kernel) rfl ?_
        refine fs_iadd (p := 42) (by decide +kernel) rfl ?_
        refine fs_bipush (n := 12) (p := 44) (by decide +kernel) rfl kb_12 ?_
        refine fs_iload_n (k := 2) (p := 45) (by decide +kernel) rfl rfl ?_
        refine fs_imul (p := 46) (by decide +kernel) rfl ?_
        refine fs_iadd (p := 47) (by decide +kernel) rfl ?_
        refine fs_iload_n (k := 3) (p := 48) (by decide +kernel) rfl rfl ?_
        refine fs_iadd (p := 49) (by decide +kernel) rfl ?_
        obtain ⟨v27, w28, h⟩ := fx_bd h
        refine fs_iaload (p := 50) (by decide +kernel) rfl w28 ?_
        refine fs_istore (k := 4) (p := 52) (M := 5) (al' := [some (.ref 215), some (.int x1), some (.int x2), some (.int x3), some (.int v27)]) (by decide +kernel) rfl mx_218 rfl rfl ?_
        refine fs_iload_n (k := 1) (p := 53) (by decide +kernel) rfl rfl ?_
        refine fs_iconst (n := 2) (p := 54) (by decide +kernel) rfl kc_2 ?_
        by_cases c30 : ¬ x1 = (2 : Int32)
        · rw [if_pos c30] at h
          refine fs_icmp_ne_t (off := 11) (t := 65) (by decide +kernel) (by decide +kernel) c30 ?_
          refine fs_iload (k := 4) (p := 67) (by decide +kernel) rfl rfl ?_
          refine fs_bipush (n := 8) (p := 69) (by decide +kernel) rfl kb_8 ?_
          by_cases c32 : ¬ v27 = (8 : Int32)
          · rw [if_pos c32] at h
            refine fs_icmp_ne_t (off := 8) (t := 77) (by decide +kernel) (by decide +kernel) c32 ?_
            refine fs_bipush (n := 97) (p := 79) (by decide +kernel) rfl kb_97 ?_
            refine fs_iload (k := 4) (p := 81) (by decide +kernel) rfl rfl ?_
            refine fs_iadd (p := 82) (by decide +kernel) rfl ?_
            have h := Option.some.inj h
            subst h
            exact fs_iret (by decide +kernel) rt_218
          · rw [if_neg c32] at h
            refine fs_icmp_ne_f (off := 8) (t := 77) (p := 72) (by decide +kernel) (by decide +kernel) rfl c32 ?_
            refine fs_bipush (n := 46) (p := 74) (by decide +kernel) rfl kb_46 ?_
            refine fs_goto (off := 8) (p := 82) (by decide +kernel) (by decide +kernel) ?_
            have h := Option.some.inj h
            subst h
            exact fs_iret (by decide +kernel) rt_218
        · rw [if_neg c30] at h
          refine fs_icmp_ne_f (off := 11) (t := 65) (p := 57) (by decide +kernel) (by decide +kernel) rfl c30 ?_
          refine fs_bipush (n := 48) (p := 59) (by decide +kernel) rfl kb_48 ?_
          refine fs_iload (k := 4) (p := 61) (by decide +kernel) rfl rfl ?_
          refine fs_iadd (p := 62) (by decide +kernel) rfl ?_
          refine fs_goto (off := 20) (p := 82) (by decide +kernel) (by decide +kernel) ?_
          have h := Option.some.inj h
          subst h
          exact fs_iret (by decide +kernel) rt_218
      · rw [if_neg c26] at h
        refine fs_if_ne_f (off := 5) (t := 31) (p := 29) (by decide +kernel) (by decide +kernel) rfl c26 ?_
        refine fs_iconst (n := -1) (p := 30) (by decide +kernel) rfl kc_m1 ?_
        have h := Option.some.inj h
        subst h
        exact fs_iret (by decide +kernel) rt_218

/-! ZoneSharesModel.pieceCells(III)I -/
theorem mx_219 : iv_mx 219 = 6 := by decide +kernel
theorem rt_219 : iv_rt 219 = some .int := by decide +kernel
def fm_219_55 (k_6 : Int32 → Int32 → Int32 → Int32 → Int32 → fx_S → Option (Int32 × fx_S)) (x1 : Int32) (x2 : Int32) (x3 : Int32) (x5 : Int32) (s0 : Int32) (s1 : Int32) (σ : fx_S) : Option (Int32 × fx_S) :=
  (fm_131 s1 σ).bind fun q2 =>
  k_6 x1 x2 x3 (s0 + q2.1) (x5 + (1 : Int32)) q2.2
theorem fe_219_55 {d : Nat} (hd : 1 ≤ d) {k_6 : Int32 → Int32 → Int32 → Int32 → Int32 → fx_S → Option (Int32 × fx_S)} (hk_6 : ∀ (x1 : Int32) (x2 : Int32) (x3 : Int32) (x4 : Int32) (x5 : Int32) (σ : fx_S) (q : Int32 × fx_S), k_6 x1 x2 x3 x4 x5 σ = some q → fx_E none 219 d 6 [some (.ref 215), some (.int x1), some (.int x2), some (.int x3), some (.int x4), some (.int x5)] [] σ (some (.int q.1)) q.2) (x1 : Int32) (x2 : Int32) (x3 : Int32) (x5 : Int32) (s0 : Int32) (s1 : Int32) (o4 : Option Value) (σ : fx_S) (q : Int32 × fx_S) (h : fm_219_55 k_6  x1 x2 x3 x5 s0 s1 σ = some q) : fx_E none 219 d 55 [some (.ref 215), some (.int x1), some (.int x2), some (.int x3), o4, some (.int x5)] [.int s1, .int s0] σ (some (.int q.1)) q.2 := by
  unfold fm_219_55 at h
  obtain ⟨q2, w1, h⟩ := fx_bd h
  refine fs_callS (idx := 186) (mj := 131) (na := 1) (mx := 1) (p := 58) (args := [.int s1]) (rest := [.int s0]) (al2 := [some (.int s1)]) (by decide +kernel) rfl (by decide +kernel) rfl rfl rfl rfl rfl rfl rfl (by omega) (fun d' hd' => fe_131 (by omega) w1) rfl ?_
  refine fs_iadd (p := 59) (by decide +kernel) rfl ?_
  refine fs_istore (k := 4) (p := 61) (M := 6) (al' := [some (.ref 215), some (.int x1), some (.int x2), some (.int x3), some (.int (s0 + q2.1)), some (.int x5)]) (by decide +kernel) rfl mx_219 rfl rfl ?_
  refine fs_iinc (k := 5) (n := 1) (p := 64) (M := 6) (al' := [some (.ref 215), some (.int x1), some (.int x2), some (.int x3), some (.int (s0 + q2.1)), some (.int (x5 + (1 : Int32)))]) (by decide +kernel) rfl kc_1 mx_219 rfl rfl rfl ?_
  refine fs_goto (off := -58) (p := 6) (by decide +kernel) (by decide +kernel) ?_
  exact hk_6 _ _ _ _ _ _ _ h
def fm_219_6 : Nat → Int32 → Int32 → Int32 → Int32 → Int32 → fx_S → Option (Int32 × fx_S)
  | 0, _, _, _, _, _, _ => none
  | n + 1, x1, x2, x3, x4, x5, σ =>
    (fm_151 σ).bind fun q2 =>
    if q2.1 ≤ x5 then (
      some (x4, q2.2)) else (
      (fm_152 (0 : Int32) x5 q2.2).bind fun q7 =>
      if ¬ q7.1 = x1 then (
        fm_219_55 (fm_219_6 n) x1 x2 x3 x5 x4 (0 : Int32) q7.2) else (
        (fm_152 (1 : Int32) x5 q7.2).bind fun q12 =>
        if ¬ q12.1 = x2 then (
          fm_219_55 (fm_219_6 n) x1 x2 x3 x5 x4 (0 : Int32) q12.2) else (
          (fm_152 (2 : Int32) x5 q12.2).bind fun q17 =>
          if ¬ q17.1 = x3 then (
            fm_219_55 (fm_219_6 n) x1 x2 x3 x5 x4 (0 : Int32) q17.2) else (
            fm_219_55 (fm_219_6 n) x1 x2 x3 x5 x4 (1 : Int32) q17.2))))
theorem fe_219_6 {d : Nat} (hd : 1 ≤ d) : ∀ (n : Nat) (x1 : Int32) (x2 : Int32) (x3 : Int32) (x4 : Int32) (x5 : Int32) (σ : fx_S) (q : Int32 × fx_S), fm_219_6 n x1 x2 x3 x4 x5 σ = some q → fx_E none 219 d 6 [some (.ref 215), some (.int x1), some (.int x2), some (.int x3), some (.int x4), some (.int x5)] [] σ (some (.int q.1)) q.2 := by
  intro n
  induction n with
  | zero =>
    intro x1 x2 x3 x4 x5 σ q  h
    rw [fm_219_6] at h
    exact fx_no h
  | succ n ih =>
    intro x1 x2 x3 x4 x5 σ q  h
    rw [fm_219_6] at h
    refine fs_iload (k := 5) (p := 8) (by decide +kernel) rfl rfl ?_
    refine fs_aload_n (k := 0) (p := 9) (by decide +kernel) rfl rfl ?_
    obtain ⟨q2, w1, h⟩ := fx_bd h
    refine fs_callV (idx := 196) (mj := 151) (ci := 10) (na := 0) (mx := 1) (p := 12) (args := [.ref 215]) (rest := [.int x5]) (al2 := [some (.ref 215)]) (by decide +kernel) rfl (by decide +kernel) fo_215 rfl rfl rfl rfl rfl rfl rfl (by omega) (fun d' hd' => fe_151 (by omega) w1) rfl ?_
    by_cases c5 : q2.1 ≤ x5
    · rw [if_pos c5] at h
      refine fs_icmp_ge_t (off := 55) (t := 67) (by decide +kernel) (by decide +kernel) c5 ?_
      refine fs_iload (k := 4) (p := 69) (by decide +kernel) rfl rfl ?_
      have h := Option.some.inj h
      subst h
      exact fs_iret (by decide +kernel) rt_219
    · rw [if_neg c5] at h
      refine fs_icmp_ge_f (off := 55) (t := 67) (p := 15) (by decide +kernel) (by decide +kernel) rfl c5 ?_
      refine fs_iload (k := 4) (p := 17) (by decide +kernel) rfl rfl ?_
      refine fs_aload_n (k := 0) (p := 18) (by decide +kernel) rfl rfl ?_
      refine fs_iconst (n := 0) (p := 19) (by decide +kernel) rfl kc_0 ?_
      refine fs_iload (k := 5) (p := 21) (by decide +kernel) rfl rfl ?_
      obtain ⟨q7, w6, h⟩ := fx_bd h
      refine fs_callV (idx := 199) (mj := 152) (ci := 10) (na := 2) (mx := 3) (p := 24) (args := [.ref 215, .int (0 : Int32), .int x5]) (rest := [.int x4]) (al2 := [some (.ref 215), some (.int (0 : Int32)), some (.int x5)]) (by decide +kernel) rfl (by decide +kernel) fo_215 rfl rfl rfl rfl rfl rfl rfl (by omega) (fun d' hd' => fe_152 (by omega) w6) rfl ?_
      refine fs_iload_n (k := 1) (p := 25) (by decide +kernel) rfl rfl ?_
      by_cases c10 : ¬ q7.1 = x1
      · rw [if_pos c10] at h
        refine fs_icmp_ne_t (off := 29) (t := 54) (by decide +kernel) (by decide +kernel) c10 ?_
        refine fs_iconst (n := 0) (p := 55) (by decide +kernel) rfl kc_0 ?_
        exact fe_219_55 hd ih _ _ _ _ _ _ _ _ _ h
      · rw [if_neg c10] at h
        refine fs_icmp_ne_f (off := 29) (t := 54) (p := 28) (by decide +kernel) (by decide +kernel) rfl c10 ?_
        refine fs_aload_n (k := 0) (p := 29) (by decide +kernel) rfl rfl ?_
        refine fs_iconst (n := 1) (p := 30) (by decide +kernel) rfl kc_1 ?_
        refine fs_iload (k := 5) (p := 32) (by decide +kernel) rfl rfl ?_
        obtain ⟨q12, w11, h⟩ := fx_bd h
        refine fs_callV (idx := 199) (mj := 152) (ci := 10) (na := 2) (mx := 3) (p := 35) (args := [.ref 215, .int (1 : Int32), .int x5]) (rest := [.int x4]) (al2 := [some (.ref 215), some (.int (1 : Int32)), some (.int x5)]) (by decide +kernel) rfl (by decide +kernel) fo_215 rfl rfl rfl rfl rfl rfl rfl (by omega) (fun d' hd' => fe_152 (by omega) w11) rfl ?_
        refine fs_iload_n (k := 2) (p := 36) (by decide +kernel) rfl rfl ?_
        by_cases c15 : ¬ q12.1 = x2
        · rw [if_pos c15] at h
          refine fs_icmp_ne_t (off := 18) (t := 54) (by decide +kernel) (by decide +kernel) c15 ?_
          refine fs_iconst (n := 0) (p := 55) (by decide +kernel) rfl kc_0 ?_
          exact fe_219_55 hd ih _ _ _ _ _ _ _ _ _ h
        · rw [if_neg c15] at h
          refine fs_icmp_ne_f (off := 18) (t := 54) (p := 39) (by decide +kernel) (by decide +kernel) rfl c15 ?_
          refine fs_aload_n (k := 0) (p := 40) (by decide +kernel) rfl rfl ?_
          refine fs_iconst (n := 2) (p := 41) (by decide +kernel) rfl kc_2 ?_
          refine fs_iload (k := 5) (p := 43) (by decide +kernel) rfl rfl ?_
          obtain ⟨q17, w16, h⟩ := fx_bd h
          refine fs_callV (idx := 199) (mj := 152) (ci := 10) (na := 2) (mx := 3) (p := 46) (args := [.ref 215, .int (2 : Int32), .int x5]) (rest := [.int x4]) (al2 := [some (.ref 215), some (.int (2 : Int32)), some (.int x5)]) (by decide +kernel) rfl (by decide +kernel) fo_215 rfl rfl rfl rfl rfl rfl rfl (by omega) (fun d' hd' => fe_152 (by omega) w16) rfl ?_
          refine fs_iload_n (k := 3) (p := 47) (by decide +kernel) rfl rfl ?_
          by_cases c20 : ¬ q17.1 = x3
          · rw [if_pos c20] at h
            refine fs_icmp_ne_t (off := 7) (t := 54) (by decide +kernel) (by decide +kernel) c20 ?_
            refine fs_iconst (n := 0) (p := 55) (by decide +kernel) rfl kc_0 ?_
            exact fe_219_55 hd ih _ _ _ _ _ _ _ _ _ h
          · rw [if_neg c20] at h
            refine fs_icmp_ne_f (off := 7) (t := 54) (p := 50) (by decide +kernel) (by decide +kernel) rfl c20 ?_
            refine fs_iconst (n := 1) (p := 51) (by decide +kernel) rfl kc_1 ?_
            refine fs_goto (off := 4) (p := 55) (by decide +kernel) (by decide +kernel) ?_
            exact fe_219_55 hd ih _ _ _ _ _ _ _ _ _ h
def fm_219 (x1 : Int32) (x2 : Int32) (x3 : Int32) (σ : fx_S) : Option (Int32 × fx_S) :=
  fm_219_6 100000 x1 x2 x3 (0 : Int32) (0 : Int32) σ
theorem fe_219 {d : Nat} (hd : 1 ≤ d) {x1 : Int32} {x2 : Int32} {x3 : Int32} {σ : fx_S} {q : Int32 × fx_S} (h : fm_219 x1 x2 x3 σ = some q) : fx_E none 219 d 0 [some (.ref 215), some (.int x1), some (.int x2), some (.int x3), none, none] [] σ (some (.int q.1)) q.2 := by
  unfold fm_219 at h
  refine fs_iconst (n := 0) (p := 1) (by decide +kernel) rfl kc_0 ?_
  refine fs_istore (k := 4) (p := 3) (M := 6) (al' := [some (.ref 215), some (.int x1), some (.int x2), some (.int x3), some (.int (0 : Int32)), none]) (by decide +kernel) rfl mx_219 rfl rfl ?_
  refine fs_iconst (n := 0) (p := 4) (by decide +kernel) rfl kc_0 ?_
  refine fs_istore (k := 5) (p := 6) (M := 6) (al' := [some (.ref 215), some (.int x1), some (.int x2), some (.int x3), some (.int (0 : Int32)), some (.int (0 : Int32))]) (by decide +kernel) rfl mx_219 rfl rfl ?_
  exact fe_219_6 hd 100000 _ _ _ _ _ _ _ h

/-! ZoneSharesModel.piece(II)I -/
theorem mx_220 : iv_mx 220 = 8 := by decide +kernel
theorem rt_220 : iv_rt 220 = some .int := by decide +kernel
def fm_220_124 (k_31 : Int32 → Int32 → Int32 → Int32 → fx_S → Option (Int32 × fx_S)) (x1 : Int32) (x2 : Int32) (x4 : Int32) (s0 : Int32) (s1 : Int32) (σ : fx_S) : Option (Int32 × fx_S) :=
  (fm_131 s1 σ).bind fun q2 =>
  k_31 x1 x2 (s0 + q2.1) (x4 + (1 : Int32)) q2.2
theorem fe_220_124 {d : Nat} (hd : 2 ≤ d) {k_31 : Int32 → Int32 → Int32 → Int32 → fx_S → Option (Int32 × fx_S)} (hk_31 : ∀ (x1 : Int32) (x2 : Int32) (x3 : Int32) (x4 : Int32) (o5 : Option Value) (o6 : Option Value) (o7 : Option Value) (σ : fx_S) (q : Int32 × fx_S), k_31 x1 x2 x3 x4 σ = some q → fx_E none 220 d 31 [some (.ref 215), some (.int x1), some (.int x2), some (.int x3), some (.int x4), o5, o6, o7] [] σ (some (.int q.1)) q.2) (x1 : Int32) (x2 : Int32) (x4 : Int32) (s0 : Int32) (s1 : Int32) (o3 : Option Value) (o5 : Option Value) (o6 : Option Value) (o7 : Option Value) (σ : fx_S) (q : Int32 × fx_S) (h : fm_220_124 k_31  x1 x2 x4 s0 s1 σ = some q) : fx_E none 220 d 124 [some (.ref 215), some (.int x1), some (.int x2), o3, some (.int x4), o5, o6, o7] [.int s1, .int s0] σ (some (.int q.1)) q.2 := by
  unfold fm_220_124 at h
  obtain ⟨q2, w1, h⟩ := fx_bd h
  refine fs_callS (idx := 186) (mj := 131) (na := 1) (mx := 1) (p := 127) (args := [.int s1]) (rest := [.int s0]) (al2 := [some (.int s1)]) (by decide +kernel) rfl (by decide +kernel) rfl rfl rfl rfl rfl rfl rfl (by omega) (fun d' hd' => fe_131 (by omega) w1) rfl ?_
  refine fs_iadd (p := 128) (by decide +kernel) rfl ?_
  refine fs_istore_n (k := 3) (p := 129) (M := 8) (al' := [some (.ref 215), some (.int x1), some (.int x2), some (.int (s0 + q2.1)), some (.int x4), o5, o6, o7]) (by decide +kernel) rfl mx_220 rfl rfl ?_
  refine fs_iinc (k := 4) (n := 1) (p := 132) (M := 8) (al' := [some (.ref 215), some (.int x1), some (.int x2), some (.int (s0 + q2.1)), some (.int (x4 + (1 : Int32))), o5, o6, o7]) (by decide +kernel) rfl kc_1 mx_220 rfl rfl rfl ?_
  refine fs_goto (off := -101) (p := 31) (by decide +kernel) (by decide +kernel) ?_
  exact hk_31 _ _ _ _ _ _ _ _ _ h
def fm_220_113 (k_31 : Int32 → Int32 → Int32 → Int32 → fx_S → Option (Int32 × fx_S)) (x1 : Int32) (x2 : Int32) (x3 : Int32) (x4 : Int32) (x7 : Int32) (σ : fx_S) : Option (Int32 × fx_S) :=
  if x7 ≤ 0 then (
    fm_220_124 k_31 x1 x2 x4 x3 (0 : Int32) σ) else (
    fm_220_124 k_31 x1 x2 x4 x3 (1 : Int32) σ)
theorem fe_220_113 {d : Nat} (hd : 2 ≤ d) {k_31 : Int32 → Int32 → Int32 → Int32 → fx_S → Option (Int32 × fx_S)} (hk_31 : ∀ (x1 : Int32) (x2 : Int32) (x3 : Int32) (x4 : Int32) (o5 : Option Value) (o6 : Option Value) (o7 : Option Value) (σ : fx_S) (q : Int32 × fx_S), k_31 x1 x2 x3 x4 σ = some q → fx_E none 220 d 31 [some (.ref 215), some (.int x1), some (.int x2), some (.int x3), some (.int x4), o5, o6, o7] [] σ (some (.int q.1)) q.2) (x1 : Int32) (x2 : Int32) (x3 : Int32) (x4 : Int32) (x7 : Int32) (o5 : Option Value) (o6 : Option Value) (σ : fx_S) (q : Int32 × fx_S) (h : fm_220_113 k_31  x1 x2 x3 x4 x7 σ = some q) : fx_E none 220 d 113 [some (.ref 215), some (.int x1), some (.int x2), some (.int x3), some (.int x4), o5, o6, some (.int x7)] [] σ (some (.int q.1)) q.2 := by
  unfold fm_220_113 at h
  refine fs_iload_n (k := 3) (p := 114) (by decide +kernel) rfl rfl ?_
  refine fs_iload (k := 7) (p := 116) (by decide +kernel) rfl rfl ?_
  by_cases c2 : x7 ≤ 0
  · rw [if_pos c2] at h
    refine fs_if_le_t (off := 7) (t := 123) (by decide +kernel) (by decide +kernel) c2 ?_
    refine fs_iconst (n := 0) (p := 124) (by decide +kernel) rfl kc_0 ?_
    exact fe_220_124 hd hk_31 _ _ _ _ _ _ _ _ _ _ _ h
  · rw [if_neg c2] at h
    refine fs_if_le_f (off := 7) (t := 123) (p := 119) (by decide +kernel) (by decide +kernel) rfl c2 ?_
    refine fs_iconst (n := 1) (p := 120) (by decide +kernel) rfl kc_1 ?_
    refine fs_goto (off := 4) (p := 124) (by decide +kernel) (by decide +kernel) ?_
    exact fe_220_124 hd hk_31 _ _ _ _ _ _ _ _ _ _ _ h
def fm_220_31 : Nat → Int32 → Int32 → Int32 → Int32 → fx_S → Option (Int32 × fx_S)
  | 0, _, _, _, _, _ => none
  | n + 1, x1, x2, x3, x4, σ =>
    if (288 : Int32) ≤ x4 then (
      if ¬ x1 = (-1 : Int32) then (
        some ((-1 : Int32), σ)) else (
        some (x3, σ))) else (
      (fm_219 (x4 / (36 : Int32)) ((x4 / (4 : Int32)) - (x4 / (4 : Int32)) / (9 : Int32) * (9 : Int32)) (x4 - x4 / (4 : Int32) * (4 : Int32)) σ).bind fun q8 =>
      if q8.1 ≤ 0 then (
        fm_220_113 (fm_220_31 n) x1 x2 x3 x4 q8.1 q8.2) else (
        if ¬ x3 = x1 then (
          fm_220_113 (fm_220_31 n) x1 x2 x3 x4 q8.1 q8.2) else (
          if ¬ x2 = 0 then (
            if ¬ x2 = (1 : Int32) then (
              if ¬ x2 = (2 : Int32) then (
                some (q8.1, q8.2)) else (
                some ((x4 - x4 / (4 : Int32) * (4 : Int32)), q8.2))) else (
              some (((x4 / (4 : Int32)) - (x4 / (4 : Int32)) / (9 : Int32) * (9 : Int32)), q8.2))) else (
            some ((x4 / (36 : Int32)), q8.2)))))
theorem fe_220_31 {d : Nat} (hd : 2 ≤ d) : ∀ (n : Nat) (x1 : Int32) (x2 : Int32) (x3 : Int32) (x4 : Int32) (o5 : Option Value) (o6 : Option Value) (o7 : Option Value) (σ : fx_S) (q : Int32 × fx_S), fm_220_31 n x1 x2 x3 x4 σ = some q → fx_E none 220 d 31 [some (.ref 215), some (.int x1), some (.int x2), some (.int x3), some (.int x4), o5, o6, o7] [] σ (some (.int q.1)) q.2 := by
  intro n
  induction n with
  | zero =>
    intro x1 x2 x3 x4 o5 o6 o7 σ q  h
    rw [fm_220_31] at h
    exact fx_no h
  | succ n ih =>
    intro x1 x2 x3 x4 o5 o6 o7 σ q  h
    rw [fm_220_31] at h
    refine fs_iload (k := 4) (p := 33) (by decide +kernel) rfl rfl ?_
    refine fs_sipush (n := 288) (p := 36) (by decide +kernel) rfl ks_288 ?_
    by_cases c2 : (288 : Int32) ≤ x4
    · rw [if_pos c2] at h
      refine fs_icmp_ge_t (off := 99) (t := 135) (by decide +kernel) (by decide +kernel) c2 ?_
      refine fs_iload_n (k := 1) (p := 136) (by decide +kernel) rfl rfl ?_
      refine fs_iconst (n := -1) (p := 137) (by decide +kernel) rfl kc_m1 ?_
      by_cases c4 : ¬ x1 = (-1 : Int32)
      · rw [if_pos c4] at h
        refine fs_icmp_ne_t (off := 7) (t := 144) (by decide +kernel) (by decide +kernel) c4 ?_
        refine fs_iconst (n := -1) (p := 145) (by decide +kernel) rfl kc_m1 ?_
        have h := Option.some.inj h
        subst h
        exact fs_iret (by decide +kernel) rt_220
      · rw [if_neg c4] at h
        refine fs_icmp_ne_f (off := 7) (t := 144) (p := 140) (by decide +kernel) (by decide +kernel) rfl c4 ?_
        refine fs_iload_n (k := 3) (p := 141) (by decide +kernel) rfl rfl ?_
        refine fs_goto (off := 4) (p := 145) (by decide +kernel) (by decide +kernel) ?_
        have h := Option.some.inj h
        subst h
        exact fs_iret (by decide +kernel) rt_220
    · rw [if_neg c2] at h
      refine fs_icmp_ge_f (off := 99) (t := 135) (p := 39) (by decide +kernel) (by decide +kernel) rfl c2 ?_
      refine fs_iload (k := 4) (p := 41) (by decide +kernel) rfl rfl ?_
      refine fs_bipush (n := 36) (p := 43) (by decide +kernel) rfl kb_36 ?_
      refine fs_idiv (p := 44) (by decide +kernel) rfl (by decide) ?_
      refine fs_istore (k := 5) (p := 46) (M := 8) (al' := [some (.ref 215), some (.int x1), some (.int x2), some (.int x3), some (.int x4), some (.int (x4 / (36 : Int32))), o6, o7]) (by decide +kernel) rfl mx_220 rfl rfl ?_
      refine fs_iload (k := 4) (p := 48) (by decide +kernel) rfl rfl ?_
      refine fs_iconst (n := 4) (p := 49) (by decide +kernel) rfl kc_4 ?_
      refine fs_idiv (p := 50) (by decide +kernel) rfl (by decide) ?_
      refine fs_bipush (n := 9) (p := 52) (by decide +kernel) rfl kb_9 ?_
      refine fs_irem (p := 53) (by decide +kernel) rfl (by decide) ?_
      refine fs_istore (k := 6) (p := 55) (M := 8) (al' := [some (.ref 215), some (.int x1), some (.int x2), some (.int x3), some (.int x4), some (.int (x4 / (36 : Int32))), some (.int ((x4 / (4 : Int32)) - (x4 / (4 : Int32)) / (9 : Int32) * (9 : Int32))), o7]) (by decide +kernel) rfl mx_220 rfl rfl ?_
      refine fs_aload_n (k := 0) (p := 56) (by decide +kernel) rfl rfl ?_
      refine fs_iload (k := 5) (p := 58) (by decide +kernel) rfl rfl ?_
      refine fs_iload (k := 6) (p := 60) (by decide +kernel) rfl rfl ?_
      refine fs_iload (k := 4) (p := 62) (by decide +kernel) rfl rfl ?_
      refine fs_iconst (n := 4) (p := 63) (by decide +kernel) rfl kc_4 ?_
      refine fs_irem (p := 64) (by decide +kernel) rfl (by decide) ?_
      obtain ⟨q8, w7, h⟩ := fx_bd h
      refine fs_callV (idx := 431) (mj := 219) (ci := 10) (na := 3) (mx := 6) (p := 67) (args := [.ref 215, .int (x4 / (36 : Int32)), .int ((x4 / (4 : Int32)) - (x4 / (4 : Int32)) / (9 : Int32) * (9 : Int32)), .int (x4 - x4 / (4 : Int32) * (4 : Int32))]) (rest := []) (al2 := [some (.ref 215), some (.int (x4 / (36 : Int32))), some (.int ((x4 / (4 : Int32)) - (x4 / (4 : Int32)) / (9 : Int32) * (9 : Int32))), some (.int (x4 - x4 / (4 : Int32) * (4 : Int32))), none, none]) (by decide +kernel) rfl (by decide +kernel) fo_215 rfl rfl rfl rfl rfl rfl rfl (by omega) (fun d' hd' => fe_219 (by omega) w7) rfl ?_
      refine fs_istore (k := 7) (p := 69) (M := 8) (al' := [some (.ref 215), some (.int x1), some (.int x2), some (.int x3), some (.int x4), some (.int (x4 / (36 : Int32))), some (.int ((x4 / (4 : Int32)) - (x4 / (4 : Int32)) / (9 : Int32) * (9 : Int32))), some (.int q8.1)]) (by decide +kernel) rfl mx_220 rfl rfl ?_
      refine fs_iload (k := 7) (p := 71) (by decide +kernel) rfl rfl ?_
      by_cases c10 : q8.1 ≤ 0
      · rw [if_pos c10] at h
        refine fs_if_le_t (off := 42) (t := 113) (by decide +kernel) (by decide +kernel) c10 ?_
        exact fe_220_113 hd ih _ _ _ _ _ _ _ _ _ h
      · rw [if_neg c10] at h
        refine fs_if_le_f (off := 42) (t := 113) (p := 74) (by decide +kernel) (by decide +kernel) rfl c10 ?_
        refine fs_iload_n (k := 3) (p := 75) (by decide +kernel) rfl rfl ?_
        refine fs_iload_n (k := 1) (p := 76) (by decide +kernel) rfl rfl ?_
        by_cases c13 : ¬ x3 = x1
        · rw [if_pos c13] at h
          refine fs_icmp_ne_t (off := 37) (t := 113) (by decide +kernel) (by decide +kernel) c13 ?_
          exact fe_220_113 hd ih _ _ _ _ _ _ _ _ _ h
        · rw [if_neg c13] at h
          refine fs_icmp_ne_f (off := 37) (t := 113) (p := 79) (by decide +kernel) (by decide +kernel) rfl c13 ?_
          refine fs_iload_n (k := 2) (p := 80) (by decide +kernel) rfl rfl ?_
          by_cases c15 : ¬ x2 = 0
          · rw [if_pos c15] at h
            refine fs_if_ne_t (off := 8) (t := 88) (by decide +kernel) (by decide +kernel) c15 ?_
            refine fs_iload_n (k := 2) (p := 89) (by decide +kernel) rfl rfl ?_
            refine fs_iconst (n := 1) (p := 90) (by decide +kernel) rfl kc_1 ?_
            by_cases c16 : ¬ x2 = (1 : Int32)
            · rw [if_pos c16] at h
              refine fs_icmp_ne_t (off := 8) (t := 98) (by decide +kernel) (by decide +kernel) c16 ?_
              refine fs_iload_n (k := 2) (p := 99) (by decide +kernel) rfl rfl ?_
              refine fs_iconst (n := 2) (p := 100) (by decide +kernel) rfl kc_2 ?_
              by_cases c17 : ¬ x2 = (2 : Int32)
              · rw [if_pos c17] at h
                refine fs_icmp_ne_t (off := 10) (t := 110) (by decide +kernel) (by decide +kernel) c17 ?_
                refine fs_iload (k := 7) (p := 112) (by decide +kernel) rfl rfl ?_
                have h := Option.some.inj h
                subst h
                exact fs_iret (by decide +kernel) rt_220
              · rw [if_neg c17] at h
                refine fs_icmp_ne_f (off := 10) (t := 110) (p := 103) (by decide +kernel) (by decide +kernel) rfl c17 ?_
                refine fs_iload (k := 4) (p := 105) (by decide +kernel) rfl rfl ?_
                refine fs_iconst (n := 4) (p := 106) (by decide +kernel) rfl kc_4 ?_
                refine fs_irem (p := 107) (by decide +kernel) rfl (by decide) ?_
                refine fs_goto (off := 5) (p := 112) (by decide +kernel) (by decide +kernel) ?_
                have h := Option.some.inj h
                subst h
                exact fs_iret (by decide +kernel) rt_220
            · rw [if_neg c16] at h
              refine fs_icmp_ne_f (off := 8) (t := 98) (p := 93) (by decide +kernel) (by decide +kernel) rfl c16 ?_
              refine fs_iload (k := 6) (p := 95) (by decide +kernel) rfl rfl ?_
              refine fs_goto (off := 17) (p := 112) (by decide +kernel) (by decide +kernel) ?_
              have h := Option.some.inj h
              subst h
              exact fs_iret (by decide +kernel) rt_220
          · rw [if_neg c15] at h
            refine fs_if_ne_f (off := 8) (t := 88) (p := 83) (by decide +kernel) (by decide +kernel) rfl c15 ?_
            refine fs_iload (k := 5) (p := 85) (by decide +kernel) rfl rfl ?_
            refine fs_goto (off := 27) (p := 112) (by decide +kernel) (by decide +kernel) ?_
            have h := Option.some.inj h
            subst h
            exact fs_iret (by decide +kernel) rt_220
def fm_220 (x1 : Int32) (x2 : Int32) (σ : fx_S) : Option (Int32 × fx_S) :=
  (fm_150 σ).bind fun q49 =>
  if (fx_b q49.1) = 0 then (
    some ((-1 : Int32), q49.2)) else (
    if x1 < (-1 : Int32) then (
      some ((-1 : Int32), q49.2)) else (
      (fm_130 (x2).toInt64 (0 : Int64) (3 : Int64) q49.2).bind fun q55 =>
      if ¬ (fx_b q55.1) = 0 then (
        fm_220_31 100000 x1 x2 (0 : Int32) (0 : Int32) q55.2) else (
        some ((-1 : Int32), q55.2))))
theorem fe_220 {d : Nat} (hd : 2 ≤ d) {x1 : Int32} {x2 : Int32} {σ : fx_S} {q : Int32 × fx_S} (h : fm_220 x1 x2 σ = some q) : fx_E none 220 d 0 [some (.ref 215), some (.int x1), some (.int x2), none, none, none, none, none] [] σ (some (.int q.1)) q.2 := by
  unfold fm_220 at h
  refine fs_aload_n (k := 0) (p := 1) (by decide +kernel) rfl rfl ?_
  obtain ⟨q49, w48, h⟩ := fx_bd h
  refine fs_callV (idx := 303) (mj := 150) (ci := 10) (na := 0) (mx := 1) (p := 4) (args := [.ref 215]) (rest := []) (al2 := [some (.ref 215)]) (by decide +kernel) rfl (by decide +kernel) fo_215 rfl rfl rfl rfl rfl rfl rfl (by omega) (fun d' hd' => fe_150 (by omega) w48) rfl ?_
  by_cases c50 : (fx_b q49.1) = 0
  · rw [if_pos c50] at h
    refine fs_if_eq_t (off := 20) (t := 24) (by decide +kernel) (by decide +kernel) c50 ?_
    refine fs_iconst (n := -1) (p := 25) (by decide +kernel) rfl kc_m1 ?_
    have h := Option.some.inj h
    subst h
    exact fs_iret (by decide +kernel) rt_220
  · rw [if_neg c50] at h
    refine fs_if_eq_f (off := 20) (t := 24) (p := 7) (by decide +kernel) (by decide +kernel) rfl c50 ?_
    refine fs_iload_n (k := 1) (p := 8) (by decide +kernel) rfl rfl ?_
    refine fs_iconst (n := -1) (p := 9) (by decide +kernel) rfl kc_m1 ?_
    by_cases c52 : x1 < (-1 : Int32)
    · rw [if_pos c52] at h
      refine fs_icmp_lt_t (off := 15) (t := 24) (by decide +kernel) (by decide +kernel) c52 ?_
      refine fs_iconst (n := -1) (p := 25) (by decide +kernel) rfl kc_m1 ?_
      have h := Option.some.inj h
      subst h
      exact fs_iret (by decide +kernel) rt_220
    · rw [if_neg c52] at h
      refine fs_icmp_lt_f (off := 15) (t := 24) (p := 12) (by decide +kernel) (by decide +kernel) rfl c52 ?_
      refine fs_iload_n (k := 2) (p := 13) (by decide +kernel) rfl rfl ?_
      refine fs_i2l (p := 14) (by decide +kernel) rfl ?_
      refine fs_lconst (n := 0) (p := 15) (by decide +kernel) rfl kl_0 ?_
      refine fs_ldc2 (idx := 327) (p := 18) (x := 3) (by decide +kernel) rfl (by decide +kernel) ?_
      obtain ⟨q55, w54, h⟩ := fx_bd h
      refine fs_callS (idx := 128) (mj := 130) (na := 3) (mx := 6) (p := 21) (args := [.long (x2).toInt64, .long (0 : Int64), .long (3 : Int64)]) (rest := []) (al2 := [some (.long (x2).toInt64), none, some (.long (0 : Int64)), none, some (.long (3 : Int64)), none]) (by decide +kernel) rfl (by decide +kernel) rfl rfl rfl rfl rfl rfl rfl (by omega) (fun d' hd' => fe_130 (by omega) w54) rfl ?_
      by_cases c56 : ¬ (fx_b q55.1) = 0
      · rw [if_pos c56] at h
        refine fs_if_ne_t (off := 5) (t := 26) (by decide +kernel) (by decide +kernel) c56 ?_
        refine fs_iconst (n := 0) (p := 27) (by decide +kernel) rfl kc_0 ?_
        refine fs_istore_n (k := 3) (p := 28) (M := 8) (al' := [some (.ref 215), some (.int x1), some (.int x2), some (.int (0 : Int32)), none, none, none, none]) (by decide +kernel) rfl mx_220 rfl rfl ?_
        refine fs_iconst (n := 0) (p := 29) (by decide +kernel) rfl kc_0 ?_
        refine fs_istore (k := 4) (p := 31) (M := 8) (al' := [some (.ref 215), some (.int x1), some (.int x2), some (.int (0 : Int32)), some (.int (0 : Int32)), none, none, none]) (by decide +kernel) rfl mx_220 rfl rfl ?_
        exact fe_220_31 hd 100000 _ _ _ _ _ _ _ _ _ h
      · rw [if_neg c56] at h
        refine fs_if_ne_f (off := 5) (t := 26) (p := 24) (by decide +kernel) (by decide +kernel) rfl c56 ?_
        refine fs_iconst (n := -1) (p := 25) (by decide +kernel) rfl kc_m1 ?_
        have h := Option.some.inj h
        subst h
        exact fs_iret (by decide +kernel) rt_220

/-! ZoneSharesModel.newSet(I)I -/
theorem mx_221 : iv_mx 221 = 4 := by decide +kernel
theorem rt_221 : iv_rt 221 = some .int := by decide +kernel
def fm_221_35 (k_4 : Int32 → Int32 → Int32 → fx_S → Option (Int32 × fx_S)) (x1 : Int32) (x3 : Int32) (s0 : Int32) (s1 : Int32) (σ : fx_S) : Option (Int32 × fx_S) :=
  k_4 x1 (s0 ||| s1) (x3 + (1 : Int32)) σ
theorem fe_221_35 {d : Nat} (hd : 1 ≤ d) {k_4 : Int32 → Int32 → Int32 → fx_S → Option (Int32 × fx_S)} (hk_4 : ∀ (x1 : Int32) (x2 : Int32) (x3 : Int32) (σ : fx_S) (q : Int32 × fx_S), k_4 x1 x2 x3 σ = some q → fx_E none 221 d 4 [some (.ref 215), some (.int x1), some (.int x2), some (.int x3)] [] σ (some (.int q.1)) q.2) (x1 : Int32) (x3 : Int32) (s0 : Int32) (s1 : Int32) (o2 : Option Value) (σ : fx_S) (q : Int32 × fx_S) (h : fm_221_35 k_4  x1 x3 s0 s1 σ = some q) : fx_E none 221 d 35 [some (.ref 215), some (.int x1), o2, some (.int x3)] [.int s1, .int s0] σ (some (.int q.1)) q.2 := by
  unfold fm_221_35 at h
  refine fs_ior (p := 36) (by decide +kernel) rfl ?_
  refine fs_istore_n (k := 2) (p := 37) (M := 4) (al' := [some (.ref 215), some (.int x1), some (.int (s0 ||| s1)), some (.int x3)]) (by decide +kernel) rfl mx_221 rfl rfl ?_
  refine fs_iinc (k := 3) (n := 1) (p := 40) (M := 4) (al' := [some (.ref 215), some (.int x1), some (.int (s0 ||| s1)), some (.int (x3 + (1 : Int32)))]) (by decide +kernel) rfl kc_1 mx_221 rfl rfl rfl ?_
  refine fs_goto (off := -36) (p := 4) (by decide +kernel) (by decide +kernel) ?_
  exact hk_4 _ _ _ _ _ h
def fm_221_4 : Nat → Int32 → Int32 → Int32 → fx_S → Option (Int32 × fx_S)
  | 0, _, _, _, _ => none
  | n + 1, x1, x2, x3, σ =>
    (fm_151 σ).bind fun q2 =>
    if q2.1 ≤ x3 then (
      some (x2, q2.2)) else (
      (fm_152 (0 : Int32) x3 q2.2).bind fun q7 =>
      if ¬ q7.1 = x1 then (
        fm_221_35 (fm_221_4 n) x1 x3 x2 (0 : Int32) q7.2) else (
        (fm_152 (1 : Int32) x3 q7.2).bind fun q12 =>
        fm_221_35 (fm_221_4 n) x1 x3 x2 ((1 : Int32) <<< (q12.1 &&& 31)) q12.2))
theorem fe_221_4 {d : Nat} (hd : 1 ≤ d) : ∀ (n : Nat) (x1 : Int32) (x2 : Int32) (x3 : Int32) (σ : fx_S) (q : Int32 × fx_S), fm_221_4 n x1 x2 x3 σ = some q → fx_E none 221 d 4 [some (.ref 215), some (.int x1), some (.int x2), some (.int x3)] [] σ (some (.int q.1)) q.2 := by
  intro n
  induction n with
  | zero =>
    intro x1 x2 x3 σ q  h
    rw [fm_221_4] at h
    exact fx_no h
  | succ n ih =>
    intro x1 x2 x3 σ q  h
    rw [fm_221_4] at h
    refine fs_iload_n (k := 3) (p := 5) (by decide +kernel) rfl rfl ?_
    refine fs_aload_n (k := 0) (p := 6) (by decide +kernel) rfl rfl ?_
    obtain ⟨q2, w1, h⟩ := fx_bd h
    refine fs_callV (idx := 196) (mj := 151) (ci := 10) (na := 0) (mx := 1) (p := 9) (args := [.ref 215]) (rest := [.int x3]) (al2 := [some (.ref 215)]) (by decide +kernel) rfl (by decide +kernel) fo_215 rfl rfl rfl rfl rfl rfl rfl (by omega) (fun d' hd' => fe_151 (by omega) w1) rfl ?_
    by_cases c5 : q2.1 ≤ x3
    · rw [if_pos c5] at h
      refine fs_icmp_ge_t (off := 34) (t := 43) (by decide +kernel) (by decide +kernel) c5 ?_
      refine fs_iload_n (k := 2) (p := 44) (by decide +kernel) rfl rfl ?_
      have h := Option.some.inj h
      subst h
      exact fs_iret (by decide +kernel) rt_221
    · rw [if_neg c5] at h
      refine fs_icmp_ge_f (off := 34) (t := 43) (p := 12) (by decide +kernel) (by decide +kernel) rfl c5 ?_
      refine fs_iload_n (k := 2) (p := 13) (by decide +kernel) rfl rfl ?_
      refine fs_aload_n (k := 0) (p := 14) (by decide +kernel) rfl rfl ?_
      refine fs_iconst (n := 0) (p := 15) (by decide +kernel) rfl kc_0 ?_
      refine fs_iload_n (k := 3) (p := 16) (by decide +kernel) rfl rfl ?_
      obtain ⟨q7, w6, h⟩ := fx_bd h
      refine fs_callV (idx := 199) (mj := 152) (ci := 10) (na := 2) (mx := 3) (p := 19) (args := [.ref 215, .int (0 : Int32), .int x3]) (rest := [.int x2]) (al2 := [some (.ref 215), some (.int (0 : Int32)), some (.int x3)]) (by decide +kernel) rfl (by decide +kernel) fo_215 rfl rfl rfl rfl rfl rfl rfl (by omega) (fun d' hd' => fe_152 (by omega) w6) rfl ?_
      refine fs_iload_n (k := 1) (p := 20) (by decide +kernel) rfl rfl ?_
      by_cases c10 : ¬ q7.1 = x1
      · rw [if_pos c10] at h
        refine fs_icmp_ne_t (off := 14) (t := 34) (by decide +kernel) (by decide +kernel) c10 ?_
        refine fs_iconst (n := 0) (p := 35) (by decide +kernel) rfl kc_0 ?_
        exact fe_221_35 hd ih _ _ _ _ _ _ _ h
      · rw [if_neg c10] at h
        refine fs_icmp_ne_f (off := 14) (t := 34) (p := 23) (by decide +kernel) (by decide +kernel) rfl c10 ?_
        refine fs_iconst (n := 1) (p := 24) (by decide +kernel) rfl kc_1 ?_
        refine fs_aload_n (k := 0) (p := 25) (by decide +kernel) rfl rfl ?_
        refine fs_iconst (n := 1) (p := 26) (by decide +kernel) rfl kc_1 ?_
        refine fs_iload_n (k := 3) (p := 27) (by decide +kernel) rfl rfl ?_
        obtain ⟨q12, w11, h⟩ := fx_bd h
        refine fs_callV (idx := 199) (mj := 152) (ci := 10) (na := 2) (mx := 3) (p := 30) (args := [.ref 215, .int (1 : Int32), .int x3]) (rest := [.int (1 : Int32), .int x2]) (al2 := [some (.ref 215), some (.int (1 : Int32)), some (.int x3)]) (by decide +kernel) rfl (by decide +kernel) fo_215 rfl rfl rfl rfl rfl rfl rfl (by omega) (fun d' hd' => fe_152 (by omega) w11) rfl ?_
        refine fs_ishl (p := 31) (by decide +kernel) rfl ?_
        refine fs_goto (off := 4) (p := 35) (by decide +kernel) (by decide +kernel) ?_
        exact fe_221_35 hd ih _ _ _ _ _ _ _ h
def fm_221 (x1 : Int32) (σ : fx_S) : Option (Int32 × fx_S) :=
  fm_221_4 100000 x1 (0 : Int32) (0 : Int32) σ
theorem fe_221 {d : Nat} (hd : 1 ≤ d) {x1 : Int32} {σ : fx_S} {q : Int32 × fx_S} (h : fm_221 x1 σ = some q) : fx_E none 221 d 0 [some (.ref 215), some (.int x1), none, none] [] σ (some (.int q.1)) q.2 := by
  unfold fm_221 at h
  refine fs_iconst (n := 0) (p := 1) (by decide +kernel) rfl kc_0 ?_
  refine fs_istore_n (k := 2) (p := 2) (M := 4) (al' := [some (.ref 215), some (.int x1), some (.int (0 : Int32)), none]) (by decide +kernel) rfl mx_221 rfl rfl ?_
  refine fs_iconst (n := 0) (p := 3) (by decide +kernel) rfl kc_0 ?_
  refine fs_istore_n (k := 3) (p := 4) (M := 4) (al' := [some (.ref 215), some (.int x1), some (.int (0 : Int32)), some (.int (0 : Int32))]) (by decide +kernel) rfl mx_221 rfl rfl ?_
  exact fe_221_4 hd 100000 _ _ _ _ _ h

/-! ZoneSharesModel.asideAll()I -/
theorem mx_225 : iv_mx 225 = 3 := by decide +kernel
theorem rt_225 : iv_rt 225 = some .int := by decide +kernel
def fm_225_30 (x1 : Int32) (σ : fx_S) : Option (Int32 × fx_S) :=
  some (x1, σ)
theorem fe_225_30 {d : Nat} (hd : 5 ≤ d) (x1 : Int32) (o0 : Option Value) (o2 : Option Value) (σ : fx_S) (q : Int32 × fx_S) (h : fm_225_30  x1 σ = some q) : fx_E none 225 d 30 [o0, some (.int x1), o2] [] σ (some (.int q.1)) q.2 := by
  unfold fm_225_30 at h
  refine fs_iload_n (k := 1) (p := 31) (by decide +kernel) rfl rfl ?_
  have h := Option.some.inj h
  subst h
  exact fs_iret (by decide +kernel) rt_225
def fm_225_4 : Nat → Int32 → Int32 → fx_S → Option (Int32 × fx_S)
  | 0, _, _, _ => none
  | n + 1, x1, x2, σ =>
    if (3 : Int32) ≤ x2 then (
      fm_225_30 x1 σ) else (
      (fm_150 σ).bind fun q4 =>
      if (fx_b q4.1) = 0 then (
        fm_225_30 x1 q4.2) else (
        (fm_176 x2 q4.2).bind fun q7 =>
        fm_225_4 n (x1 + q7.1) (x2 + (1 : Int32)) q7.2))
theorem fe_225_4 {d : Nat} (hd : 5 ≤ d) : ∀ (n : Nat) (x1 : Int32) (x2 : Int32) (σ : fx_S) (q : Int32 × fx_S), fm_225_4 n x1 x2 σ = some q → fx_E none 225 d 4 [some (.ref 215), some (.int x1), some (.int x2)] [] σ (some (.int q.1)) q.2 := by
  intro n
  induction n with
  | zero =>
    intro x1 x2 σ q  h
    rw [fm_225_4] at h
    exact fx_no h
  | succ n ih =>
    intro x1 x2 σ q  h
    rw [fm_225_4] at h
    refine fs_iload_n (k := 2) (p := 5) (by decide +kernel) rfl rfl ?_
    refine fs_iconst (n := 3) (p := 6) (by decide +kernel) rfl kc_3 ?_
    by_cases c2 : (3 : Int32) ≤ x2
    · rw [if_pos c2] at h
      refine fs_icmp_ge_t (off := 24) (t := 30) (by decide +kernel) (by decide +kernel) c2 ?_
      exact fe_225_30 hd _ _ _ _ _ h
    · rw [if_neg c2] at h
      refine fs_icmp_ge_f (off := 24) (t := 30) (p := 9) (by decide +kernel) (by decide +kernel) rfl c2 ?_
      refine fs_aload_n (k := 0) (p := 10) (by decide +kernel) rfl rfl ?_
      obtain ⟨q4, w3, h⟩ := fx_bd h
      refine fs_callV (idx := 303) (mj := 150) (ci := 10) (na := 0) (mx := 1) (p := 13) (args := [.ref 215]) (rest := []) (al2 := [some (.ref 215)]) (by decide +kernel) rfl (by decide +kernel) fo_215 rfl rfl rfl rfl rfl rfl rfl (by omega) (fun d' hd' => fe_150 (by omega) w3) rfl ?_
      by_cases c5 : (fx_b q4.1) = 0
      · rw [if_pos c5] at h
        refine fs_if_eq_t (off := 17) (t := 30) (by decide +kernel) (by decide +kernel) c5 ?_
        exact fe_225_30 hd _ _ _ _ _ h
      · rw [if_neg c5] at h
        refine fs_if_eq_f (off := 17) (t := 30) (p := 16) (by decide +kernel) (by decide +kernel) rfl c5 ?_
        refine fs_iload_n (k := 1) (p := 17) (by decide +kernel) rfl rfl ?_
        refine fs_aload_n (k := 0) (p := 18) (by decide +kernel) rfl rfl ?_
        refine fs_iload_n (k := 2) (p := 19) (by decide +kernel) rfl rfl ?_
        obtain ⟨q7, w6, h⟩ := fx_bd h
        refine fs_callV (idx := 284) (mj := 176) (ci := 10) (na := 1) (mx := 2) (p := 22) (args := [.ref 215, .int x2]) (rest := [.int x1]) (al2 := [some (.ref 215), some (.int x2)]) (by decide +kernel) rfl (by decide +kernel) fo_215 rfl rfl rfl rfl rfl rfl rfl (by omega) (fun d' hd' => fe_176 (by omega) w6) rfl ?_
        refine fs_iadd (p := 23) (by decide +kernel) rfl ?_
        refine fs_istore_n (k := 1) (p := 24) (M := 3) (al' := [some (.ref 215), some (.int (x1 + q7.1)), some (.int x2)]) (by decide +kernel) rfl mx_225 rfl rfl ?_
        refine fs_iinc (k := 2) (n := 1) (p := 27) (M := 3) (al' := [some (.ref 215), some (.int (x1 + q7.1)), some (.int (x2 + (1 : Int32)))]) (by decide +kernel) rfl kc_1 mx_225 rfl rfl rfl ?_
        refine fs_goto (off := -23) (p := 4) (by decide +kernel) (by decide +kernel) ?_
        exact ih _ _ _ _ h
def fm_225 (σ : fx_S) : Option (Int32 × fx_S) :=
  fm_225_4 100000 (0 : Int32) (0 : Int32) σ
theorem fe_225 {d : Nat} (hd : 5 ≤ d) {σ : fx_S} {q : Int32 × fx_S} (h : fm_225 σ = some q) : fx_E none 225 d 0 [some (.ref 215), none, none] [] σ (some (.int q.1)) q.2 := by
  unfold fm_225 at h
  refine fs_iconst (n := 0) (p := 1) (by decide +kernel) rfl kc_0 ?_
  refine fs_istore_n (k := 1) (p := 2) (M := 3) (al' := [some (.ref 215), some (.int (0 : Int32)), none]) (by decide +kernel) rfl mx_225 rfl rfl ?_
  refine fs_iconst (n := 0) (p := 3) (by decide +kernel) rfl kc_0 ?_
  refine fs_istore_n (k := 2) (p := 4) (M := 3) (al' := [some (.ref 215), some (.int (0 : Int32)), some (.int (0 : Int32))]) (by decide +kernel) rfl mx_225 rfl rfl ?_
  exact fe_225_4 hd 100000 _ _ _ _ h

/-! ZoneSharesModel.weight(II)I -/
theorem mx_227 : iv_mx 227 = 3 := by decide +kernel
theorem rt_227 : iv_rt 227 = some .int := by decide +kernel
def fm_227 (x1 : Int32) (x2 : Int32) (σ : fx_S) : Option (Int32 × fx_S) :=
  (fm_148 x1 σ).bind fun q12 =>
  if (fx_b q12.1) = 0 then (
    some ((-1 : Int32), q12.2)) else (
    (fm_130 (x2).toInt64 (0 : Int64) (3 : Int64) q12.2).bind fun q16 =>
    if (fx_b q16.1) = 0 then (
      some ((-1 : Int32), q16.2)) else (
      (fx_ld q16.2 216 (((32 : Int32) + ((4 : Int32) * x1)) + x2)).bind fun v18 =>
      some (v18, q16.2)))
theorem fe_227 {d : Nat} (hd : 2 ≤ d) {x1 : Int32} {x2 : Int32} {σ : fx_S} {q : Int32 × fx_S} (h : fm_227 x1 x2 σ = some q) : fx_E none 227 d 0 [some (.ref 215), some (.int x1), some (.int x2)] [] σ (some (.int q.1)) q.2 := by
  unfold fm_227 at h
  refine fs_iload_n (k := 1) (p := 1) (by decide +kernel) rfl rfl ?_
  obtain ⟨q12, w11, h⟩ := fx_bd h
  refine fs_callS (idx := 190) (mj := 148) (na := 1) (mx := 1) (p := 4) (args := [.int x1]) (rest := []) (al2 := [some (.int x1)]) (by decide +kernel) rfl (by decide +kernel) rfl rfl rfl rfl rfl rfl rfl (by omega) (fun d' hd' => fe_148 (by omega) w11) rfl ?_
  by_cases c13 : (fx_b q12.1) = 0
  · rw [if_pos c13] at h
    refine fs_if_eq_t (off := 31) (t := 35) (by decide +kernel) (by decide +kernel) c13 ?_
    refine fs_iconst (n := -1) (p := 36) (by decide +kernel) rfl kc_m1 ?_
    have h := Option.some.inj h
    subst h
    exact fs_iret (by decide +kernel) rt_227
  · rw [if_neg c13] at h
    refine fs_if_eq_f (off := 31) (t := 35) (p := 7) (by decide +kernel) (by decide +kernel) rfl c13 ?_
    refine fs_iload_n (k := 2) (p := 8) (by decide +kernel) rfl rfl ?_
    refine fs_i2l (p := 9) (by decide +kernel) rfl ?_
    refine fs_lconst (n := 0) (p := 10) (by decide +kernel) rfl kl_0 ?_
    refine fs_ldc2 (idx := 327) (p := 13) (x := 3) (by decide +kernel) rfl (by decide +kernel) ?_
    obtain ⟨q16, w15, h⟩ := fx_bd h
    refine fs_callS (idx := 128) (mj := 130) (na := 3) (mx := 6) (p := 16) (args := [.long (x2).toInt64, .long (0 : Int64), .long (3 : Int64)]) (rest := []) (al2 := [some (.long (x2).toInt64), none, some (.long (0 : Int64)), none, some (.long (3 : Int64)), none]) (by decide +kernel) rfl (by decide +kernel) rfl rfl rfl rfl rfl rfl rfl (by omega) (fun d' hd' => fe_130 (by omega) w15) rfl ?_
    by_cases c17 : (fx_b q16.1) = 0
    · rw [if_pos c17] at h
      refine fs_if_eq_t (off := 19) (t := 35) (by decide +kernel) (by decide +kernel) c17 ?_
      refine fs_iconst (n := -1) (p := 36) (by decide +kernel) rfl kc_m1 ?_
      have h := Option.some.inj h
      subst h
      exact fs_iret (by decide +kernel) rt_227
    · rw [if_neg c17] at h
      refine fs_if_eq_f (off := 19) (t := 35) (p := 19) (by decide +kernel) (by decide +kernel) rfl c17 ?_
      refine fs_aload_n (k := 0) (p := 20) (by decide +kernel) rfl rfl ?_
      refine fs_gfr (idx := 9) (ci := 10) (j := 0) (p := 23) (by decide +kernel) rfl (by decide +kernel) fo_215 (fr_a215_0) ?_
      refine fs_bipush (n := 32) (p := 25) (by decide +kernel) rfl kb_32 ?_
      refine fs_iconst (n := 4) (p := 26) (by decide +kernel) rfl kc_4 ?_
      refine fs_iload_n (k := 1) (p := 27) (by decide +kernel) rfl rfl ?_
      refine fs_imul (p := 28) (by decide +kernel) rfl ?_
      refine fs_iadd (p := 29) (by decide +kernel) rfl ?_
      refine fs_iload_n (k := 2) (p := 30) (by decide +kernel) rfl rfl ?_
      refine fs_iadd (p := 31) (by decide +kernel) rfl ?_
      obtain ⟨v18, w19, h⟩ := fx_bd h
      refine fs_iaload (p := 32) (by decide +kernel) rfl w19 ?_
      refine fs_goto (off := 4) (p := 36) (by decide +kernel) (by decide +kernel) ?_
      have h := Option.some.inj h
      subst h
      exact fs_iret (by decide +kernel) rt_227

/-! ZoneSharesModel.districtOf(I)I -/
theorem mx_228 : iv_mx 228 = 2 := by decide +kernel
theorem rt_228 : iv_rt 228 = some .int := by decide +kernel
def fm_228 (x1 : Int32) (σ : fx_S) : Option (Int32 × fx_S) :=
  (fm_130 (x1).toInt64 (0 : Int64) (7 : Int64) σ).bind fun q10 =>
  if (fx_b q10.1) = 0 then (
    some ((-1 : Int32), q10.2)) else (
    (fx_ld q10.2 216 ((44 : Int32) + x1)).bind fun v12 =>
    some (v12, q10.2))
theorem fe_228 {d : Nat} (hd : 1 ≤ d) {x1 : Int32} {σ : fx_S} {q : Int32 × fx_S} (h : fm_228 x1 σ = some q) : fx_E none 228 d 0 [some (.ref 215), some (.int x1)] [] σ (some (.int q.1)) q.2 := by
  unfold fm_228 at h
  refine fs_iload_n (k := 1) (p := 1) (by decide +kernel) rfl rfl ?_
  refine fs_i2l (p := 2) (by decide +kernel) rfl ?_
  refine fs_lconst (n := 0) (p := 3) (by decide +kernel) rfl kl_0 ?_
  refine fs_ldc2 (idx := 308) (p := 6) (x := 7) (by decide +kernel) rfl (by decide +kernel) ?_
  obtain ⟨q10, w9, h⟩ := fx_bd h
  refine fs_callS (idx := 128) (mj := 130) (na := 3) (mx := 6) (p := 9) (args := [.long (x1).toInt64, .long (0 : Int64), .long (7 : Int64)]) (rest := []) (al2 := [some (.long (x1).toInt64), none, some (.long (0 : Int64)), none, some (.long (7 : Int64)), none]) (by decide +kernel) rfl (by decide +kernel) rfl rfl rfl rfl rfl rfl rfl (by omega) (fun d' hd' => fe_130 (by omega) w9) rfl ?_
  by_cases c11 : (fx_b q10.1) = 0
  · rw [if_pos c11] at h
    refine fs_if_eq_t (off := 15) (t := 24) (by decide +kernel) (by decide +kernel) c11 ?_
    refine fs_iconst (n := -1) (p := 25) (by decide +kernel) rfl kc_m1 ?_
    have h := Option.some.inj h
    subst h
    exact fs_iret (by decide +kernel) rt_228
  · rw [if_neg c11] at h
    refine fs_if_eq_f (off := 15) (t := 24) (p := 12) (by decide +kernel) (by decide +kernel) rfl c11 ?_
    refine fs_aload_n (k := 0) (p := 13) (by decide +kernel) rfl rfl ?_
    refine fs_gfr (idx := 9) (ci := 10) (j := 0) (p := 16) (by decide +kernel) rfl (by decide +kernel) fo_215 (fr_a215_0) ?_
    refine fs_bipush (n := 44) (p := 18) (by decide +kernel) rfl kb_44 ?_
    refine fs_iload_n (k := 1) (p := 19) (by decide +kernel) rfl rfl ?_
    refine fs_iadd (p := 20) (by decide +kernel) rfl ?_
    obtain ⟨v12, w13, h⟩ := fx_bd h
    refine fs_iaload (p := 21) (by decide +kernel) rfl w13 ?_
    refine fs_goto (off := 4) (p := 25) (by decide +kernel) (by decide +kernel) ?_
    have h := Option.some.inj h
    subst h
    exact fs_iret (by decide +kernel) rt_228

/-! java/lang/Integer.numberOfTrailingZeros(I)I -/
theorem mx_229 : iv_mx 229 = 2 := by decide +kernel
theorem rt_229 : iv_rt 229 = some .int := by decide +kernel
def fm_229_74 (x0 : Int32) (x1 : Int32) (σ : fx_S) : Option (Int32 × fx_S) :=
  some ((x1 + ((x0).toUInt32 >>> (((1 : Int32)).toUInt32 &&& Int32.toUInt32 31)).toInt32), σ)
theorem fe_229_74 {d : Nat} (hd : 0 ≤ d) (x0 : Int32) (x1 : Int32) (σ : fx_S) (q : Int32 × fx_S) (h : fm_229_74  x0 x1 σ = some q) : fx_E none 229 d 74 [some (.int x0), some (.int x1)] [] σ (some (.int q.1)) q.2 := by
  unfold fm_229_74 at h
  refine fs_iload_n (k := 1) (p := 75) (by decide +kernel) rfl rfl ?_
  refine fs_iload_n (k := 0) (p := 76) (by decide +kernel) rfl rfl ?_
  refine fs_iconst (n := 1) (p := 77) (by decide +kernel) rfl kc_1 ?_
  refine fs_iushr (p := 78) (by decide +kernel) rfl ?_
  refine fs_iadd (p := 79) (by decide +kernel) rfl ?_
  have h := Option.some.inj h
  subst h
  exact fs_iret (by decide +kernel) rt_229
def fm_229_62 (x0 : Int32) (x1 : Int32) (σ : fx_S) : Option (Int32 × fx_S) :=
  if x0 ≤ (4 : Int32) then (
    fm_229_74 x0 x1 σ) else (
    fm_229_74 (((x0).toUInt32 >>> (((2 : Int32)).toUInt32 &&& Int32.toUInt32 31)).toInt32) (x1 + (2 : Int32)) σ)
theorem fe_229_62 {d : Nat} (hd : 0 ≤ d) (x0 : Int32) (x1 : Int32) (σ : fx_S) (q : Int32 × fx_S) (h : fm_229_62  x0 x1 σ = some q) : fx_E none 229 d 62 [some (.int x0), some (.int x1)] [] σ (some (.int q.1)) q.2 := by
  unfold fm_229_62 at h
  refine fs_iload_n (k := 0) (p := 63) (by decide +kernel) rfl rfl ?_
  refine fs_iconst (n := 4) (p := 64) (by decide +kernel) rfl kc_4 ?_
  by_cases c2 : x0 ≤ (4 : Int32)
  · rw [if_pos c2] at h
    refine fs_icmp_le_t (off := 10) (t := 74) (by decide +kernel) (by decide +kernel) c2 ?_
    exact fe_229_74 hd _ _ _ _ h
  · rw [if_neg c2] at h
    refine fs_icmp_le_f (off := 10) (t := 74) (p := 67) (by decide +kernel) (by decide +kernel) rfl c2 ?_
    refine fs_iinc (k := 1) (n := 2) (p := 70) (M := 2) (al' := [some (.int x0), some (.int (x1 + (2 : Int32)))]) (by decide +kernel) rfl kc_2 mx_229 rfl rfl rfl ?_
    refine fs_iload_n (k := 0) (p := 71) (by decide +kernel) rfl rfl ?_
    refine fs_iconst (n := 2) (p := 72) (by decide +kernel) rfl kc_2 ?_
    refine fs_iushr (p := 73) (by decide +kernel) rfl ?_
    refine fs_istore_n (k := 0) (p := 74) (M := 2) (al' := [some (.int ((x0).toUInt32 >>> (((2 : Int32)).toUInt32 &&& Int32.toUInt32 31)).toInt32), some (.int (x1 + (2 : Int32)))]) (by decide +kernel) rfl mx_229 rfl rfl ?_
    exact fe_229_74 hd _ _ _ _ h
def fm_229_49 (x0 : Int32) (x1 : Int32) (σ : fx_S) : Option (Int32 × fx_S) :=
  if x0 ≤ (16 : Int32) then (
    fm_229_62 x0 x1 σ) else (
    fm_229_62 (((x0).toUInt32 >>> (((4 : Int32)).toUInt32 &&& Int32.toUInt32 31)).toInt32) (x1 + (4 : Int32)) σ)
theorem fe_229_49 {d : Nat} (hd : 0 ≤ d) (x0 : Int32) (x1 : Int32) (σ : fx_S) (q : Int32 × fx_S) (h : fm_229_49  x0 x1 σ = some q) : fx_E none 229 d 49 [some (.int x0), some (.int x1)] [] σ (some (.int q.1)) q.2 := by
  unfold fm_229_49 at h
  refine fs_iload_n (k := 0) (p := 50) (by decide +kernel) rfl rfl ?_
  refine fs_bipush (n := 16) (p := 52) (by decide +kernel) rfl kb_16 ?_
  by_cases c2 : x0 ≤ (16 : Int32)
  · rw [if_pos c2] at h
    refine fs_icmp_le_t (off := 10) (t := 62) (by decide +kernel) (by decide +kernel) c2 ?_
    exact fe_229_62 hd _ _ _ _ h
  · rw [if_neg c2] at h
    refine fs_icmp_le_f (off := 10) (t := 62) (p := 55) (by decide +kernel) (by decide +kernel) rfl c2 ?_
    refine fs_iinc (k := 1) (n := 4) (p := 58) (M := 2) (al' := [some (.int x0), some (.int (x1 + (4 : Int32)))]) (by decide +kernel) rfl kc_4 mx_229 rfl rfl rfl ?_
    refine fs_iload_n (k := 0) (p := 59) (by decide +kernel) rfl rfl ?_
    refine fs_iconst (n := 4) (p := 60) (by decide +kernel) rfl kc_4 ?_
    refine fs_iushr (p := 61) (by decide +kernel) rfl ?_
    refine fs_istore_n (k := 0) (p := 62) (M := 2) (al' := [some (.int ((x0).toUInt32 >>> (((4 : Int32)).toUInt32 &&& Int32.toUInt32 31)).toInt32), some (.int (x1 + (4 : Int32)))]) (by decide +kernel) rfl mx_229 rfl rfl ?_
    exact fe_229_62 hd _ _ _ _ h
def fm_229_34 (x0 : Int32) (x1 : Int32) (σ : fx_S) : Option (Int32 × fx_S) :=
  if x0 ≤ (256 : Int32) then (
    fm_229_49 x0 x1 σ) else (
    fm_229_49 (((x0).toUInt32 >>> (((8 : Int32)).toUInt32 &&& Int32.toUInt32 31)).toInt32) (x1 + (8 : Int32)) σ)
theorem fe_229_34 {d : Nat} (hd : 0 ≤ d) (x0 : Int32) (x1 : Int32) (σ : fx_S) (q : Int32 × fx_S) (h : fm_229_34  x0 x1 σ = some q) : fx_E none 229 d 34 [some (.int x0), some (.int x1)] [] σ (some (.int q.1)) q.2 := by
  unfold fm_229_34 at h
  refine fs_iload_n (k := 0) (p := 35) (by decide +kernel) rfl rfl ?_
  refine fs_sipush (n := 256) (p := 38) (by decide +kernel) rfl ks_256 ?_
  by_cases c2 : x0 ≤ (256 : Int32)
  · rw [if_pos c2] at h
    refine fs_icmp_le_t (off := 11) (t := 49) (by decide +kernel) (by decide +kernel) c2 ?_
    exact fe_229_49 hd _ _ _ _ h
  · rw [if_neg c2] at h
    refine fs_icmp_le_f (off := 11) (t := 49) (p := 41) (by decide +kernel) (by decide +kernel) rfl c2 ?_
    refine fs_iinc (k := 1) (n := 8) (p := 44) (M := 2) (al' := [some (.int x0), some (.int (x1 + (8 : Int32)))]) (by decide +kernel) rfl kc_8 mx_229 rfl rfl rfl ?_
    refine fs_iload_n (k := 0) (p := 45) (by decide +kernel) rfl rfl ?_
    refine fs_bipush (n := 8) (p := 47) (by decide +kernel) rfl kb_8 ?_
    refine fs_iushr (p := 48) (by decide +kernel) rfl ?_
    refine fs_istore_n (k := 0) (p := 49) (M := 2) (al' := [some (.int ((x0).toUInt32 >>> (((8 : Int32)).toUInt32 &&& Int32.toUInt32 31)).toInt32), some (.int (x1 + (8 : Int32)))]) (by decide +kernel) rfl mx_229 rfl rfl ?_
    exact fe_229_49 hd _ _ _ _ h
def fm_229 (x0 : Int32) (σ : fx_S) : Option (Int32 × fx_S) :=
  if 0 < ((x0 ^^^ (-1 : Int32)) &&& (x0 - (1 : Int32))) then (
    if ((x0 ^^^ (-1 : Int32)) &&& (x0 - (1 : Int32))) ≤ (65536 : Int32) then (
      fm_229_34 ((x0 ^^^ (-1 : Int32)) &&& (x0 - (1 : Int32))) (1 : Int32) σ) else (
      fm_229_34 (((((x0 ^^^ (-1 : Int32)) &&& (x0 - (1 : Int32)))).toUInt32 >>> (((16 : Int32)).toUInt32 &&& Int32.toUInt32 31)).toInt32) ((1 : Int32) + (16 : Int32)) σ)) else (
    some ((((x0 ^^^ (-1 : Int32)) &&& (x0 - (1 : Int32))) &&& (32 : Int32)), σ))
theorem fe_229 {d : Nat} (hd : 0 ≤ d) {x0 : Int32} {σ : fx_S} {q : Int32 × fx_S} (h : fm_229 x0 σ = some q) : fx_E none 229 d 0 [some (.int x0), none] [] σ (some (.int q.1)) q.2 := by
  unfold fm_229 at h
  refine fs_iload_n (k := 0) (p := 1) (by decide +kernel) rfl rfl ?_
  refine fs_iconst (n := -1) (p := 2) (by decide +kernel) rfl kc_m1 ?_
  refine fs_ixor (p := 3) (by decide +kernel) rfl ?_
  refine fs_iload_n (k := 0) (p := 4) (by decide +kernel) rfl rfl ?_
  refine fs_iconst (n := 1) (p := 5) (by decide +kernel) rfl kc_1 ?_
  refine fs_isub (p := 6) (by decide +kernel) rfl ?_
  refine fs_iand (p := 7) (by decide +kernel) rfl ?_
  refine fs_istore_n (k := 0) (p := 8) (M := 2) (al' := [some (.int ((x0 ^^^ (-1 : Int32)) &&& (x0 - (1 : Int32)))), none]) (by decide +kernel) rfl mx_229 rfl rfl ?_
  refine fs_iload_n (k := 0) (p := 9) (by decide +kernel) rfl rfl ?_
  by_cases c11 : 0 < ((x0 ^^^ (-1 : Int32)) &&& (x0 - (1 : Int32)))
  · rw [if_pos c11] at h
    refine fs_if_gt_t (off := 8) (t := 17) (by decide +kernel) (by decide +kernel) c11 ?_
    refine fs_iconst (n := 1) (p := 18) (by decide +kernel) rfl kc_1 ?_
    refine fs_istore_n (k := 1) (p := 19) (M := 2) (al' := [some (.int ((x0 ^^^ (-1 : Int32)) &&& (x0 - (1 : Int32)))), some (.int (1 : Int32))]) (by decide +kernel) rfl mx_229 rfl rfl ?_
    refine fs_iload_n (k := 0) (p := 20) (by decide +kernel) rfl rfl ?_
    refine fs_ldcw (idx := 264) (p := 23) (x := 65536) (by decide +kernel) rfl (by decide +kernel) ?_
    by_cases c12 : ((x0 ^^^ (-1 : Int32)) &&& (x0 - (1 : Int32))) ≤ (65536 : Int32)
    · rw [if_pos c12] at h
      refine fs_icmp_le_t (off := 11) (t := 34) (by decide +kernel) (by decide +kernel) c12 ?_
      exact fe_229_34 hd _ _ _ _ h
    · rw [if_neg c12] at h
      refine fs_icmp_le_f (off := 11) (t := 34) (p := 26) (by decide +kernel) (by decide +kernel) rfl c12 ?_
      refine fs_iinc (k := 1) (n := 16) (p := 29) (M := 2) (al' := [some (.int ((x0 ^^^ (-1 : Int32)) &&& (x0 - (1 : Int32)))), some (.int ((1 : Int32) + (16 : Int32)))]) (by decide +kernel) rfl kc_16 mx_229 rfl rfl rfl ?_
      refine fs_iload_n (k := 0) (p := 30) (by decide +kernel) rfl rfl ?_
      refine fs_bipush (n := 16) (p := 32) (by decide +kernel) rfl kb_16 ?_
      refine fs_iushr (p := 33) (by decide +kernel) rfl ?_
      refine fs_istore_n (k := 0) (p := 34) (M := 2) (al' := [some (.int ((((x0 ^^^ (-1 : Int32)) &&& (x0 - (1 : Int32)))).toUInt32 >>> (((16 : Int32)).toUInt32 &&& Int32.toUInt32 31)).toInt32), some (.int ((1 : Int32) + (16 : Int32)))]) (by decide +kernel) rfl mx_229 rfl rfl ?_
      exact fe_229_34 hd _ _ _ _ h
  · rw [if_neg c11] at h
    refine fs_if_gt_f (off := 8) (t := 17) (p := 12) (by decide +kernel) (by decide +kernel) rfl c11 ?_
    refine fs_iload_n (k := 0) (p := 13) (by decide +kernel) rfl rfl ?_
    refine fs_bipush (n := 32) (p := 15) (by decide +kernel) rfl kb_32 ?_
    refine fs_iand (p := 16) (by decide +kernel) rfl ?_
    have h := Option.some.inj h
    subst h
    exact fs_iret (by decide +kernel) rt_229

/-! java/lang/Integer.bitCount(I)I -/
theorem mx_230 : iv_mx 230 = 1 := by decide +kernel
theorem rt_230 : iv_rt 230 = some .int := by decide +kernel
def fm_230 (x0 : Int32) (σ : fx_S) : Option (Int32 × fx_S) :=
  some (((((((((x0 - (((x0).toUInt32 >>> (((1 : Int32)).toUInt32 &&& Int32.toUInt32 31)).toInt32 &&& (1431655765 : Int32))) &&& (858993459 : Int32)) + ((((x0 - (((x0).toUInt32 >>> (((1 : Int32)).toUInt32 &&& Int32.toUInt32 31)).toInt32 &&& (1431655765 : Int32)))).toUInt32 >>> (((2 : Int32)).toUInt32 &&& Int32.toUInt32 31)).toInt32 &&& (858993459 : Int32))) + (((((x0 - (((x0).toUInt32 >>> (((1 : Int32)).toUInt32 &&& Int32.toUInt32 31)).toInt32 &&& (1431655765 : Int32))) &&& (858993459 : Int32)) + ((((x0 - (((x0).toUInt32 >>> (((1 : Int32)).toUInt32 &&& Int32.toUInt32 31)).toInt32 &&& (1431655765 : Int32)))).toUInt32 >>> (((2 : Int32)).toUInt32 &&& Int32.toUInt32 31)).toInt32 &&& (858993459 : Int32)))).toUInt32 >>> (((4 : Int32)).toUInt32 &&& Int32.toUInt32 31)).toInt32) &&& (252645135 : Int32)) + (((((((x0 - (((x0).toUInt32 >>> (((1 : Int32)).toUInt32 &&& Int32.toUInt32 31)).toInt32 &&& (1431655765 : Int32))) &&& (858993459 : Int32)) + ((((x0 - (((x0).toUInt32 >>> (((1 : Int32)).toUInt32 &&& Int32.toUInt32 31)).toInt32 &&& (1431655765 : Int32)))).toUInt32 >>> (((2 : Int32)).toUInt32 &&& Int32.toUInt32 31)).toInt32 &&& (858993459 : Int32))) + (((((x0 - (((x0).toUInt32 >>> (((1 : Int32)).toUInt32 &&& Int32.toUInt32 31)).toInt32 &&& (1431655765 : Int32))) &&& (858993459 : Int32)) + ((((x0 - (((x0).toUInt32 >>> (((1 : Int32)).toUInt32 &&& Int32.toUInt32 31)).toInt32 &&& (1431655765 : Int32)))).toUInt32 >>> (((2 : Int32)).toUInt32 &&& Int32.toUInt32 31)).toInt32 &&& (858993459 : Int32)))).toUInt32 >>> (((4 : Int32)).toUInt32 &&& Int32.toUInt32 31)).toInt32) &&& (252645135 : Int32))).toUInt32 >>> (((8 : Int32)).toUInt32 &&& Int32.toUInt32 31)).toInt32) + ((((((((x0 - (((x0).toUInt32 >>> (((1 : Int32)).toUInt32 &&& Int32.toUInt32 31)).toInt32 &&& (1431655765 : Int32))) &&& (858993459 : Int32)) + ((((x0 - (((x0).toUInt32 >>> (((1 : Int32)).toUInt32 &&& Int32.toUInt32 31)).toInt32 &&& (1431655765 : Int32)))).toUInt32 >>> (((2 : Int32)).toUInt32 &&& Int32.toUInt32 31)).toInt32 &&& (858993459 : Int32))) + (((((x0 - (((x0).toUInt32 >>> (((1 : Int32)).toUInt32 &&& Int32.toUInt32 31)).toInt32 &&& (1431655765 : Int32))) &&& (858993459 : Int32)) + ((((x0 - (((x0).toUInt32 >>> (((1 : Int32)).toUInt32 &&& Int32.toUInt32 31)).toInt32 &&& (1431655765 : Int32)))).toUInt32 >>> (((2 : Int32)).toUInt32 &&& Int32.toUInt32 31)).toInt32 &&& (858993459 : Int32)))).toUInt32 >>> (((4 : Int32)).toUInt32 &&& Int32.toUInt32 31)).toInt32) &&& (252645135 : Int32)) + (((((((x0 - (((x0).toUInt32 >>> (((1 : Int32)).toUInt32 &&& Int32.toUInt32 31)).toInt32 &&& (1431655765 : Int32))) &&& (858993459 : Int32)) + ((((x0 - (((x0).toUInt32 >>> (((1 : Int32)).toUInt32 &&& Int32.toUInt32 31)).toInt32 &&& (1431655765 : Int32)))).toUInt32 >>> (((2 : Int32)).toUInt32 &&& Int32.toUInt32 31)).toInt32 &&& (858993459 : Int32))) + (((((x0 - (((x0).toUInt32 >>> (((1 : Int32)).toUInt32 &&& Int32.toUInt32 31)).toInt32 &&& (1431655765 : Int32))) &&& (858993459 : Int32)) + ((((x0 - (((x0).toUInt32 >>> (((1 : Int32)).toUInt32 &&& Int32.toUInt32 31)).toInt32 &&& (1431655765 : Int32)))).toUInt32 >>> (((2 : Int32)).toUInt32 &&& Int32.toUInt32 31)).toInt32 &&& (858993459 : Int32)))).toUInt32 >>> (((4 : Int32)).toUInt32 &&& Int32.toUInt32 31)).toInt32) &&& (252645135 : Int32))).toUInt32 >>> (((8 : Int32)).toUInt32 &&& Int32.toUInt32 31)).toInt32)).toUInt32 >>> (((16 : Int32)).toUInt32 &&& Int32.toUInt32 31)).toInt32) &&& (63 : Int32)), σ)
theorem fe_230 {d : Nat} (hd : 0 ≤ d) {x0 : Int32} {σ : fx_S} {q : Int32 × fx_S} (h : fm_230 x0 σ = some q) : fx_E none 230 d 0 [some (.int x0)] [] σ (some (.int q.1)) q.2 := by
  unfold fm_230 at h
  refine fs_iload_n (k := 0) (p := 1) (by decide +kernel) rfl rfl ?_
  refine fs_iload_n (k := 0) (p := 2) (by decide +kernel) rfl rfl ?_
  refine fs_iconst (n := 1) (p := 3) (by decide +kernel) rfl kc_1 ?_
  refine fs_iushr (p := 4) (by decide +kernel) rfl ?_
  refine fs_ldcw (idx := 265) (p := 7) (x := 1431655765) (by decide +kernel) rfl (by decide +kernel) ?_
  refine fs_iand (p := 8) (by decide +kernel) rfl ?_
  refine fs_isub (p := 9) (by decide +kernel) rfl ?_
  refine fs_istore_n (k := 0) (p := 10) (M := 1) (al' := [some (.int (x0 - (((x0).toUInt32 >>> (((1 : Int32)).toUInt32 &&& Int32.toUInt32 31)).toInt32 &&& (1431655765 : Int32))))]) (by decide +kernel) rfl mx_230 rfl rfl ?_
  refine fs_iload_n (k := 0) (p := 11) (by decide +kernel) rfl rfl ?_
  refine fs_ldcw (idx := 266) (p := 14) (x := 858993459) (by decide +kernel) rfl (by decide +kernel) ?_
  refine fs_iand (p := 15) (by decide +kernel) rfl ?_
  refine fs_iload_n (k := 0) (p := 16) (by decide +kernel) rfl rfl ?_
  refine fs_iconst (n := 2) (p := 17) (by decide +kernel) rfl kc_2 ?_
  refine fs_iushr (p := 18) (by decide +kernel) rfl ?_
  refine fs_ldcw (idx := 266) (p := 21) (x := 858993459) (by decide +kernel) rfl (by decide +kernel) ?_
  refine fs_iand (p := 22) (by decide +kernel) rfl ?_
  refine fs_iadd (p := 23) (by decide +kernel) rfl ?_
  refine fs_istore_n (k := 0) (p := 24) (M := 1) (al' := [some (.int (((x0 - (((x0).toUInt32 >>> (((1 : Int32)).toUInt32 &&& Int32.toUInt32 31)).toInt32 &&& (1431655765 : Int32))) &&& (858993459 : Int32)) + ((((x0 - (((x0).toUInt32 >>> (((1 : Int32)).toUInt32 &&& Int32.toUInt32 31)).toInt32 &&& (1431655765 : Int32)))).toUInt32 >>> (((2 : Int32)).toUInt32 &&& Int32.toUInt32 31)).toInt32 &&& (858993459 : Int32))))]) (by decide +kernel) rfl mx_230 rfl rfl ?_
  refine fs_iload_n (k := 0) (p := 25) (by decide +kernel) rfl rfl ?_
  refine fs_iload_n (k := 0) (p := 26) (by decide +kernel) rfl rfl ?_
  refine fs_iconst (n := 4) (p := 27) (by decide +kernel) rfl kc_4 ?_
  refine fs_iushr (p := 28) (by decide +kernel) rfl ?_
  refine fs_iadd (p := 29) (by decide +kernel) rfl ?_
  refine fs_ldcw (idx := 267) (p := 32) (x := 252645135) (by decide +kernel) rfl (by decide +kernel) ?_
  refine fs_iand (p := 33) (by decide +kernel) rfl ?_
  refine fs_istore_n (k := 0) (p := 34) (M := 1) (al' := [some (.int (((((x0 - (((x0).toUInt32 >>> (((1 : Int32)).toUInt32 &&& Int32.toUInt32 31)).toInt32 &&& (1431655765 : Int32))) &&& (858993459 : Int32)) + ((((x0 - (((x0).toUInt32 >>> (((1 : Int32)).toUInt32 &&& Int32.toUInt32 31)).toInt32 &&& (1431655765 : Int32)))).toUInt32 >>> (((2 : Int32)).toUInt32 &&& Int32.toUInt32 31)).toInt32 &&& (858993459 : Int32))) + (((((x0 - (((x0).toUInt32 >>> (((1 : Int32)).toUInt32 &&& Int32.toUInt32 31)).toInt32 &&& (1431655765 : Int32))) &&& (858993459 : Int32)) + ((((x0 - (((x0).toUInt32 >>> (((1 : Int32)).toUInt32 &&& Int32.toUInt32 31)).toInt32 &&& (1431655765 : Int32)))).toUInt32 >>> (((2 : Int32)).toUInt32 &&& Int32.toUInt32 31)).toInt32 &&& (858993459 : Int32)))).toUInt32 >>> (((4 : Int32)).toUInt32 &&& Int32.toUInt32 31)).toInt32) &&& (252645135 : Int32)))]) (by decide +kernel) rfl mx_230 rfl rfl ?_
  refine fs_iload_n (k := 0) (p := 35) (by decide +kernel) rfl rfl ?_
  refine fs_iload_n (k := 0) (p := 36) (by decide +kernel) rfl rfl ?_
  refine fs_bipush (n := 8) (p := 38) (by decide +kernel) rfl kb_8 ?_
  refine fs_iushr (p := 39) (by decide +kernel) rfl ?_
  refine fs_iadd (p := 40) (by decide +kernel) rfl ?_
  refine fs_istore_n (k := 0) (p := 41) (M := 1) (al' := [some (.int ((((((x0 - (((x0).toUInt32 >>> (((1 : Int32)).toUInt32 &&& Int32.toUInt32 31)).toInt32 &&& (1431655765 : Int32))) &&& (858993459 : Int32)) + ((((x0 - (((x0).toUInt32 >>> (((1 : Int32)).toUInt32 &&& Int32.toUInt32 31)).toInt32 &&& (1431655765 : Int32)))).toUInt32 >>> (((2 : Int32)).toUInt32 &&& Int32.toUInt32 31)).toInt32 &&& (858993459 : Int32))) + (((((x0 - (((x0).toUInt32 >>> (((1 : Int32)).toUInt32 &&& Int32.toUInt32 31)).toInt32 &&& (1431655765 : Int32))) &&& (858993459 : Int32)) + ((((x0 - (((x0).toUInt32 >>> (((1 : Int32)).toUInt32 &&& Int32.toUInt32 31)).toInt32 &&& (1431655765 : Int32)))).toUInt32 >>> (((2 : Int32)).toUInt32 &&& Int32.toUInt32 31)).toInt32 &&& (858993459 : Int32)))).toUInt32 >>> (((4 : Int32)).toUInt32 &&& Int32.toUInt32 31)).toInt32) &&& (252645135 : Int32)) + (((((((x0 - (((x0).toUInt32 >>> (((1 : Int32)).toUInt32 &&& Int32.toUInt32 31)).toInt32 &&& (1431655765 : Int32))) &&& (858993459 : Int32)) + ((((x0 - (((x0).toUInt32 >>> (((1 : Int32)).toUInt32 &&& Int32.toUInt32 31)).toInt32 &&& (1431655765 : Int32)))).toUInt32 >>> (((2 : Int32)).toUInt32 &&& Int32.toUInt32 31)).toInt32 &&& (858993459 : Int32))) + (((((x0 - (((x0).toUInt32 >>> (((1 : Int32)).toUInt32 &&& Int32.toUInt32 31)).toInt32 &&& (1431655765 : Int32))) &&& (858993459 : Int32)) + ((((x0 - (((x0).toUInt32 >>> (((1 : Int32)).toUInt32 &&& Int32.toUInt32 31)).toInt32 &&& (1431655765 : Int32)))).toUInt32 >>> (((2 : Int32)).toUInt32 &&& Int32.toUInt32 31)).toInt32 &&& (858993459 : Int32)))).toUInt32 >>> (((4 : Int32)).toUInt32 &&& Int32.toUInt32 31)).toInt32) &&& (252645135 : Int32))).toUInt32 >>> (((8 : Int32)).toUInt32 &&& Int32.toUInt32 31)).toInt32))]) (by decide +kernel) rfl mx_230 rfl rfl ?_
  refine fs_iload_n (k := 0) (p := 42) (by decide +kernel) rfl rfl ?_
  refine fs_iload_n (k := 0) (p := 43) (by decide +kernel) rfl rfl ?_
  refine fs_bipush (n := 16) (p := 45) (by decide +kernel) rfl kb_16 ?_
  refine fs_iushr (p := 46) (by decide +kernel) rfl ?_
  refine fs_iadd (p := 47) (by decide +kernel) rfl ?_
  refine fs_istore_n (k := 0) (p := 48) (M := 1) (al' := [some (.int (((((((x0 - (((x0).toUInt32 >>> (((1 : Int32)).toUInt32 &&& Int32.toUInt32 31)).toInt32 &&& (1431655765 : Int32))) &&& (858993459 : Int32)) + ((((x0 - (((x0).toUInt32 >>> (((1 : Int32)).toUInt32 &&& Int32.toUInt32 31)).toInt32 &&& (1431655765 : Int32)))).toUInt32 >>> (((2 : Int32)).toUInt32 &&& Int32.toUInt32 31)).toInt32 &&& (858993459 : Int32))) + (((((x0 - (((x0).toUInt32 >>> (((1 : Int32)).toUInt32 &&& Int32.toUInt32 31)).toInt32 &&& (1431655765 : Int32))) &&& (858993459 : Int32)) + ((((x0 - (((x0).toUInt32 >>> (((1 : Int32)).toUInt32 &&& Int32.toUInt32 31)).toInt32 &&& (1431655765 : Int32)))).toUInt32 >>> (((2 : Int32)).toUInt32 &&& Int32.toUInt32 31)).toInt32 &&& (858993459 : Int32)))).toUInt32 >>> (((4 : Int32)).toUInt32 &&& Int32.toUInt32 31)).toInt32) &&& (252645135 : Int32)) + (((((((x0 - (((x0).toUInt32 >>> (((1 : Int32)).toUInt32 &&& Int32.toUInt32 31)).toInt32 &&& (1431655765 : Int32))) &&& (858993459 : Int32)) + ((((x0 - (((x0).toUInt32 >>> (((1 : Int32)).toUInt32 &&& Int32.toUInt32 31)).toInt32 &&& (1431655765 : Int32)))).toUInt32 >>> (((2 : Int32)).toUInt32 &&& Int32.toUInt32 31)).toInt32 &&& (858993459 : Int32))) + (((((x0 - (((x0).toUInt32 >>> (((1 : Int32)).toUInt32 &&& Int32.toUInt32 31)).toInt32 &&& (1431655765 : Int32))) &&& (858993459 : Int32)) + ((((x0 - (((x0).toUInt32 >>> (((1 : Int32)).toUInt32 &&& Int32.toUInt32 31)).toInt32 &&& (1431655765 : Int32)))).toUInt32 >>> (((2 : Int32)).toUInt32 &&& Int32.toUInt32 31)).toInt32 &&& (858993459 : Int32)))).toUInt32 >>> (((4 : Int32)).toUInt32 &&& Int32.toUInt32 31)).toInt32) &&& (252645135 : Int32))).toUInt32 >>> (((8 : Int32)).toUInt32 &&& Int32.toUInt32 31)).toInt32) + ((((((((x0 - (((x0).toUInt32 >>> (((1 : Int32)).toUInt32 &&& Int32.toUInt32 31)).toInt32 &&& (1431655765 : Int32))) &&& (858993459 : Int32)) + ((((x0 - (((x0).toUInt32 >>> (((1 : Int32)).toUInt32 &&& Int32.toUInt32 31)).toInt32 &&& (1431655765 : Int32)))).toUInt32 >>> (((2 : Int32)).toUInt32 &&& Int32.toUInt32 31)).toInt32 &&& (858993459 : Int32))) + (((((x0 - (((x0).toUInt32 >>> (((1 : Int32)).toUInt32 &&& Int32.toUInt32 31)).toInt32 &&& (1431655765 : Int32))) &&& (858993459 : Int32)) + ((((x0 - (((x0).toUInt32 >>> (((1 : Int32)).toUInt32 &&& Int32.toUInt32 31)).toInt32 &&& (1431655765 : Int32)))).toUInt32 >>> (((2 : Int32)).toUInt32 &&& Int32.toUInt32 31)).toInt32 &&& (858993459 : Int32)))).toUInt32 >>> (((4 : Int32)).toUInt32 &&& Int32.toUInt32 31)).toInt32) &&& (252645135 : Int32)) + (((((((x0 - (((x0).toUInt32 >>> (((1 : Int32)).toUInt32 &&& Int32.toUInt32 31)).toInt32 &&& (1431655765 : Int32))) &&& (858993459 : Int32)) + ((((x0 - (((x0).toUInt32 >>> (((1 : Int32)).toUInt32 &&& Int32.toUInt32 31)).toInt32 &&& (1431655765 : Int32)))).toUInt32 >>> (((2 : Int32)).toUInt32 &&& Int32.toUInt32 31)).toInt32 &&& (858993459 : Int32))) + (((((x0 - (((x0).toUInt32 >>> (((1 : Int32)).toUInt32 &&& Int32.toUInt32 31)).toInt32 &&& (1431655765 : Int32))) &&& (858993459 : Int32)) + ((((x0 - (((x0).toUInt32 >>> (((1 : Int32)).toUInt32 &&& Int32.toUInt32 31)).toInt32 &&& (1431655765 : Int32)))).toUInt32 >>> (((2 : Int32)).toUInt32 &&& Int32.toUInt32 31)).toInt32 &&& (858993459 : Int32)))).toUInt32 >>> (((4 : Int32)).toUInt32 &&& Int32.toUInt32 31)).toInt32) &&& (252645135 : Int32))).toUInt32 >>> (((8 : Int32)).toUInt32 &&& Int32.toUInt32 31)).toInt32)).toUInt32 >>> (((16 : Int32)).toUInt32 &&& Int32.toUInt32 31)).toInt32))]) (by decide +kernel) rfl mx_230 rfl rfl ?_
  refine fs_iload_n (k := 0) (p := 49) (by decide +kernel) rfl rfl ?_
  refine fs_bipush (n := 63) (p := 51) (by decide +kernel) rfl kb_63 ?_
  refine fs_iand (p := 52) (by decide +kernel) rfl ?_
  have h := Option.some.inj h
  subst h
  exact fs_iret (by decide +kernel) rt_230
