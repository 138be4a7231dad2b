/-! ZoneSharesModel.mayBe(II)Z -/
theorem mx_167 : iv_mx 167 = 3 := by decide +kernel
theorem rt_167 : iv_rt 167 = some .boolean := by decide +kernel
def fm_167 (x1 : Int32) (x2 : Int32) (σ : fx_S) : Option (Bool × fx_S) :=
  (fm_160 x1 x2 σ).bind fun q9 =>
  (fx_ldl q9.2 225 q9.1).bind fun v10 =>
  if v10 ≤ (0 : Int64) then (
    some (false, q9.2)) else (
    some (true, q9.2))
theorem fe_167 {d : Nat} (hd : 1 ≤ d) {x1 : Int32} {x2 : Int32} {σ : fx_S} {q : Bool × fx_S} (h : fm_167 x1 x2 σ = some q) : fx_E none 167 d 0 [some (.ref 215), some (.int x1), some (.int x2)] [] σ (some (.int (fx_b q.1))) q.2 := by
  unfold fm_167 at h
  refine fs_aload_n (k := 0) (p := 1) (by decide +kernel) rfl rfl ?_
  refine fs_gfr (idx := 39) (ci := 10) (j := 16) (p := 4) (by decide +kernel) rfl (by decide +kernel) fo_215 (fr_a215_16) ?_
  refine fs_iload_n (k := 1) (p := 5) (by decide +kernel) rfl rfl ?_
  refine fs_iload_n (k := 2) (p := 6) (by decide +kernel) rfl rfl ?_
  obtain ⟨q9, w8, h⟩ := fx_bd h
  refine fs_callS (idx := 214) (mj := 160) (na := 2) (mx := 2) (p := 9) (args := [.int x1, .int x2]) (rest := [.ref 225]) (al2 := [some (.int x1), some (.int x2)]) (by decide +kernel) rfl (by decide +kernel) rfl rfl rfl rfl rfl rfl rfl (by omega) (fun d' hd' => fe_160 (by omega) w8) rfl ?_
  obtain ⟨v10, w11, h⟩ := fx_bd h
  refine fs_laload (p := 10) (by decide +kernel) rfl w11 ?_
  refine fs_lconst (n := 0) (p := 11) (by decide +kernel) rfl kl_0 ?_
  by_cases c14 : v10 ≤ (0 : Int64)
  · rw [if_pos c14] at h
    refine fs_lcmp_le_t (off := 7) (t := 19) (by decide +kernel) (by decide +kernel) (by decide +kernel) c14 ?_
    refine fs_iconst (n := 0) (p := 20) (by decide +kernel) rfl kc_0 ?_
    have h := Option.some.inj h
    subst h
    exact fs_zret (b := false) (by decide +kernel) rt_167
  · rw [if_neg c14] at h
    refine fs_lcmp_le_f (off := 7) (t := 19) (p := 15) (by decide +kernel) (by decide +kernel) (by decide +kernel) rfl c14 ?_
    refine fs_iconst (n := 1) (p := 16) (by decide +kernel) rfl kc_1 ?_
    refine fs_goto (off := 4) (p := 20) (by decide +kernel) (by decide +kernel) ?_
    have h := Option.some.inj h
    subst h
    exact fs_zret (b := true) (by decide +kernel) rt_167

/-! ZoneSharesModel.unknownOf(I)I -/
theorem mx_174 : iv_mx 174 = 4 := by decide +kernel
theorem rt_174 : iv_rt 174 = some .int := by decide +kernel
def fm_174_36 (k_10 : Int32 → Int32 → Int32 → fx_S → Option (Int32 × fx_S)) (x1 : Int32) (x3 : Int32) (s0 : Int32) (s1 : Int32) (σ : fx_S) : Option (Int32 × fx_S) :=
  k_10 x1 (s0 + s1) (x3 + (1 : Int32)) σ
theorem fe_174_36 {d : Nat} (hd : 2 ≤ d) {k_10 : Int32 → Int32 → Int32 → fx_S → Option (Int32 × fx_S)} (hk_10 : ∀ (x1 : Int32) (x2 : Int32) (x3 : Int32) (σ : fx_S) (q : Int32 × fx_S), k_10 x1 x2 x3 σ = some q → fx_E none 174 d 10 [some (.ref 215), some (.int x1), some (.int x2), some (.int x3)] [] σ (some (.int q.1)) q.2) (x1 : Int32) (x3 : Int32) (s0 : Int32) (s1 : Int32) (o2 : Option Value) (σ : fx_S) (q : Int32 × fx_S) (h : fm_174_36 k_10  x1 x3 s0 s1 σ = some q) : fx_E none 174 d 36 [some (.ref 215), some (.int x1), o2, some (.int x3)] [.int s1, .int s0] σ (some (.int q.1)) q.2 := by
  unfold fm_174_36 at h
  refine fs_iadd (p := 37) (by decide +kernel) rfl ?_
  refine fs_istore_n (k := 2) (p := 38) (M := 4) (al' := [some (.ref 215), some (.int x1), some (.int (s0 + s1)), some (.int x3)]) (by decide +kernel) rfl mx_174 rfl rfl ?_
  refine fs_iinc (k := 3) (n := 1) (p := 41) (M := 4) (al' := [some (.ref 215), some (.int x1), some (.int (s0 + s1)), some (.int (x3 + (1 : Int32)))]) (by decide +kernel) rfl kc_1 mx_174 rfl rfl rfl ?_
  refine fs_goto (off := -31) (p := 10) (by decide +kernel) (by decide +kernel) ?_
  exact hk_10 _ _ _ _ _ h
def fm_174_10 : Nat → Int32 → Int32 → Int32 → fx_S → Option (Int32 × fx_S)
  | 0, _, _, _, _ => none
  | n + 1, x1, x2, x3, σ =>
    if (8 : Int32) ≤ x3 then (
      some (x2, σ)) else (
      (fm_153 (0 : Int32) x3 σ).bind fun q4 =>
      if (fx_b q4.1) = 0 then (
        (fm_155 x1 x3 q4.2).bind fun q7 =>
        fm_174_36 (fm_174_10 n) x1 x3 x2 q7.1 q7.2) else (
        fm_174_36 (fm_174_10 n) x1 x3 x2 (0 : Int32) q4.2))
theorem fe_174_10 {d : Nat} (hd : 2 ≤ d) : ∀ (n : Nat) (x1 : Int32) (x2 : Int32) (x3 : Int32) (σ : fx_S) (q : Int32 × fx_S), fm_174_10 n x1 x2 x3 σ = some q → fx_E none 174 d 10 [some (.ref 215), some (.int x1), some (.int x2), some (.int x3)] [] σ (some (.int q.1)) q.2 := by
  intro n
  induction n with
  | zero =>
    intro x1 x2 x3 σ q  h
    rw [fm_174_10] at h
    exact fx_no h
  | succ n ih =>
    intro x1 x2 x3 σ q  h
    rw [fm_174_10] at h
    refine fs_iload_n (k := 3) (p := 11) (by decide +kernel) rfl rfl ?_
    refine fs_bipush (n := 8) (p := 13) (by decide +kernel) rfl kb_8 ?_
    by_cases c2 : (8 : Int32) ≤ x3
    · rw [if_pos c2] at h
      refine fs_icmp_ge_t (off := 31) (t := 44) (by decide +kernel) (by decide +kernel) c2 ?_
      refine fs_iload_n (k := 2) (p := 45) (by decide +kernel) rfl rfl ?_
      have h := Option.some.inj h
      subst h
      exact fs_iret (by decide +kernel) rt_174
    · rw [if_neg c2] at h
      refine fs_icmp_ge_f (off := 31) (t := 44) (p := 16) (by decide +kernel) (by decide +kernel) rfl c2 ?_
      refine fs_iload_n (k := 2) (p := 17) (by decide +kernel) rfl rfl ?_
      refine fs_aload_n (k := 0) (p := 18) (by decide +kernel) rfl rfl ?_
      refine fs_iconst (n := 0) (p := 19) (by decide +kernel) rfl kc_0 ?_
      refine fs_iload_n (k := 3) (p := 20) (by decide +kernel) rfl rfl ?_
      obtain ⟨q4, w3, h⟩ := fx_bd h
      refine fs_callV (idx := 202) (mj := 153) (ci := 10) (na := 2) (mx := 4) (p := 23) (args := [.ref 215, .int (0 : Int32), .int x3]) (rest := [.int x2]) (al2 := [some (.ref 215), some (.int (0 : Int32)), some (.int x3), none]) (by decide +kernel) rfl (by decide +kernel) fo_215 rfl rfl rfl rfl rfl rfl rfl (by omega) (fun d' hd' => fe_153 (by omega) w3) rfl ?_
      by_cases c5 : (fx_b q4.1) = 0
      · rw [if_pos c5] at h
        refine fs_if_eq_t (off := 7) (t := 30) (by decide +kernel) (by decide +kernel) c5 ?_
        refine fs_aload_n (k := 0) (p := 31) (by decide +kernel) rfl rfl ?_
        refine fs_iload_n (k := 1) (p := 32) (by decide +kernel) rfl rfl ?_
        refine fs_iload_n (k := 3) (p := 33) (by decide +kernel) rfl rfl ?_
        obtain ⟨q7, w6, h⟩ := fx_bd h
        refine fs_callV (idx := 264) (mj := 155) (ci := 10) (na := 2) (mx := 3) (p := 36) (args := [.ref 215, .int x1, .int x3]) (rest := [.int x2]) (al2 := [some (.ref 215), some (.int x1), some (.int x3)]) (by decide +kernel) rfl (by decide +kernel) fo_215 rfl rfl rfl rfl rfl rfl rfl (by omega) (fun d' hd' => fe_155 (by omega) w6) rfl ?_
        exact fe_174_36 hd ih _ _ _ _ _ _ _ h
      · rw [if_neg c5] at h
        refine fs_if_eq_f (off := 7) (t := 30) (p := 26) (by decide +kernel) (by decide +kernel) rfl c5 ?_
        refine fs_iconst (n := 0) (p := 27) (by decide +kernel) rfl kc_0 ?_
        refine fs_goto (off := 9) (p := 36) (by decide +kernel) (by decide +kernel) ?_
        exact fe_174_36 hd ih _ _ _ _ _ _ _ h
def fm_174 (x1 : Int32) (σ : fx_S) : Option (Int32 × fx_S) :=
  (fm_155 x1 (8 : Int32) σ).bind fun q11 =>
  fm_174_10 100000 x1 q11.1 (0 : Int32) q11.2
theorem fe_174 {d : Nat} (hd : 2 ≤ d) {x1 : Int32} {σ : fx_S} {q : Int32 × fx_S} (h : fm_174 x1 σ = some q) : fx_E none 174 d 0 [some (.ref 215), some (.int x1), none, none] [] σ (some (.int q.1)) q.2 := by
  unfold fm_174 at h
  refine fs_aload_n (k := 0) (p := 1) (by decide +kernel) rfl rfl ?_
  refine fs_iload_n (k := 1) (p := 2) (by decide +kernel) rfl rfl ?_
  refine fs_bipush (n := 8) (p := 4) (by decide +kernel) rfl kb_8 ?_
  obtain ⟨q11, w10, h⟩ := fx_bd h
  refine fs_callV (idx := 264) (mj := 155) (ci := 10) (na := 2) (mx := 3) (p := 7) (args := [.ref 215, .int x1, .int (8 : Int32)]) (rest := []) (al2 := [some (.ref 215), some (.int x1), some (.int (8 : Int32))]) (by decide +kernel) rfl (by decide +kernel) fo_215 rfl rfl rfl rfl rfl rfl rfl (by omega) (fun d' hd' => fe_155 (by omega) w10) rfl ?_
  refine fs_istore_n (k := 2) (p := 8) (M := 4) (al' := [some (.ref 215), some (.int x1), some (.int q11.1), none]) (by decide +kernel) rfl mx_174 rfl rfl ?_
  refine fs_iconst (n := 0) (p := 9) (by decide +kernel) rfl kc_0 ?_
  refine fs_istore_n (k := 3) (p := 10) (M := 4) (al' := [some (.ref 215), some (.int x1), some (.int q11.1), some (.int (0 : Int32))]) (by decide +kernel) rfl mx_174 rfl rfl ?_
  exact fe_174_10 hd 100000 _ _ _ _ _ h

/-! ZoneSharesModel.isShared()Z -/
theorem mx_175 : iv_mx 175 = 1 := by decide +kernel
theorem rt_175 : iv_rt 175 = some .boolean := by decide +kernel
def fm_175 (σ : fx_S) : Option (Bool × fx_S) :=
  (fx_ld σ 216 (4 : Int32)).bind fun v9 =>
  if ¬ v9 = (1 : Int32) then (
    some (false, σ)) else (
    (fm_154 (0 : Int32) (8 : Int32) σ).bind fun q14 =>
    if q14.1 ≤ 0 then (
      some (false, q14.2)) else (
      some (true, q14.2)))
theorem fe_175 {d : Nat} (hd : 3 ≤ d) {σ : fx_S} {q : Bool × fx_S} (h : fm_175 σ = some q) : fx_E none 175 d 0 [some (.ref 215)] [] σ (some (.int (fx_b q.1))) q.2 := by
  unfold fm_175 at h
  refine fs_aload_n (k := 0) (p := 1) (by decide +kernel) rfl rfl ?_
  refine fs_gfr (idx := 9) (ci := 10) (j := 0) (p := 4) (by decide +kernel) rfl (by decide +kernel) fo_215 (fr_a215_0) ?_
  refine fs_iconst (n := 4) (p := 5) (by decide +kernel) rfl kc_4 ?_
  obtain ⟨v9, w10, h⟩ := fx_bd h
  refine fs_iaload (p := 6) (by decide +kernel) rfl w10 ?_
  refine fs_iconst (n := 1) (p := 7) (by decide +kernel) rfl kc_1 ?_
  by_cases c12 : ¬ v9 = (1 : Int32)
  · rw [if_pos c12] at h
    refine fs_icmp_ne_t (off := 17) (t := 24) (by decide +kernel) (by decide +kernel) c12 ?_
    refine fs_iconst (n := 0) (p := 25) (by decide +kernel) rfl kc_0 ?_
    have h := Option.some.inj h
    subst h
    exact fs_zret (b := false) (by decide +kernel) rt_175
  · rw [if_neg c12] at h
    refine fs_icmp_ne_f (off := 17) (t := 24) (p := 10) (by decide +kernel) (by decide +kernel) rfl c12 ?_
    refine fs_aload_n (k := 0) (p := 11) (by decide +kernel) rfl rfl ?_
    refine fs_iconst (n := 0) (p := 12) (by decide +kernel) rfl kc_0 ?_
    refine fs_bipush (n := 8) (p := 14) (by decide +kernel) rfl kb_8 ?_
    obtain ⟨q14, w13, h⟩ := fx_bd h
    refine fs_callV (idx := 267) (mj := 154) (ci := 10) (na := 2) (mx := 5) (p := 17) (args := [.ref 215, .int (0 : Int32), .int (8 : Int32)]) (rest := []) (al2 := [some (.ref 215), some (.int (0 : Int32)), some (.int (8 : Int32)), none, none]) (by decide +kernel) rfl (by decide +kernel) fo_215 rfl rfl rfl rfl rfl rfl rfl (by omega) (fun d' hd' => fe_154 (by omega) w13) rfl ?_
    by_cases c16 : q14.1 ≤ 0
    · rw [if_pos c16] at h
      refine fs_if_le_t (off := 7) (t := 24) (by decide +kernel) (by decide +kernel) c16 ?_
      refine fs_iconst (n := 0) (p := 25) (by decide +kernel) rfl kc_0 ?_
      have h := Option.some.inj h
      subst h
      exact fs_zret (b := false) (by decide +kernel) rt_175
    · rw [if_neg c16] at h
      refine fs_if_le_f (off := 7) (t := 24) (p := 20) (by decide +kernel) (by decide +kernel) rfl c16 ?_
      refine fs_iconst (n := 1) (p := 21) (by decide +kernel) rfl kc_1 ?_
      refine fs_goto (off := 4) (p := 25) (by decide +kernel) (by decide +kernel) ?_
      have h := Option.some.inj h
      subst h
      exact fs_zret (b := true) (by decide +kernel) rt_175

/-! ZoneSharesModel.asideOf(I)I -/
theorem mx_176 : iv_mx 176 = 2 := by decide +kernel
theorem rt_176 : iv_rt 176 = some .int := by decide +kernel
def fm_176 (x1 : Int32) (σ : fx_S) : Option (Int32 × fx_S) :=
  (fm_175 σ).bind fun q7 =>
  if (fx_b q7.1) = 0 then (
    (fm_174 x1 q7.2).bind fun q10 =>
    some (q10.1, q10.2)) else (
    some ((0 : Int32), q7.2))
theorem fe_176 {d : Nat} (hd : 4 ≤ d) {x1 : Int32} {σ : fx_S} {q : Int32 × fx_S} (h : fm_176 x1 σ = some q) : fx_E none 176 d 0 [some (.ref 215), some (.int x1)] [] σ (some (.int q.1)) q.2 := by
  unfold fm_176 at h
  refine fs_aload_n (k := 0) (p := 1) (by decide +kernel) rfl rfl ?_
  obtain ⟨q7, w6, h⟩ := fx_bd h
  refine fs_callV (idx := 270) (mj := 175) (ci := 10) (na := 0) (mx := 1) (p := 4) (args := [.ref 215]) (rest := []) (al2 := [some (.ref 215)]) (by decide +kernel) rfl (by decide +kernel) fo_215 rfl rfl rfl rfl rfl rfl rfl (by omega) (fun d' hd' => fe_175 (by omega) w6) rfl ?_
  by_cases c8 : (fx_b q7.1) = 0
  · rw [if_pos c8] at h
    refine fs_if_eq_t (off := 7) (t := 11) (by decide +kernel) (by decide +kernel) c8 ?_
    refine fs_aload_n (k := 0) (p := 12) (by decide +kernel) rfl rfl ?_
    refine fs_iload_n (k := 1) (p := 13) (by decide +kernel) rfl rfl ?_
    obtain ⟨q10, w9, h⟩ := fx_bd h
    refine fs_callV (idx := 273) (mj := 174) (ci := 10) (na := 1) (mx := 4) (p := 16) (args := [.ref 215, .int x1]) (rest := []) (al2 := [some (.ref 215), some (.int x1), none, none]) (by decide +kernel) rfl (by decide +kernel) fo_215 rfl rfl rfl rfl rfl rfl rfl (by omega) (fun d' hd' => fe_174 (by omega) w9) rfl ?_
    have h := Option.some.inj h
    subst h
    exact fs_iret (by decide +kernel) rt_176
  · rw [if_neg c8] at h
    refine fs_if_eq_f (off := 7) (t := 11) (p := 7) (by decide +kernel) (by decide +kernel) rfl c8 ?_
    refine fs_iconst (n := 0) (p := 8) (by decide +kernel) rfl kc_0 ?_
    refine fs_goto (off := 8) (p := 16) (by decide +kernel) (by decide +kernel) ?_
    have h := Option.some.inj h
    subst h
    exact fs_iret (by decide +kernel) rt_176

/-! ZoneSharesModel.laysLiving(I)V -/
theorem mx_177 : iv_mx 177 = 3 := by decide +kernel
theorem rt_177 : iv_rt 177 = none := by decide +kernel
def fm_177_124 : Nat → Int32 → fx_S → Option (fx_S)
  | 0, _, _ => none
  | n + 1, x2, σ =>
    if (8 : Int32) ≤ x2 then (
      some σ) else (
      (fx_ld σ 236 x2).bind fun v3 =>
      (fx_ldl σ 224 x2).bind fun v6 =>
      (fx_st σ 236 x2 (v3 + (v6).toInt32)).bind fun t9 =>
      fm_177_124 n (x2 + (1 : Int32)) t9)
theorem fe_177_124 {d : Nat} (hd : 4 ≤ d) : ∀ (n : Nat) (x2 : Int32) (o1 : Option Value) (σ : fx_S) (q : fx_S), fm_177_124 n x2 σ = some q → fx_E none 177 d 124 [some (.ref 215), o1, some (.int x2)] [] σ none q := by
  intro n
  induction n with
  | zero =>
    intro x2 o1 σ q  h
    rw [fm_177_124] at h
    exact fx_no h
  | succ n ih =>
    intro x2 o1 σ q  h
    rw [fm_177_124] at h
    refine fs_iload_n (k := 2) (p := 125) (by decide +kernel) rfl rfl ?_
    refine fs_bipush (n := 8) (p := 127) (by decide +kernel) rfl kb_8 ?_
    by_cases c2 : (8 : Int32) ≤ x2
    · rw [if_pos c2] at h
      refine fs_icmp_ge_t (off := 25) (t := 152) (by decide +kernel) (by decide +kernel) c2 ?_
      have h := Option.some.inj h
      subst h
      exact fs_ret (by decide +kernel) rt_177
    · rw [if_neg c2] at h
      refine fs_icmp_ge_f (off := 25) (t := 152) (p := 130) (by decide +kernel) (by decide +kernel) rfl c2 ?_
      refine fs_aload_n (k := 0) (p := 131) (by decide +kernel) rfl rfl ?_
      refine fs_gfr (idx := 73) (ci := 10) (j := 31) (p := 134) (by decide +kernel) rfl (by decide +kernel) fo_215 (fr_a215_31) ?_
      refine fs_iload_n (k := 2) (p := 135) (by decide +kernel) rfl rfl ?_
      refine fs_dup2 (p := 136) (by decide +kernel) rfl rfl rfl ?_
      obtain ⟨v3, w4, h⟩ := fx_bd h
      refine fs_iaload (p := 137) (by decide +kernel) rfl w4 ?_
      refine fs_aload_n (k := 0) (p := 138) (by decide +kernel) rfl rfl ?_
      refine fs_gfr (idx := 36) (ci := 10) (j := 15) (p := 141) (by decide +kernel) rfl (by decide +kernel) fo_215 (fr_a215_15) ?_
      refine fs_iload_n (k := 2) (p := 142) (by decide +kernel) rfl rfl ?_
      obtain ⟨v6, w7, h⟩ := fx_bd h
      refine fs_laload (p := 143) (by decide +kernel) rfl w7 ?_
      refine fs_l2i (p := 144) (by decide +kernel) rfl ?_
      refine fs_iadd (p := 145) (by decide +kernel) rfl ?_
      obtain ⟨t9, w10, h⟩ := fx_bd h
      refine fs_iastore (p := 146) (by decide +kernel) rfl w10 ?_
      refine fs_iinc (k := 2) (n := 1) (p := 149) (M := 3) (al' := [some (.ref 215), (fx_kl o1), some (.int (x2 + (1 : Int32)))]) (by decide +kernel) rfl kc_1 mx_177 rfl rfl rfl ?_
      refine fs_goto (off := -25) (p := 124) (by decide +kernel) (by decide +kernel) ?_
      exact ih _ _ _ _ h
def fm_177_117 (σ : fx_S) : Option (fx_S) :=
  (fm_163 (0 : Int32) σ).bind fun q2 =>
  fm_177_124 100000 (0 : Int32) q2
theorem fe_177_117 {d : Nat} (hd : 4 ≤ d) (o1 : Option Value) (o2 : Option Value) (σ : fx_S) (q : fx_S) (h : fm_177_117  σ = some q) : fx_E none 177 d 117 [some (.ref 215), o1, o2] [] σ none q := by
  unfold fm_177_117 at h
  refine fs_aload_n (k := 0) (p := 118) (by decide +kernel) rfl rfl ?_
  refine fs_iconst (n := 0) (p := 119) (by decide +kernel) rfl kc_0 ?_
  obtain ⟨q2, w1, h⟩ := fx_bd h
  refine fs_callV (idx := 261) (mj := 163) (ci := 10) (na := 1) (mx := 6) (p := 122) (args := [.ref 215, .int (0 : Int32)]) (rest := []) (al2 := [some (.ref 215), some (.int (0 : Int32)), none, none, none, none]) (by decide +kernel) rfl (by decide +kernel) fo_215 rfl rfl rfl rfl rfl rfl rfl (by omega) (fun d' hd' => fe_163 (by omega) w1) rfl ?_
  refine fs_iconst (n := 0) (p := 123) (by decide +kernel) rfl kc_0 ?_
  refine fs_istore_n (k := 2) (p := 124) (M := 3) (al' := [some (.ref 215), (fx_kl o1), some (.int (0 : Int32))]) (by decide +kernel) rfl mx_177 rfl rfl ?_
  exact fe_177_124 hd 100000 _ _ _ _ h
def fm_177_88 : Nat → Int32 → fx_S → Option (fx_S)
  | 0, _, _ => none
  | n + 1, x2, σ =>
    if (8 : Int32) ≤ x2 then (
      (fm_161 (0 : Int32) σ).bind fun q4 =>
      fm_177_117 q4.2) else (
      (fm_158 x2 σ).bind fun q6 =>
      (fx_st q6.2 222 x2 q6.1).bind fun t7 =>
      fm_177_88 n (x2 + (1 : Int32)) t7)
theorem fe_177_88 {d : Nat} (hd : 4 ≤ d) : ∀ (n : Nat) (x2 : Int32) (o1 : Option Value) (σ : fx_S) (q : fx_S), fm_177_88 n x2 σ = some q → fx_E none 177 d 88 [some (.ref 215), o1, some (.int x2)] [] σ none q := by
  intro n
  induction n with
  | zero =>
    intro x2 o1 σ q  h
    rw [fm_177_88] at h
    exact fx_no h
  | succ n ih =>
    intro x2 o1 σ q  h
    rw [fm_177_88] at h
    refine fs_iload_n (k := 2) (p := 89) (by decide +kernel) rfl rfl ?_
    refine fs_bipush (n := 8) (p := 91) (by decide +kernel) rfl kb_8 ?_
    by_cases c2 : (8 : Int32) ≤ x2
    · rw [if_pos c2] at h
      refine fs_icmp_ge_t (off := 20) (t := 111) (by decide +kernel) (by decide +kernel) c2 ?_
      refine fs_aload_n (k := 0) (p := 112) (by decide +kernel) rfl rfl ?_
      refine fs_iconst (n := 0) (p := 113) (by decide +kernel) rfl kc_0 ?_
      obtain ⟨q4, w3, h⟩ := fx_bd h
      refine fs_callV (idx := 254) (mj := 161) (ci := 10) (na := 1) (mx := 4) (p := 116) (args := [.ref 215, .int (0 : Int32)]) (rest := []) (al2 := [some (.ref 215), some (.int (0 : Int32)), none, none]) (by decide +kernel) rfl (by decide +kernel) fo_215 rfl rfl rfl rfl rfl rfl rfl (by omega) (fun d' hd' => fe_161 (by omega) w3) rfl ?_
      refine fs_pop (p := 117) (by decide +kernel) rfl rfl ?_
      exact fe_177_117 hd _ _ _ _ h
    · rw [if_neg c2] at h
      refine fs_icmp_ge_f (off := 20) (t := 111) (p := 94) (by decide +kernel) (by decide +kernel) rfl c2 ?_
      refine fs_aload_n (k := 0) (p := 95) (by decide +kernel) rfl rfl ?_
      refine fs_gfr (idx := 30) (ci := 10) (j := 13) (p := 98) (by decide +kernel) rfl (by decide +kernel) fo_215 (fr_a215_13) ?_
      refine fs_iload_n (k := 2) (p := 99) (by decide +kernel) rfl rfl ?_
      refine fs_aload_n (k := 0) (p := 100) (by decide +kernel) rfl rfl ?_
      refine fs_iload_n (k := 2) (p := 101) (by decide +kernel) rfl rfl ?_
      obtain ⟨q6, w5, h⟩ := fx_bd h
      refine fs_callV (idx := 279) (mj := 158) (ci := 10) (na := 1) (mx := 4) (p := 104) (args := [.ref 215, .int x2]) (rest := [.int x2, .ref 222]) (al2 := [some (.ref 215), some (.int x2), none, none]) (by decide +kernel) rfl (by decide +kernel) fo_215 rfl rfl rfl rfl rfl rfl rfl (by omega) (fun d' hd' => fe_158 (by omega) w5) rfl ?_
      obtain ⟨t7, w8, h⟩ := fx_bd h
      refine fs_iastore (p := 105) (by decide +kernel) rfl w8 ?_
      refine fs_iinc (k := 2) (n := 1) (p := 108) (M := 3) (al' := [some (.ref 215), (fx_kl o1), some (.int (x2 + (1 : Int32)))]) (by decide +kernel) rfl kc_1 mx_177 rfl rfl rfl ?_
      refine fs_goto (off := -20) (p := 88) (by decide +kernel) (by decide +kernel) ?_
      exact ih _ _ _ _ h
def fm_177_51 (k_21 : Int32 → Int32 → fx_S → Option (fx_S)) (x1 : Int32) (x2 : Int32) (s1 : Int32) (s2 : Int32) (σ : fx_S) : Option (fx_S) :=
  (fx_st σ 236 s1 s2).bind fun t1 =>
  (fx_ld t1 236 x2).bind fun v4 =>
  (fx_st t1 222 x2 v4).bind fun t7 =>
  k_21 x1 (x2 + (1 : Int32)) t7
theorem fe_177_51 {d : Nat} (hd : 4 ≤ d) {k_21 : Int32 → Int32 → fx_S → Option (fx_S)} (hk_21 : ∀ (x1 : Int32) (x2 : Int32) (σ : fx_S) (q : fx_S), k_21 x1 x2 σ = some q → fx_E none 177 d 21 [some (.ref 215), some (.int x1), some (.int x2)] [] σ none q) (x1 : Int32) (x2 : Int32) (s1 : Int32) (s2 : Int32) (σ : fx_S) (q : fx_S) (h : fm_177_51 k_21  x1 x2 s1 s2 σ = some q) : fx_E none 177 d 51 [some (.ref 215), some (.int x1), some (.int x2)] [.int s2, .int s1, .ref 236] σ none q := by
  unfold fm_177_51 at h
  obtain ⟨t1, w2, h⟩ := fx_bd h
  refine fs_iastore (p := 52) (by decide +kernel) rfl w2 ?_
  refine fs_aload_n (k := 0) (p := 53) (by decide +kernel) rfl rfl ?_
  refine fs_gfr (idx := 30) (ci := 10) (j := 13) (p := 56) (by decide +kernel) rfl (by decide +kernel) fo_215 (fr_a215_13) ?_
  refine fs_iload_n (k := 2) (p := 57) (by decide +kernel) rfl rfl ?_
  refine fs_aload_n (k := 0) (p := 58) (by decide +kernel) rfl rfl ?_
  refine fs_gfr (idx := 73) (ci := 10) (j := 31) (p := 61) (by decide +kernel) rfl (by decide +kernel) fo_215 (fr_a215_31) ?_
  refine fs_iload_n (k := 2) (p := 62) (by decide +kernel) rfl rfl ?_
  obtain ⟨v4, w5, h⟩ := fx_bd h
  refine fs_iaload (p := 63) (by decide +kernel) rfl w5 ?_
  obtain ⟨t7, w8, h⟩ := fx_bd h
  refine fs_iastore (p := 64) (by decide +kernel) rfl w8 ?_
  refine fs_iinc (k := 2) (n := 1) (p := 67) (M := 3) (al' := [some (.ref 215), some (.int x1), some (.int (x2 + (1 : Int32)))]) (by decide +kernel) rfl kc_1 mx_177 rfl rfl rfl ?_
  refine fs_goto (off := -46) (p := 21) (by decide +kernel) (by decide +kernel) ?_
  exact hk_21 _ _ _ _ h
def fm_177_21 : Nat → Int32 → Int32 → fx_S → Option (fx_S)
  | 0, _, _, _ => none
  | n + 1, x1, x2, σ =>
    if (8 : Int32) ≤ x2 then (
      (fm_175 σ).bind fun q4 =>
      if ¬ (fx_b q4.1) = 0 then (
        (fm_161 (0 : Int32) q4.2).bind fun q7 =>
        if ¬ q7.1 = 0 then (
          fm_177_117 q7.2) else (
          fm_177_88 100000 (0 : Int32) q7.2)) else (
        some q4.2)) else (
      (fm_153 (0 : Int32) x2 σ).bind fun q11 =>
      if (fx_b q11.1) = 0 then (
        fm_177_51 (fm_177_21 n) x1 x2 x2 (0 : Int32) q11.2) else (
        (fm_155 x1 x2 q11.2).bind fun q14 =>
        fm_177_51 (fm_177_21 n) x1 x2 x2 q14.1 q14.2))
theorem fe_177_21 {d : Nat} (hd : 4 ≤ d) : ∀ (n : Nat) (x1 : Int32) (x2 : Int32) (σ : fx_S) (q : fx_S), fm_177_21 n x1 x2 σ = some q → fx_E none 177 d 21 [some (.ref 215), some (.int x1), some (.int x2)] [] σ none q := by
  intro n
  induction n with
  | zero =>
    intro x1 x2 σ q  h
    rw [fm_177_21] at h
    exact fx_no h
  | succ n ih =>
    intro x1 x2 σ q  h
    rw [fm_177_21] at h
    refine fs_iload_n (k := 2) (p := 22) (by decide +kernel) rfl rfl ?_
    refine fs_bipush (n := 8) (p := 24) (by decide +kernel) rfl kb_8 ?_
    by_cases c2 : (8 : Int32) ≤ x2
    · rw [if_pos c2] at h
      refine fs_icmp_ge_t (off := 46) (t := 70) (by decide +kernel) (by decide +kernel) c2 ?_
      refine fs_aload_n (k := 0) (p := 71) (by decide +kernel) rfl rfl ?_
      obtain ⟨q4, w3, h⟩ := fx_bd h
      refine fs_callV (idx := 270) (mj := 175) (ci := 10) (na := 0) (mx := 1) (p := 74) (args := [.ref 215]) (rest := []) (al2 := [some (.ref 215)]) (by decide +kernel) rfl (by decide +kernel) fo_215 rfl rfl rfl rfl rfl rfl rfl (by omega) (fun d' hd' => fe_175 (by omega) w3) rfl ?_
      by_cases c5 : ¬ (fx_b q4.1) = 0
      · rw [if_pos c5] at h
        refine fs_if_ne_t (off := 4) (t := 78) (by decide +kernel) (by decide +kernel) c5 ?_
        refine fs_aload_n (k := 0) (p := 79) (by decide +kernel) rfl rfl ?_
        refine fs_iconst (n := 0) (p := 80) (by decide +kernel) rfl kc_0 ?_
        obtain ⟨q7, w6, h⟩ := fx_bd h
        refine fs_callV (idx := 254) (mj := 161) (ci := 10) (na := 1) (mx := 4) (p := 83) (args := [.ref 215, .int (0 : Int32)]) (rest := []) (al2 := [some (.ref 215), some (.int (0 : Int32)), none, none]) (by decide +kernel) rfl (by decide +kernel) fo_215 rfl rfl rfl rfl rfl rfl rfl (by omega) (fun d' hd' => fe_161 (by omega) w6) rfl ?_
        by_cases c9 : ¬ q7.1 = 0
        · rw [if_pos c9] at h
          refine fs_if_ne_t (off := 34) (t := 117) (by decide +kernel) (by decide +kernel) c9 ?_
          exact fe_177_117 hd _ _ _ _ h
        · rw [if_neg c9] at h
          refine fs_if_ne_f (off := 34) (t := 117) (p := 86) (by decide +kernel) (by decide +kernel) rfl c9 ?_
          refine fs_iconst (n := 0) (p := 87) (by decide +kernel) rfl kc_0 ?_
          refine fs_istore_n (k := 2) (p := 88) (M := 3) (al' := [some (.ref 215), some (.int x1), some (.int (0 : Int32))]) (by decide +kernel) rfl mx_177 rfl rfl ?_
          exact fe_177_88 hd 100000 _ _ _ _ h
      · rw [if_neg c5] at h
        refine fs_if_ne_f (off := 4) (t := 78) (p := 77) (by decide +kernel) (by decide +kernel) rfl c5 ?_
        have h := Option.some.inj h
        subst h
        exact fs_ret (by decide +kernel) rt_177
    · rw [if_neg c2] at h
      refine fs_icmp_ge_f (off := 46) (t := 70) (p := 27) (by decide +kernel) (by decide +kernel) rfl c2 ?_
      refine fs_aload_n (k := 0) (p := 28) (by decide +kernel) rfl rfl ?_
      refine fs_gfr (idx := 73) (ci := 10) (j := 31) (p := 31) (by decide +kernel) rfl (by decide +kernel) fo_215 (fr_a215_31) ?_
      refine fs_iload_n (k := 2) (p := 32) (by decide +kernel) rfl rfl ?_
      refine fs_aload_n (k := 0) (p := 33) (by decide +kernel) rfl rfl ?_
      refine fs_iconst (n := 0) (p := 34) (by decide +kernel) rfl kc_0 ?_
      refine fs_iload_n (k := 2) (p := 35) (by decide +kernel) rfl rfl ?_
      obtain ⟨q11, w10, h⟩ := fx_bd h
      refine fs_callV (idx := 202) (mj := 153) (ci := 10) (na := 2) (mx := 4) (p := 38) (args := [.ref 215, .int (0 : Int32), .int x2]) (rest := [.int x2, .ref 236]) (al2 := [some (.ref 215), some (.int (0 : Int32)), some (.int x2), none]) (by decide +kernel) rfl (by decide +kernel) fo_215 rfl rfl rfl rfl rfl rfl rfl (by omega) (fun d' hd' => fe_153 (by omega) w10) rfl ?_
      by_cases c12 : (fx_b q11.1) = 0
      · rw [if_pos c12] at h
        refine fs_if_eq_t (off := 12) (t := 50) (by decide +kernel) (by decide +kernel) c12 ?_
        refine fs_iconst (n := 0) (p := 51) (by decide +kernel) rfl kc_0 ?_
        exact fe_177_51 hd ih _ _ _ _ _ _ h
      · rw [if_neg c12] at h
        refine fs_if_eq_f (off := 12) (t := 50) (p := 41) (by decide +kernel) (by decide +kernel) rfl c12 ?_
        refine fs_aload_n (k := 0) (p := 42) (by decide +kernel) rfl rfl ?_
        refine fs_iload_n (k := 1) (p := 43) (by decide +kernel) rfl rfl ?_
        refine fs_iload_n (k := 2) (p := 44) (by decide +kernel) rfl rfl ?_
        obtain ⟨q14, w13, h⟩ := fx_bd h
        refine fs_callV (idx := 264) (mj := 155) (ci := 10) (na := 2) (mx := 3) (p := 47) (args := [.ref 215, .int x1, .int x2]) (rest := [.int x2, .ref 236]) (al2 := [some (.ref 215), some (.int x1), some (.int x2)]) (by decide +kernel) rfl (by decide +kernel) fo_215 rfl rfl rfl rfl rfl rfl rfl (by omega) (fun d' hd' => fe_155 (by omega) w13) rfl ?_
        refine fs_goto (off := 4) (p := 51) (by decide +kernel) (by decide +kernel) ?_
        exact fe_177_51 hd ih _ _ _ _ _ _ h
def fm_177 (x1 : Int32) (σ : fx_S) : Option (fx_S) :=
  (fm_159 (1 : Int32) (8 : Int32) σ).bind fun q53 =>
  (fm_174 x1 q53).bind fun q55 =>
  (fx_stl q55.2 221 (0 : Int32) (q55.1).toInt64).bind fun t57 =>
  fm_177_21 100000 x1 (0 : Int32) t57
theorem fe_177 {d : Nat} (hd : 4 ≤ d) {x1 : Int32} {σ : fx_S} {q : fx_S} (h : fm_177 x1 σ = some q) : fx_E none 177 d 0 [some (.ref 215), some (.int x1), none] [] σ none q := by
  unfold fm_177 at h
  refine fs_aload_n (k := 0) (p := 1) (by decide +kernel) rfl rfl ?_
  refine fs_iconst (n := 1) (p := 2) (by decide +kernel) rfl kc_1 ?_
  refine fs_bipush (n := 8) (p := 4) (by decide +kernel) rfl kb_8 ?_
  obtain ⟨q53, w52, h⟩ := fx_bd h
  refine fs_callV (idx := 276) (mj := 159) (ci := 10) (na := 2) (mx := 4) (p := 7) (args := [.ref 215, .int (1 : Int32), .int (8 : Int32)]) (rest := []) (al2 := [some (.ref 215), some (.int (1 : Int32)), some (.int (8 : Int32)), none]) (by decide +kernel) rfl (by decide +kernel) fo_215 rfl rfl rfl rfl rfl rfl rfl (by omega) (fun d' hd' => fe_159 (by omega) w52) rfl ?_
  refine fs_aload_n (k := 0) (p := 8) (by decide +kernel) rfl rfl ?_
  refine fs_gfr (idx := 26) (ci := 10) (j := 12) (p := 11) (by decide +kernel) rfl (by decide +kernel) fo_215 (fr_a215_12) ?_
  refine fs_iconst (n := 0) (p := 12) (by decide +kernel) rfl kc_0 ?_
  refine fs_aload_n (k := 0) (p := 13) (by decide +kernel) rfl rfl ?_
  refine fs_iload_n (k := 1) (p := 14) (by decide +kernel) rfl rfl ?_
  obtain ⟨q55, w54, h⟩ := fx_bd h
  refine fs_callV (idx := 273) (mj := 174) (ci := 10) (na := 1) (mx := 4) (p := 17) (args := [.ref 215, .int x1]) (rest := [.int (0 : Int32), .ref 221]) (al2 := [some (.ref 215), some (.int x1), none, none]) (by decide +kernel) rfl (by decide +kernel) fo_215 rfl rfl rfl rfl rfl rfl rfl (by omega) (fun d' hd' => fe_174 (by omega) w54) rfl ?_
  refine fs_i2l (p := 18) (by decide +kernel) rfl ?_
  obtain ⟨t57, w58, h⟩ := fx_bd h
  refine fs_lastore (p := 19) (by decide +kernel) rfl w58 ?_
  refine fs_iconst (n := 0) (p := 20) (by decide +kernel) rfl kc_0 ?_
  refine fs_istore_n (k := 2) (p := 21) (M := 3) (al' := [some (.ref 215), some (.int x1), some (.int (0 : Int32))]) (by decide +kernel) rfl mx_177 rfl rfl ?_
  exact fe_177_21 hd 100000 _ _ _ _ h

/-! ZoneSharesModel.allTold(I)I -/
theorem mx_178 : iv_mx 178 = 4 := by decide +kernel
theorem rt_178 : iv_rt 178 = some .int := by decide +kernel
def fm_178_4 : Nat → Int32 → Int32 → Int32 → fx_S → Option (Int32 × fx_S)
  | 0, _, _, _, _ => none
  | n + 1, x1, x2, x3, σ =>
    if (9 : Int32) ≤ x3 then (
      some (x2, σ)) else (
      (fm_155 x1 x3 σ).bind fun q4 =>
      fm_178_4 n x1 (x2 + q4.1) (x3 + (1 : Int32)) q4.2)
theorem fe_178_4 {d : Nat} (hd : 1 ≤ d) : ∀ (n : Nat) (x1 : Int32) (x2 : Int32) (x3 : Int32) (σ : fx_S) (q : Int32 × fx_S), fm_178_4 n x1 x2 x3 σ = some q → fx_E none 178 d 4 [some (.ref 215), some (.int x1), some (.int x2), some (.int x3)] [] σ (some (.int q.1)) q.2 := by
  intro n
  induction n with
  | zero =>
    intro x1 x2 x3 σ q  h
    rw [fm_178_4] at h
    exact fx_no h
  | succ n ih =>
    intro x1 x2 x3 σ q  h
    rw [fm_178_4] at h
    refine fs_iload_n (k := 3) (p := 5) (by decide +kernel) rfl rfl ?_
    refine fs_bipush (n := 9) (p := 7) (by decide +kernel) rfl kb_9 ?_
    by_cases c2 : (9 : Int32) ≤ x3
    · rw [if_pos c2] at h
      refine fs_icmp_ge_t (off := 18) (t := 25) (by decide +kernel) (by decide +kernel) c2 ?_
      refine fs_iload_n (k := 2) (p := 26) (by decide +kernel) rfl rfl ?_
      have h := Option.some.inj h
      subst h
      exact fs_iret (by decide +kernel) rt_178
    · rw [if_neg c2] at h
      refine fs_icmp_ge_f (off := 18) (t := 25) (p := 10) (by decide +kernel) (by decide +kernel) rfl c2 ?_
      refine fs_iload_n (k := 2) (p := 11) (by decide +kernel) rfl rfl ?_
      refine fs_aload_n (k := 0) (p := 12) (by decide +kernel) rfl rfl ?_
      refine fs_iload_n (k := 1) (p := 13) (by decide +kernel) rfl rfl ?_
      refine fs_iload_n (k := 3) (p := 14) (by decide +kernel) rfl rfl ?_
      obtain ⟨q4, w3, h⟩ := fx_bd h
      refine fs_callV (idx := 264) (mj := 155) (ci := 10) (na := 2) (mx := 3) (p := 17) (args := [.ref 215, .int x1, .int x3]) (rest := [.int x2]) (al2 := [some (.ref 215), some (.int x1), some (.int x3)]) (by decide +kernel) rfl (by decide +kernel) fo_215 rfl rfl rfl rfl rfl rfl rfl (by omega) (fun d' hd' => fe_155 (by omega) w3) rfl ?_
      refine fs_iadd (p := 18) (by decide +kernel) rfl ?_
      refine fs_istore_n (k := 2) (p := 19) (M := 4) (al' := [some (.ref 215), some (.int x1), some (.int (x2 + q4.1)), some (.int x3)]) (by decide +kernel) rfl mx_178 rfl rfl ?_
      refine fs_iinc (k := 3) (n := 1) (p := 22) (M := 4) (al' := [some (.ref 215), some (.int x1), some (.int (x2 + q4.1)), some (.int (x3 + (1 : Int32)))]) (by decide +kernel) rfl kc_1 mx_178 rfl rfl rfl ?_
      refine fs_goto (off := -18) (p := 4) (by decide +kernel) (by decide +kernel) ?_
      exact ih _ _ _ _ _ h
def fm_178 (x1 : Int32) (σ : fx_S) : Option (Int32 × fx_S) :=
  fm_178_4 100000 x1 (0 : Int32) (0 : Int32) σ
theorem fe_178 {d : Nat} (hd : 1 ≤ d) {x1 : Int32} {σ : fx_S} {q : Int32 × fx_S} (h : fm_178 x1 σ = some q) : fx_E none 178 d 0 [some (.ref 215), some (.int x1), none, none] [] σ (some (.int q.1)) q.2 := by
  unfold fm_178 at h
  refine fs_iconst (n := 0) (p := 1) (by decide +kernel) rfl kc_0 ?_
  refine fs_istore_n (k := 2) (p := 2) (M := 4) (al' := [some (.ref 215), some (.int x1), some (.int (0 : Int32)), none]) (by decide +kernel) rfl mx_178 rfl rfl ?_
  refine fs_iconst (n := 0) (p := 3) (by decide +kernel) rfl kc_0 ?_
  refine fs_istore_n (k := 3) (p := 4) (M := 4) (al' := [some (.ref 215), some (.int x1), some (.int (0 : Int32)), some (.int (0 : Int32))]) (by decide +kernel) rfl mx_178 rfl rfl ?_
  exact fe_178_4 hd 100000 _ _ _ _ _ h

/-! ZoneSharesModel.people(II)I -/
theorem mx_179 : iv_mx 179 = 3 := by decide +kernel
theorem rt_179 : iv_rt 179 = some .int := by decide +kernel
def fm_179 (x1 : Int32) (x2 : Int32) (σ : fx_S) : Option (Int32 × fx_S) :=
  (fm_148 x1 σ).bind fun q23 =>
  if (fx_b q23.1) = 0 then (
    some ((-1 : Int32), q23.2)) else (
    (fm_130 (x2).toInt64 (0 : Int64) (10 : Int64) q23.2).bind fun q27 =>
    if ¬ (fx_b q27.1) = 0 then (
      if x2 = (8 : Int32) then (
        (fm_174 x1 q27.2).bind fun q42 =>
        some (q42.1, q42.2)) else (
        if x2 = (9 : Int32) then (
          (fm_176 x1 q27.2).bind fun q40 =>
          some (q40.1, q40.2)) else (
          if x2 = (10 : Int32) then (
            (fm_178 x1 q27.2).bind fun q38 =>
            some (q38.1, q38.2)) else (
            (fm_177 x1 q27.2).bind fun q33 =>
            (fx_ld q33 236 x2).bind fun v34 =>
            some (v34, q33))))) else (
      some ((-1 : Int32), q27.2)))
theorem fe_179 {d : Nat} (hd : 5 ≤ d) {x1 : Int32} {x2 : Int32} {σ : fx_S} {q : Int32 × fx_S} (h : fm_179 x1 x2 σ = some q) : fx_E none 179 d 0 [some (.ref 215), some (.int x1), some (.int x2)] [] σ (some (.int q.1)) q.2 := by
  unfold fm_179 at h
  refine fs_iload_n (k := 1) (p := 1) (by decide +kernel) rfl rfl ?_
  obtain ⟨q23, w22, h⟩ := fx_bd h
  refine fs_callS (idx := 190) (mj := 148) (na := 1) (mx := 1) (p := 4) (args := [.int x1]) (rest := []) (al2 := [some (.int x1)]) (by decide +kernel) rfl (by decide +kernel) rfl rfl rfl rfl rfl rfl rfl (by omega) (fun d' hd' => fe_148 (by omega) w22) rfl ?_
  by_cases c24 : (fx_b q23.1) = 0
  · rw [if_pos c24] at h
    refine fs_if_eq_t (off := 15) (t := 19) (by decide +kernel) (by decide +kernel) c24 ?_
    refine fs_iconst (n := -1) (p := 20) (by decide +kernel) rfl kc_m1 ?_
    have h := Option.some.inj h
    subst h
    exact fs_iret (by decide +kernel) rt_179
  · rw [if_neg c24] at h
    refine fs_if_eq_f (off := 15) (t := 19) (p := 7) (by decide +kernel) (by decide +kernel) rfl c24 ?_
    refine fs_iload_n (k := 2) (p := 8) (by decide +kernel) rfl rfl ?_
    refine fs_i2l (p := 9) (by decide +kernel) rfl ?_
    refine fs_lconst (n := 0) (p := 10) (by decide +kernel) rfl kl_0 ?_
    refine fs_ldc2 (idx := 282) (p := 13) (x := 10) (by decide +kernel) rfl (by decide +kernel) ?_
    obtain ⟨q27, w26, h⟩ := fx_bd h
    refine fs_callS (idx := 128) (mj := 130) (na := 3) (mx := 6) (p := 16) (args := [.long (x2).toInt64, .long (0 : Int64), .long (10 : Int64)]) (rest := []) (al2 := [some (.long (x2).toInt64), none, some (.long (0 : Int64)), none, some (.long (10 : Int64)), none]) (by decide +kernel) rfl (by decide +kernel) rfl rfl rfl rfl rfl rfl rfl (by omega) (fun d' hd' => fe_130 (by omega) w26) rfl ?_
    by_cases c28 : ¬ (fx_b q27.1) = 0
    · rw [if_pos c28] at h
      refine fs_if_ne_t (off := 5) (t := 21) (by decide +kernel) (by decide +kernel) c28 ?_
      refine fs_iload_n (k := 2) (p := 22) (by decide +kernel) rfl rfl ?_
      by_cases c29 : x2 = (8 : Int32)
      · rw [if_pos c29] at h
        refine fs_tsw_h (dflt := 44) (lo := 8) (hi := 10) (offs := #[26, 32, 38]) (x := x2) (j := 0) (t := 48) (by decide +kernel) (by decide +kernel) (by decide) (c29.trans (by decide)) ?_
        refine fs_aload_n (k := 0) (p := 49) (by decide +kernel) rfl rfl ?_
        refine fs_iload_n (k := 1) (p := 50) (by decide +kernel) rfl rfl ?_
        obtain ⟨q42, w41, h⟩ := fx_bd h
        refine fs_callV (idx := 273) (mj := 174) (ci := 10) (na := 1) (mx := 4) (p := 53) (args := [.ref 215, .int x1]) (rest := []) (al2 := [some (.ref 215), some (.int x1), none, none]) (by decide +kernel) rfl (by decide +kernel) fo_215 rfl rfl rfl rfl rfl rfl rfl (by omega) (fun d' hd' => fe_174 (by omega) w41) rfl ?_
        have h := Option.some.inj h
        subst h
        exact fs_iret (by decide +kernel) rt_179
      · rw [if_neg c29] at h
        by_cases c30 : x2 = (9 : Int32)
        · rw [if_pos c30] at h
          refine fs_tsw_h (dflt := 44) (lo := 8) (hi := 10) (offs := #[26, 32, 38]) (x := x2) (j := 1) (t := 54) (by decide +kernel) (by decide +kernel) (by decide) (c30.trans (by decide)) ?_
          refine fs_aload_n (k := 0) (p := 55) (by decide +kernel) rfl rfl ?_
          refine fs_iload_n (k := 1) (p := 56) (by decide +kernel) rfl rfl ?_
          obtain ⟨q40, w39, h⟩ := fx_bd h
          refine fs_callV (idx := 284) (mj := 176) (ci := 10) (na := 1) (mx := 2) (p := 59) (args := [.ref 215, .int x1]) (rest := []) (al2 := [some (.ref 215), some (.int x1)]) (by decide +kernel) rfl (by decide +kernel) fo_215 rfl rfl rfl rfl rfl rfl rfl (by omega) (fun d' hd' => fe_176 (by omega) w39) rfl ?_
          have h := Option.some.inj h
          subst h
          exact fs_iret (by decide +kernel) rt_179
        · rw [if_neg c30] at h
          by_cases c31 : x2 = (10 : Int32)
          · rw [if_pos c31] at h
            refine fs_tsw_h (dflt := 44) (lo := 8) (hi := 10) (offs := #[26, 32, 38]) (x := x2) (j := 2) (t := 60) (by decide +kernel) (by decide +kernel) (by decide) (c31.trans (by decide)) ?_
            refine fs_aload_n (k := 0) (p := 61) (by decide +kernel) rfl rfl ?_
            refine fs_iload_n (k := 1) (p := 62) (by decide +kernel) rfl rfl ?_
            obtain ⟨q38, w37, h⟩ := fx_bd h
            refine fs_callV (idx := 287) (mj := 178) (ci := 10) (na := 1) (mx := 4) (p := 65) (args := [.ref 215, .int x1]) (rest := []) (al2 := [some (.ref 215), some (.int x1), none, none]) (by decide +kernel) rfl (by decide +kernel) fo_215 rfl rfl rfl rfl rfl rfl rfl (by omega) (fun d' hd' => fe_178 (by omega) w37) rfl ?_
            have h := Option.some.inj h
            subst h
            exact fs_iret (by decide +kernel) rt_179
          · rw [if_neg c31] at h
            refine fs_tsw_d (dflt := 44) (lo := 8) (hi := 10) (offs := #[26, 32, 38]) (x := x2) (t := 66) (by decide +kernel) (by decide +kernel) (by decide) (by decide) (fun j hj => by match j, hj with | 0, _ => exact c29 | 1, _ => exact c30 | 2, _ => exact c31) ?_
            refine fs_aload_n (k := 0) (p := 67) (by decide +kernel) rfl rfl ?_
            refine fs_iload_n (k := 1) (p := 68) (by decide +kernel) rfl rfl ?_
            obtain ⟨q33, w32, h⟩ := fx_bd h
            refine fs_callV (idx := 290) (mj := 177) (ci := 10) (na := 1) (mx := 3) (p := 71) (args := [.ref 215, .int x1]) (rest := []) (al2 := [some (.ref 215), some (.int x1), none]) (by decide +kernel) rfl (by decide +kernel) fo_215 rfl rfl rfl rfl rfl rfl rfl (by omega) (fun d' hd' => fe_177 (by omega) w32) rfl ?_
            refine fs_aload_n (k := 0) (p := 72) (by decide +kernel) rfl rfl ?_
            refine fs_gfr (idx := 73) (ci := 10) (j := 31) (p := 75) (by decide +kernel) rfl (by decide +kernel) fo_215 (fr_a215_31) ?_
            refine fs_iload_n (k := 2) (p := 76) (by decide +kernel) rfl rfl ?_
            obtain ⟨v34, w35, h⟩ := fx_bd h
            refine fs_iaload (p := 77) (by decide +kernel) rfl w35 ?_
            have h := Option.some.inj h
            subst h
            exact fs_iret (by decide +kernel) rt_179
    · rw [if_neg c28] at h
      refine fs_if_ne_f (off := 5) (t := 21) (p := 19) (by decide +kernel) (by decide +kernel) rfl c28 ?_
      refine fs_iconst (n := -1) (p := 20) (by decide +kernel) rfl kc_m1 ?_
      have h := Option.some.inj h
      subst h
      exact fs_iret (by decide +kernel) rt_179

/-! ZoneSharesModel.byCells(II)Z -/
theorem mx_180 : iv_mx 180 = 3 := by decide +kernel
theorem rt_180 : iv_rt 180 = some .boolean := by decide +kernel
def fm_180 (x1 : Int32) (x2 : Int32) (σ : fx_S) : Option (Bool × fx_S) :=
  (fm_157 x1 x2 (-1 : Int32) (0 : Int32) σ).bind fun q6 =>
  if ¬ q6.1 = 0 then (
    some (false, q6.2)) else (
    some (true, q6.2))
theorem fe_180 {d : Nat} (hd : 3 ≤ d) {x1 : Int32} {x2 : Int32} {σ : fx_S} {q : Bool × fx_S} (h : fm_180 x1 x2 σ = some q) : fx_E none 180 d 0 [some (.ref 215), some (.int x1), some (.int x2)] [] σ (some (.int (fx_b q.1))) q.2 := by
  unfold fm_180 at h
  refine fs_aload_n (k := 0) (p := 1) (by decide +kernel) rfl rfl ?_
  refine fs_iload_n (k := 1) (p := 2) (by decide +kernel) rfl rfl ?_
  refine fs_iload_n (k := 2) (p := 3) (by decide +kernel) rfl rfl ?_
  refine fs_iconst (n := -1) (p := 4) (by decide +kernel) rfl kc_m1 ?_
  refine fs_iconst (n := 0) (p := 5) (by decide +kernel) rfl kc_0 ?_
  obtain ⟨q6, w5, h⟩ := fx_bd h
  refine fs_callV (idx := 293) (mj := 157) (ci := 10) (na := 4) (mx := 8) (p := 8) (args := [.ref 215, .int x1, .int x2, .int (-1 : Int32), .int (0 : Int32)]) (rest := []) (al2 := [some (.ref 215), some (.int x1), some (.int x2), some (.int (-1 : Int32)), some (.int (0 : Int32)), none, none, none]) (by decide +kernel) rfl (by decide +kernel) fo_215 rfl rfl rfl rfl rfl rfl rfl (by omega) (fun d' hd' => fe_157 (by omega) w5) rfl ?_
  by_cases c8 : ¬ q6.1 = 0
  · rw [if_pos c8] at h
    refine fs_if_ne_t (off := 7) (t := 15) (by decide +kernel) (by decide +kernel) c8 ?_
    refine fs_iconst (n := 0) (p := 16) (by decide +kernel) rfl kc_0 ?_
    have h := Option.some.inj h
    subst h
    exact fs_zret (b := false) (by decide +kernel) rt_180
  · rw [if_neg c8] at h
    refine fs_if_ne_f (off := 7) (t := 15) (p := 11) (by decide +kernel) (by decide +kernel) rfl c8 ?_
    refine fs_iconst (n := 1) (p := 12) (by decide +kernel) rfl kc_1 ?_
    refine fs_goto (off := 4) (p := 16) (by decide +kernel) (by decide +kernel) ?_
    have h := Option.some.inj h
    subst h
    exact fs_zret (b := true) (by decide +kernel) rt_180

/-! ZoneSharesModel.laysMoved(I)V -/
theorem mx_181 : iv_mx 181 = 5 := by decide +kernel
theorem rt_181 : iv_rt 181 = none := by decide +kernel
def fm_181_44 (k_15 : Int32 → Int32 → fx_S → Option (fx_S)) : Nat → Int32 → Int32 → Int32 → Int32 → fx_S → Option (fx_S)
  | 0, _, _, _, _, _ => none
  | n + 1, x1, x2, x3, x4, σ =>
    if (9 : Int32) ≤ x4 then (
      k_15 x1 (x2 + (1 : Int32)) σ) else (
      (fm_160 x2 x4 σ).bind fun q4 =>
      (fm_157 x1 x2 x4 x3 q4.2).bind fun q6 =>
      (fx_st q6.2 222 q4.1 q6.1).bind fun t7 =>
      fm_181_44 k_15 n x1 x2 x3 (x4 + (1 : Int32)) t7)
theorem fe_181_44 {d : Nat} (hd : 5 ≤ d) {k_15 : Int32 → Int32 → fx_S → Option (fx_S)} (hk_15 : ∀ (x1 : Int32) (x2 : Int32) (o3 : Option Value) (o4 : Option Value) (σ : fx_S) (q : fx_S), k_15 x1 x2 σ = some q → fx_E none 181 d 15 [some (.ref 215), some (.int x1), some (.int x2), o3, o4] [] σ none q) : ∀ (n : Nat) (x1 : Int32) (x2 : Int32) (x3 : Int32) (x4 : Int32) (σ : fx_S) (q : fx_S), fm_181_44 k_15 n x1 x2 x3 x4 σ = some q → fx_E none 181 d 44 [some (.ref 215), some (.int x1), some (.int x2), some (.int x3), some (.int x4)] [] σ none q := by
  intro n
  induction n with
  | zero =>
    intro x1 x2 x3 x4 σ q  h
    rw [fm_181_44] at h
    exact fx_no h
  | succ n ih =>
    intro x1 x2 x3 x4 σ q  h
    rw [fm_181_44] at h
    refine fs_iload (k := 4) (p := 46) (by decide +kernel) rfl rfl ?_
    refine fs_bipush (n := 9) (p := 48) (by decide +kernel) rfl kb_9 ?_
    by_cases c2 : (9 : Int32) ≤ x4
    · rw [if_pos c2] at h
      refine fs_icmp_ge_t (off := 29) (t := 77) (by decide +kernel) (by decide +kernel) c2 ?_
      refine fs_iinc (k := 2) (n := 1) (p := 80) (M := 5) (al' := [some (.ref 215), some (.int x1), some (.int (x2 + (1 : Int32))), some (.int x3), some (.int x4)]) (by decide +kernel) rfl kc_1 mx_181 rfl rfl rfl ?_
      refine fs_goto (off := -65) (p := 15) (by decide +kernel) (by decide +kernel) ?_
      exact hk_15 _ _ _ _ _ _ h
    · rw [if_neg c2] at h
      refine fs_icmp_ge_f (off := 29) (t := 77) (p := 51) (by decide +kernel) (by decide +kernel) rfl c2 ?_
      refine fs_aload_n (k := 0) (p := 52) (by decide +kernel) rfl rfl ?_
      refine fs_gfr (idx := 30) (ci := 10) (j := 13) (p := 55) (by decide +kernel) rfl (by decide +kernel) fo_215 (fr_a215_13) ?_
      refine fs_iload_n (k := 2) (p := 56) (by decide +kernel) rfl rfl ?_
      refine fs_iload (k := 4) (p := 58) (by decide +kernel) rfl rfl ?_
      obtain ⟨q4, w3, h⟩ := fx_bd h
      refine fs_callS (idx := 214) (mj := 160) (na := 2) (mx := 2) (p := 61) (args := [.int x2, .int x4]) (rest := [.ref 222]) (al2 := [some (.int x2), some (.int x4)]) (by decide +kernel) rfl (by decide +kernel) rfl rfl rfl rfl rfl rfl rfl (by omega) (fun d' hd' => fe_160 (by omega) w3) rfl ?_
      refine fs_aload_n (k := 0) (p := 62) (by decide +kernel) rfl rfl ?_
      refine fs_iload_n (k := 1) (p := 63) (by decide +kernel) rfl rfl ?_
      refine fs_iload_n (k := 2) (p := 64) (by decide +kernel) rfl rfl ?_
      refine fs_iload (k := 4) (p := 66) (by decide +kernel) rfl rfl ?_
      refine fs_iload_n (k := 3) (p := 67) (by decide +kernel) rfl rfl ?_
      obtain ⟨q6, w5, h⟩ := fx_bd h
      refine fs_callV (idx := 293) (mj := 157) (ci := 10) (na := 4) (mx := 8) (p := 70) (args := [.ref 215, .int x1, .int x2, .int x4, .int x3]) (rest := [.int q4.1, .ref 222]) (al2 := [some (.ref 215), some (.int x1), some (.int x2), some (.int x4), some (.int x3), none, none, none]) (by decide +kernel) rfl (by decide +kernel) fo_215 rfl rfl rfl rfl rfl rfl rfl (by omega) (fun d' hd' => fe_157 (by omega) w5) rfl ?_
      obtain ⟨t7, w8, h⟩ := fx_bd h
      refine fs_iastore (p := 71) (by decide +kernel) rfl w8 ?_
      refine fs_iinc (k := 4) (n := 1) (p := 74) (M := 5) (al' := [some (.ref 215), some (.int x1), some (.int x2), some (.int x3), some (.int (x4 + (1 : Int32)))]) (by decide +kernel) rfl kc_1 mx_181 rfl rfl rfl ?_
      refine fs_goto (off := -30) (p := 44) (by decide +kernel) (by decide +kernel) ?_
      exact ih _ _ _ _ _ _ h
def fm_181_15 : Nat → Int32 → Int32 → fx_S → Option (fx_S)
  | 0, _, _, _ => none
  | n + 1, x1, x2, σ =>
    if (8 : Int32) ≤ x2 then (
      some σ) else (
      (fx_ld σ 236 x2).bind fun v3 =>
      (fx_stl σ 221 x2 (v3).toInt64).bind fun t7 =>
      (fm_180 x1 x2 t7).bind fun q10 =>
      fm_181_44 (fm_181_15 n) 100000 x1 x2 (fx_b q10.1) (0 : Int32) q10.2)
theorem fe_181_15 {d : Nat} (hd : 5 ≤ d) : ∀ (n : Nat) (x1 : Int32) (x2 : Int32) (o3 : Option Value) (o4 : Option Value) (σ : fx_S) (q : fx_S), fm_181_15 n x1 x2 σ = some q → fx_E none 181 d 15 [some (.ref 215), some (.int x1), some (.int x2), o3, o4] [] σ none q := by
  intro n
  induction n with
  | zero =>
    intro x1 x2 o3 o4 σ q  h
    rw [fm_181_15] at h
    exact fx_no h
  | succ n ih =>
    intro x1 x2 o3 o4 σ q  h
    rw [fm_181_15] at h
    refine fs_iload_n (k := 2) (p := 16) (by decide +kernel) rfl rfl ?_
    refine fs_bipush (n := 8) (p := 18) (by decide +kernel) rfl kb_8 ?_
    by_cases c2 : (8 : Int32) ≤ x2
    · rw [if_pos c2] at h
      refine fs_icmp_ge_t (off := 65) (t := 83) (by decide +kernel) (by decide +kernel) c2 ?_
      have h := Option.some.inj h
      subst h
      exact fs_ret (by decide +kernel) rt_181
    · rw [if_neg c2] at h
      refine fs_icmp_ge_f (off := 65) (t := 83) (p := 21) (by decide +kernel) (by decide +kernel) rfl c2 ?_
      refine fs_aload_n (k := 0) (p := 22) (by decide +kernel) rfl rfl ?_
      refine fs_gfr (idx := 26) (ci := 10) (j := 12) (p := 25) (by decide +kernel) rfl (by decide +kernel) fo_215 (fr_a215_12) ?_
      refine fs_iload_n (k := 2) (p := 26) (by decide +kernel) rfl rfl ?_
      refine fs_aload_n (k := 0) (p := 27) (by decide +kernel) rfl rfl ?_
      refine fs_gfr (idx := 73) (ci := 10) (j := 31) (p := 30) (by decide +kernel) rfl (by decide +kernel) fo_215 (fr_a215_31) ?_
      refine fs_iload_n (k := 2) (p := 31) (by decide +kernel) rfl rfl ?_
      obtain ⟨v3, w4, h⟩ := fx_bd h
      refine fs_iaload (p := 32) (by decide +kernel) rfl w4 ?_
      refine fs_i2l (p := 33) (by decide +kernel) rfl ?_
      obtain ⟨t7, w8, h⟩ := fx_bd h
      refine fs_lastore (p := 34) (by decide +kernel) rfl w8 ?_
      refine fs_aload_n (k := 0) (p := 35) (by decide +kernel) rfl rfl ?_
      refine fs_iload_n (k := 1) (p := 36) (by decide +kernel) rfl rfl ?_
      refine fs_iload_n (k := 2) (p := 37) (by decide +kernel) rfl rfl ?_
      obtain ⟨q10, w9, h⟩ := fx_bd h
      refine fs_callV (idx := 297) (mj := 180) (ci := 10) (na := 2) (mx := 3) (p := 40) (args := [.ref 215, .int x1, .int x2]) (rest := []) (al2 := [some (.ref 215), some (.int x1), some (.int x2)]) (by decide +kernel) rfl (by decide +kernel) fo_215 rfl rfl rfl rfl rfl rfl rfl (by omega) (fun d' hd' => fe_180 (by omega) w9) rfl ?_
      refine fs_istore_n (k := 3) (p := 41) (M := 5) (al' := [some (.ref 215), some (.int x1), some (.int x2), some (.int (fx_b q10.1)), o4]) (by decide +kernel) rfl mx_181 rfl rfl ?_
      refine fs_iconst (n := 0) (p := 42) (by decide +kernel) rfl kc_0 ?_
      refine fs_istore (k := 4) (p := 44) (M := 5) (al' := [some (.ref 215), some (.int x1), some (.int x2), some (.int (fx_b q10.1)), some (.int (0 : Int32))]) (by decide +kernel) rfl mx_181 rfl rfl ?_
      exact fe_181_44 hd ih 100000 _ _ _ _ _ _ h
def fm_181 (x1 : Int32) (σ : fx_S) : Option (fx_S) :=
  (fm_177 x1 σ).bind fun q35 =>
  (fm_159 (8 : Int32) (9 : Int32) q35).bind fun q37 =>
  fm_181_15 100000 x1 (0 : Int32) q37
theorem fe_181 {d : Nat} (hd : 5 ≤ d) {x1 : Int32} {σ : fx_S} {q : fx_S} (h : fm_181 x1 σ = some q) : fx_E none 181 d 0 [some (.ref 215), some (.int x1), none, none, none] [] σ none q := by
  unfold fm_181 at h
  refine fs_aload_n (k := 0) (p := 1) (by decide +kernel) rfl rfl ?_
  refine fs_iload_n (k := 1) (p := 2) (by decide +kernel) rfl rfl ?_
  obtain ⟨q35, w34, h⟩ := fx_bd h
  refine fs_callV (idx := 290) (mj := 177) (ci := 10) (na := 1) (mx := 3) (p := 5) (args := [.ref 215, .int x1]) (rest := []) (al2 := [some (.ref 215), some (.int x1), none]) (by decide +kernel) rfl (by decide +kernel) fo_215 rfl rfl rfl rfl rfl rfl rfl (by omega) (fun d' hd' => fe_177 (by omega) w34) rfl ?_
  refine fs_aload_n (k := 0) (p := 6) (by decide +kernel) rfl rfl ?_
  refine fs_bipush (n := 8) (p := 8) (by decide +kernel) rfl kb_8 ?_
  refine fs_bipush (n := 9) (p := 10) (by decide +kernel) rfl kb_9 ?_
  obtain ⟨q37, w36, h⟩ := fx_bd h
  refine fs_callV (idx := 276) (mj := 159) (ci := 10) (na := 2) (mx := 4) (p := 13) (args := [.ref 215, .int (8 : Int32), .int (9 : Int32)]) (rest := []) (al2 := [some (.ref 215), some (.int (8 : Int32)), some (.int (9 : Int32)), none]) (by decide +kernel) rfl (by decide +kernel) fo_215 rfl rfl rfl rfl rfl rfl rfl (by omega) (fun d' hd' => fe_159 (by omega) w36) rfl ?_
  refine fs_iconst (n := 0) (p := 14) (by decide +kernel) rfl kc_0 ?_
  refine fs_istore_n (k := 2) (p := 15) (M := 5) (al' := [some (.ref 215), some (.int x1), some (.int (0 : Int32)), none, none]) (by decide +kernel) rfl mx_181 rfl rfl ?_
  exact fe_181_15 hd 100000 _ _ _ _ _ _ h

/-! ZoneSharesModel.rowSum(I)I -/
theorem mx_182 : iv_mx 182 = 4 := by decide +kernel
theorem rt_182 : iv_rt 182 = some .int := by decide +kernel
def fm_182_4 : Nat → Int32 → Int32 → Int32 → fx_S → Option (Int32 × fx_S)
  | 0, _, _, _, _ => none
  | n + 1, x1, x2, x3, σ =>
    if (σ.1 215 18) ≤ x3 then (
      some (x2, σ)) else (
      (fm_160 x1 x3 σ).bind fun q5 =>
      (fx_ldl q5.2 224 q5.1).bind fun v6 =>
      fm_182_4 n x1 (x2 + (v6).toInt32) (x3 + (1 : Int32)) q5.2)
theorem fe_182_4 {d : Nat} (hd : 1 ≤ d) : ∀ (n : Nat) (x1 : Int32) (x2 : Int32) (x3 : Int32) (σ : fx_S) (q : Int32 × fx_S), fm_182_4 n x1 x2 x3 σ = some q → fx_E none 182 d 4 [some (.ref 215), some (.int x1), some (.int x2), some (.int x3)] [] σ (some (.int q.1)) q.2 := by
  intro n
  induction n with
  | zero =>
    intro x1 x2 x3 σ q  h
    rw [fm_182_4] at h
    exact fx_no h
  | succ n ih =>
    intro x1 x2 x3 σ q  h
    rw [fm_182_4] at h
    refine fs_iload_n (k := 3) (p := 5) (by decide +kernel) rfl rfl ?_
    refine fs_aload_n (k := 0) (p := 6) (by decide +kernel) rfl rfl ?_
    refine fs_gfi (idx := 211) (ci := 10) (j := 18) (p := 9) (by decide +kernel) rfl (by decide +kernel) fo_215 ?_
    by_cases c3 : (σ.1 215 18) ≤ x3
    · rw [if_pos c3] at h
      refine fs_icmp_ge_t (off := 23) (t := 32) (by decide +kernel) (by decide +kernel) c3 ?_
      refine fs_iload_n (k := 2) (p := 33) (by decide +kernel) rfl rfl ?_
      have h := Option.some.inj h
      subst h
      exact fs_iret (by decide +kernel) rt_182
    · rw [if_neg c3] at h
      refine fs_icmp_ge_f (off := 23) (t := 32) (p := 12) (by decide +kernel) (by decide +kernel) rfl c3 ?_
      refine fs_iload_n (k := 2) (p := 13) (by decide +kernel) rfl rfl ?_
      refine fs_aload_n (k := 0) (p := 14) (by decide +kernel) rfl rfl ?_
      refine fs_gfr (idx := 36) (ci := 10) (j := 15) (p := 17) (by decide +kernel) rfl (by decide +kernel) fo_215 (fr_a215_15) ?_
      refine fs_iload_n (k := 1) (p := 18) (by decide +kernel) rfl rfl ?_
      refine fs_iload_n (k := 3) (p := 19) (by decide +kernel) rfl rfl ?_
      obtain ⟨q5, w4, h⟩ := fx_bd h
      refine fs_callS (idx := 214) (mj := 160) (na := 2) (mx := 2) (p := 22) (args := [.int x1, .int x3]) (rest := [.ref 224, .int x2]) (al2 := [some (.int x1), some (.int x3)]) (by decide +kernel) rfl (by decide +kernel) rfl rfl rfl rfl rfl rfl rfl (by omega) (fun d' hd' => fe_160 (by omega) w4) rfl ?_
      obtain ⟨v6, w7, h⟩ := fx_bd h
      refine fs_laload (p := 23) (by decide +kernel) rfl w7 ?_
      refine fs_l2i (p := 24) (by decide +kernel) rfl ?_
      refine fs_iadd (p := 25) (by decide +kernel) rfl ?_
      refine fs_istore_n (k := 2) (p := 26) (M := 4) (al' := [some (.ref 215), some (.int x1), some (.int (x2 + (v6).toInt32)), some (.int x3)]) (by decide +kernel) rfl mx_182 rfl rfl ?_
      refine fs_iinc (k := 3) (n := 1) (p := 29) (M := 4) (al' := [some (.ref 215), some (.int x1), some (.int (x2 + (v6).toInt32)), some (.int (x3 + (1 : Int32)))]) (by decide +kernel) rfl kc_1 mx_182 rfl rfl rfl ?_
      refine fs_goto (off := -25) (p := 4) (by decide +kernel) (by decide +kernel) ?_
      exact ih _ _ _ _ _ h
def fm_182 (x1 : Int32) (σ : fx_S) : Option (Int32 × fx_S) :=
  fm_182_4 100000 x1 (0 : Int32) (0 : Int32) σ
theorem fe_182 {d : Nat} (hd : 1 ≤ d) {x1 : Int32} {σ : fx_S} {q : Int32 × fx_S} (h : fm_182 x1 σ = some q) : fx_E none 182 d 0 [some (.ref 215), some (.int x1), none, none] [] σ (some (.int q.1)) q.2 := by
  unfold fm_182 at h
  refine fs_iconst (n := 0) (p := 1) (by decide +kernel) rfl kc_0 ?_
  refine fs_istore_n (k := 2) (p := 2) (M := 4) (al' := [some (.ref 215), some (.int x1), some (.int (0 : Int32)), none]) (by decide +kernel) rfl mx_182 rfl rfl ?_
  refine fs_iconst (n := 0) (p := 3) (by decide +kernel) rfl kc_0 ?_
  refine fs_istore_n (k := 3) (p := 4) (M := 4) (al' := [some (.ref 215), some (.int x1), some (.int (0 : Int32)), some (.int (0 : Int32))]) (by decide +kernel) rfl mx_182 rfl rfl ?_
  exact fe_182_4 hd 100000 _ _ _ _ _ h

/-! ZoneSharesModel.columnSum(I)I -/
theorem mx_183 : iv_mx 183 = 4 := by decide +kernel
theorem rt_183 : iv_rt 183 = some .int := by decide +kernel
def fm_183_4 : Nat → Int32 → Int32 → Int32 → fx_S → Option (Int32 × fx_S)
  | 0, _, _, _, _ => none
  | n + 1, x1, x2, x3, σ =>
    if (σ.1 215 17) ≤ x3 then (
      some (x2, σ)) else (
      (fm_160 x3 x1 σ).bind fun q5 =>
      (fx_ldl q5.2 224 q5.1).bind fun v6 =>
      fm_183_4 n x1 (x2 + (v6).toInt32) (x3 + (1 : Int32)) q5.2)
theorem fe_183_4 {d : Nat} (hd : 1 ≤ d) : ∀ (n : Nat) (x1 : Int32) (x2 : Int32) (x3 : Int32) (σ : fx_S) (q : Int32 × fx_S), fm_183_4 n x1 x2 x3 σ = some q → fx_E none 183 d 4 [some (.ref 215), some (.int x1), some (.int x2), some (.int x3)] [] σ (some (.int q.1)) q.2 := by
  intro n
  induction n with
  | zero =>
    intro x1 x2 x3 σ q  h
    rw [fm_183_4] at h
    exact fx_no h
  | succ n ih =>
    intro x1 x2 x3 σ q  h
    rw [fm_183_4] at h
    refine fs_iload_n (k := 3) (p := 5) (by decide +kernel) rfl rfl ?_
    refine fs_aload_n (k := 0) (p := 6) (by decide +kernel) rfl rfl ?_
    refine fs_gfi (idx := 208) (ci := 10) (j := 17) (p := 9) (by decide +kernel) rfl (by decide +kernel) fo_215 ?_
    by_cases c3 : (σ.1 215 17) ≤ x3
    · rw [if_pos c3] at h
      refine fs_icmp_ge_t (off := 23) (t := 32) (by decide +kernel) (by decide +kernel) c3 ?_
      refine fs_iload_n (k := 2) (p := 33) (by decide +kernel) rfl rfl ?_
      have h := Option.some.inj h
      subst h
      exact fs_iret (by decide +kernel) rt_183
    · rw [if_neg c3] at h
      refine fs_icmp_ge_f (off := 23) (t := 32) (p := 12) (by decide +kernel) (by decide +kernel) rfl c3 ?_
      refine fs_iload_n (k := 2) (p := 13) (by decide +kernel) rfl rfl ?_
      refine fs_aload_n (k := 0) (p := 14) (by decide +kernel) rfl rfl ?_
      refine fs_gfr (idx := 36) (ci := 10) (j := 15) (p := 17) (by decide +kernel) rfl (by decide +kernel) fo_215 (fr_a215_15) ?_
      refine fs_iload_n (k := 3) (p := 18) (by decide +kernel) rfl rfl ?_
      refine fs_iload_n (k := 1) (p := 19) (by decide +kernel) rfl rfl ?_
      obtain ⟨q5, w4, h⟩ := fx_bd h
      refine fs_callS (idx := 214) (mj := 160) (na := 2) (mx := 2) (p := 22) (args := [.int x3, .int x1]) (rest := [.ref 224, .int x2]) (al2 := [some (.int x3), some (.int x1)]) (by decide +kernel) rfl (by decide +kernel) rfl rfl rfl rfl rfl rfl rfl (by omega) (fun d' hd' => fe_160 (by omega) w4) rfl ?_
      obtain ⟨v6, w7, h⟩ := fx_bd h
      refine fs_laload (p := 23) (by decide +kernel) rfl w7 ?_
      refine fs_l2i (p := 24) (by decide +kernel) rfl ?_
      refine fs_iadd (p := 25) (by decide +kernel) rfl ?_
      refine fs_istore_n (k := 2) (p := 26) (M := 4) (al' := [some (.ref 215), some (.int x1), some (.int (x2 + (v6).toInt32)), some (.int x3)]) (by decide +kernel) rfl mx_183 rfl rfl ?_
      refine fs_iinc (k := 3) (n := 1) (p := 29) (M := 4) (al' := [some (.ref 215), some (.int x1), some (.int (x2 + (v6).toInt32)), some (.int (x3 + (1 : Int32)))]) (by decide +kernel) rfl kc_1 mx_183 rfl rfl rfl ?_
      refine fs_goto (off := -25) (p := 4) (by decide +kernel) (by decide +kernel) ?_
      exact ih _ _ _ _ _ h
def fm_183 (x1 : Int32) (σ : fx_S) : Option (Int32 × fx_S) :=
  fm_183_4 100000 x1 (0 : Int32) (0 : Int32) σ
theorem fe_183 {d : Nat} (hd : 1 ≤ d) {x1 : Int32} {σ : fx_S} {q : Int32 × fx_S} (h : fm_183 x1 σ = some q) : fx_E none 183 d 0 [some (.ref 215), some (.int x1), none, none] [] σ (some (.int q.1)) q.2 := by
  unfold fm_183 at h
  refine fs_iconst (n := 0) (p := 1) (by decide +kernel) rfl kc_0 ?_
  refine fs_istore_n (k := 2) (p := 2) (M := 4) (al' := [some (.ref 215), some (.int x1), some (.int (0 : Int32)), none]) (by decide +kernel) rfl mx_183 rfl rfl ?_
  refine fs_iconst (n := 0) (p := 3) (by decide +kernel) rfl kc_0 ?_
  refine fs_istore_n (k := 3) (p := 4) (M := 4) (al' := [some (.ref 215), some (.int x1), some (.int (0 : Int32)), some (.int (0 : Int32))]) (by decide +kernel) rfl mx_183 rfl rfl ?_
  exact fe_183_4 hd 100000 _ _ _ _ _ h

/-! ZoneSharesModel.tableSum()I -/
theorem mx_184 : iv_mx 184 = 3 := by decide +kernel
theorem rt_184 : iv_rt 184 = some .int := by decide +kernel
def fm_184_4 : Nat → Int32 → Int32 → fx_S → Option (Int32 × fx_S)
  | 0, _, _, _ => none
  | n + 1, x1, x2, σ =>
    if (σ.1 215 17) ≤ x2 then (
      some (x1, σ)) else (
      (fm_182 x2 σ).bind fun q5 =>
      fm_184_4 n (x1 + q5.1) (x2 + (1 : Int32)) q5.2)
theorem fe_184_4 {d : Nat} (hd : 2 ≤ d) : ∀ (n : Nat) (x1 : Int32) (x2 : Int32) (σ : fx_S) (q : Int32 × fx_S), fm_184_4 n x1 x2 σ = some q → fx_E none 184 d 4 [some (.ref 215), some (.int x1), some (.int x2)] [] σ (some (.int q.1)) q.2 := by
  intro n
  induction n with
  | zero =>
    intro x1 x2 σ q  h
    rw [fm_184_4] at h
    exact fx_no h
  | succ n ih =>
    intro x1 x2 σ q  h
    rw [fm_184_4] at h
    refine fs_iload_n (k := 2) (p := 5) (by decide +kernel) rfl rfl ?_
    refine fs_aload_n (k := 0) (p := 6) (by decide +kernel) rfl rfl ?_
    refine fs_gfi (idx := 208) (ci := 10) (j := 17) (p := 9) (by decide +kernel) rfl (by decide +kernel) fo_215 ?_
    by_cases c3 : (σ.1 215 17) ≤ x2
    · rw [if_pos c3] at h
      refine fs_icmp_ge_t (off := 17) (t := 26) (by decide +kernel) (by decide +kernel) c3 ?_
      refine fs_iload_n (k := 1) (p := 27) (by decide +kernel) rfl rfl ?_
      have h := Option.some.inj h
      subst h
      exact fs_iret (by decide +kernel) rt_184
    · rw [if_neg c3] at h
      refine fs_icmp_ge_f (off := 17) (t := 26) (p := 12) (by decide +kernel) (by decide +kernel) rfl c3 ?_
      refine fs_iload_n (k := 1) (p := 13) (by decide +kernel) rfl rfl ?_
      refine fs_aload_n (k := 0) (p := 14) (by decide +kernel) rfl rfl ?_
      refine fs_iload_n (k := 2) (p := 15) (by decide +kernel) rfl rfl ?_
      obtain ⟨q5, w4, h⟩ := fx_bd h
      refine fs_callV (idx := 300) (mj := 182) (ci := 10) (na := 1) (mx := 4) (p := 18) (args := [.ref 215, .int x2]) (rest := [.int x1]) (al2 := [some (.ref 215), some (.int x2), none, none]) (by decide +kernel) rfl (by decide +kernel) fo_215 rfl rfl rfl rfl rfl rfl rfl (by omega) (fun d' hd' => fe_182 (by omega) w4) rfl ?_
      refine fs_iadd (p := 19) (by decide +kernel) rfl ?_
      refine fs_istore_n (k := 1) (p := 20) (M := 3) (al' := [some (.ref 215), some (.int (x1 + q5.1)), some (.int x2)]) (by decide +kernel) rfl mx_184 rfl rfl ?_
      refine fs_iinc (k := 2) (n := 1) (p := 23) (M := 3) (al' := [some (.ref 215), some (.int (x1 + q5.1)), some (.int (x2 + (1 : Int32)))]) (by decide +kernel) rfl kc_1 mx_184 rfl rfl rfl ?_
      refine fs_goto (off := -19) (p := 4) (by decide +kernel) (by decide +kernel) ?_
      exact ih _ _ _ _ h
def fm_184 (σ : fx_S) : Option (Int32 × fx_S) :=
  fm_184_4 100000 (0 : Int32) (0 : Int32) σ
theorem fe_184 {d : Nat} (hd : 2 ≤ d) {σ : fx_S} {q : Int32 × fx_S} (h : fm_184 σ = some q) : fx_E none 184 d 0 [some (.ref 215), none, none] [] σ (some (.int q.1)) q.2 := by
  unfold fm_184 at h
  refine fs_iconst (n := 0) (p := 1) (by decide +kernel) rfl kc_0 ?_
  refine fs_istore_n (k := 1) (p := 2) (M := 3) (al' := [some (.ref 215), some (.int (0 : Int32)), none]) (by decide +kernel) rfl mx_184 rfl rfl ?_
  refine fs_iconst (n := 0) (p := 3) (by decide +kernel) rfl kc_0 ?_
  refine fs_istore_n (k := 2) (p := 4) (M := 3) (al' := [some (.ref 215), some (.int (0 : Int32)), some (.int (0 : Int32))]) (by decide +kernel) rfl mx_184 rfl rfl ?_
  exact fe_184_4 hd 100000 _ _ _ _ h

/-! ZoneSharesModel.districtAt(I)I -/
theorem mx_186 : iv_mx 186 = 2 := by decide +kernel
theorem rt_186 : iv_rt 186 = some .int := by decide +kernel
def fm_186 (x1 : Int32) (σ : fx_S) : Option (Int32 × fx_S) :=
  if ¬ x1 = (8 : Int32) then (
    (fx_ld σ 216 ((44 : Int32) + x1)).bind fun v8 =>
    some (v8, σ)) else (
    some ((4 : Int32), σ))
theorem fe_186 {d : Nat} (hd : 0 ≤ d) {x1 : Int32} {σ : fx_S} {q : Int32 × fx_S} (h : fm_186 x1 σ = some q) : fx_E none 186 d 0 [some (.ref 215), some (.int x1)] [] σ (some (.int q.1)) q.2 := by
  unfold fm_186 at h
  refine fs_iload_n (k := 1) (p := 1) (by decide +kernel) rfl rfl ?_
  refine fs_bipush (n := 8) (p := 3) (by decide +kernel) rfl kb_8 ?_
  by_cases c7 : ¬ x1 = (8 : Int32)
  · rw [if_pos c7] at h
    refine fs_icmp_ne_t (off := 7) (t := 10) (by decide +kernel) (by decide +kernel) c7 ?_
    refine fs_aload_n (k := 0) (p := 11) (by decide +kernel) rfl rfl ?_
    refine fs_gfr (idx := 9) (ci := 10) (j := 0) (p := 14) (by decide +kernel) rfl (by decide +kernel) fo_215 (fr_a215_0) ?_
    refine fs_bipush (n := 44) (p := 16) (by decide +kernel) rfl kb_44 ?_
    refine fs_iload_n (k := 1) (p := 17) (by decide +kernel) rfl rfl ?_
    refine fs_iadd (p := 18) (by decide +kernel) rfl ?_
    obtain ⟨v8, w9, h⟩ := fx_bd h
    refine fs_iaload (p := 19) (by decide +kernel) rfl w9 ?_
    have h := Option.some.inj h
    subst h
    exact fs_iret (by decide +kernel) rt_186
  · rw [if_neg c7] at h
    refine fs_icmp_ne_f (off := 7) (t := 10) (p := 6) (by decide +kernel) (by decide +kernel) rfl c7 ?_
    refine fs_iconst (n := 4) (p := 7) (by decide +kernel) rfl kc_4 ?_
    refine fs_goto (off := 12) (p := 19) (by decide +kernel) (by decide +kernel) ?_
    have h := Option.some.inj h
    subst h
    exact fs_iret (by decide +kernel) rt_186

/-! ZoneSharesModel.laysCoarse(I)V -/
theorem mx_187 : iv_mx 187 = 5 := by decide +kernel
theorem rt_187 : iv_rt 187 = none := by decide +kernel
def fm_187_91 (k_7 : Int32 → fx_S → Option (fx_S)) : Nat → Int32 → Int32 → fx_S → Option (fx_S)
  | 0, _, _, _ => none
  | n + 1, x2, x4, σ =>
    if (4 : Int32) < x4 then (
      k_7 (x2 + (1 : Int32)) σ) else (
      (fm_160 x2 x4 σ).bind fun q4 =>
      (fx_ld q4.2 237 x4).bind fun v5 =>
      (fx_st q4.2 222 q4.1 v5).bind fun t8 =>
      fm_187_91 k_7 n x2 (x4 + (1 : Int32)) t8)
theorem fe_187_91 {d : Nat} (hd : 6 ≤ d) {k_7 : Int32 → fx_S → Option (fx_S)} (hk_7 : ∀ (x2 : Int32) (o1 : Option Value) (o3 : Option Value) (o4 : Option Value) (σ : fx_S) (q : fx_S), k_7 x2 σ = some q → fx_E none 187 d 7 [some (.ref 215), o1, some (.int x2), o3, o4] [] σ none q) : ∀ (n : Nat) (x2 : Int32) (x4 : Int32) (o1 : Option Value) (σ : fx_S) (q : fx_S), fm_187_91 k_7 n x2 x4 σ = some q → fx_E none 187 d 91 [some (.ref 215), o1, some (.int x2), some (.ref 237), some (.int x4)] [] σ none q := by
  intro n
  induction n with
  | zero =>
    intro x2 x4 o1 σ q  h
    rw [fm_187_91] at h
    exact fx_no h
  | succ n ih =>
    intro x2 x4 o1 σ q  h
    rw [fm_187_91] at h
    refine fs_iload (k := 4) (p := 93) (by decide +kernel) rfl rfl ?_
    refine fs_iconst (n := 4) (p := 94) (by decide +kernel) rfl kc_4 ?_
    by_cases c2 : (4 : Int32) < x4
    · rw [if_pos c2] at h
      refine fs_icmp_gt_t (off := 24) (t := 118) (by decide +kernel) (by decide +kernel) c2 ?_
      refine fs_iinc (k := 2) (n := 1) (p := 121) (M := 5) (al' := [some (.ref 215), (fx_kl o1), some (.int (x2 + (1 : Int32))), some (.ref 237), some (.int x4)]) (by decide +kernel) rfl kc_1 mx_187 rfl rfl rfl ?_
      refine fs_goto (off := -114) (p := 7) (by decide +kernel) (by decide +kernel) ?_
      exact hk_7 _ _ _ _ _ _ h
    · rw [if_neg c2] at h
      refine fs_icmp_gt_f (off := 24) (t := 118) (p := 97) (by decide +kernel) (by decide +kernel) rfl c2 ?_
      refine fs_aload_n (k := 0) (p := 98) (by decide +kernel) rfl rfl ?_
      refine fs_gfr (idx := 30) (ci := 10) (j := 13) (p := 101) (by decide +kernel) rfl (by decide +kernel) fo_215 (fr_a215_13) ?_
      refine fs_iload_n (k := 2) (p := 102) (by decide +kernel) rfl rfl ?_
      refine fs_iload (k := 4) (p := 104) (by decide +kernel) rfl rfl ?_
      obtain ⟨q4, w3, h⟩ := fx_bd h
      refine fs_callS (idx := 214) (mj := 160) (na := 2) (mx := 2) (p := 107) (args := [.int x2, .int x4]) (rest := [.ref 222]) (al2 := [some (.int x2), some (.int x4)]) (by decide +kernel) rfl (by decide +kernel) rfl rfl rfl rfl rfl rfl rfl (by omega) (fun d' hd' => fe_160 (by omega) w3) rfl ?_
      refine fs_aload_n (k := 3) (p := 108) (by decide +kernel) rfl rfl ?_
      refine fs_iload (k := 4) (p := 110) (by decide +kernel) rfl rfl ?_
      obtain ⟨v5, w6, h⟩ := fx_bd h
      refine fs_iaload (p := 111) (by decide +kernel) rfl w6 ?_
      obtain ⟨t8, w9, h⟩ := fx_bd h
      refine fs_iastore (p := 112) (by decide +kernel) rfl w9 ?_
      refine fs_iinc (k := 4) (n := 1) (p := 115) (M := 5) (al' := [some (.ref 215), o1, some (.int x2), some (.ref 237), some (.int (x4 + (1 : Int32)))]) (by decide +kernel) rfl kc_1 mx_187 rfl rfl rfl ?_
      refine fs_goto (off := -24) (p := 91) (by decide +kernel) (by decide +kernel) ?_
      exact ih _ _ _ _ _ h
def fm_187_41 (k_7 : Int32 → fx_S → Option (fx_S)) : Nat → Int32 → Int32 → fx_S → Option (fx_S)
  | 0, _, _, _ => none
  | n + 1, x2, x4, σ =>
    if (9 : Int32) ≤ x4 then (
      fm_187_91 k_7 100000 x2 (0 : Int32) σ) else (
      (fm_186 x4 σ).bind fun q4 =>
      (fx_ld q4.2 237 q4.1).bind fun v5 =>
      (fm_160 x2 x4 q4.2).bind fun q9 =>
      (fx_ld q9.2 222 q9.1).bind fun v10 =>
      (fx_st q9.2 237 q4.1 (v5 + v10)).bind fun t13 =>
      (fm_160 x2 x4 t13).bind fun q16 =>
      (fx_st q16.2 222 q16.1 (0 : Int32)).bind fun t17 =>
      fm_187_41 k_7 n x2 (x4 + (1 : Int32)) t17)
theorem fe_187_41 {d : Nat} (hd : 6 ≤ d) {k_7 : Int32 → fx_S → Option (fx_S)} (hk_7 : ∀ (x2 : Int32) (o1 : Option Value) (o3 : Option Value) (o4 : Option Value) (σ : fx_S) (q : fx_S), k_7 x2 σ = some q → fx_E none 187 d 7 [some (.ref 215), o1, some (.int x2), o3, o4] [] σ none q) : ∀ (n : Nat) (x2 : Int32) (x4 : Int32) (o1 : Option Value) (σ : fx_S) (q : fx_S), fm_187_41 k_7 n x2 x4 σ = some q → fx_E none 187 d 41 [some (.ref 215), o1, some (.int x2), some (.ref 237), some (.int x4)] [] σ none q := by
  intro n
  induction n with
  | zero =>
    intro x2 x4 o1 σ q  h
    rw [fm_187_41] at h
    exact fx_no h
  | succ n ih =>
    intro x2 x4 o1 σ q  h
    rw [fm_187_41] at h
    refine fs_iload (k := 4) (p := 43) (by decide +kernel) rfl rfl ?_
    refine fs_bipush (n := 9) (p := 45) (by decide +kernel) rfl kb_9 ?_
    by_cases c2 : (9 : Int32) ≤ x4
    · rw [if_pos c2] at h
      refine fs_icmp_ge_t (off := 43) (t := 88) (by decide +kernel) (by decide +kernel) c2 ?_
      refine fs_iconst (n := 0) (p := 89) (by decide +kernel) rfl kc_0 ?_
      refine fs_istore (k := 4) (p := 91) (M := 5) (al' := [some (.ref 215), o1, some (.int x2), some (.ref 237), some (.int (0 : Int32))]) (by decide +kernel) rfl mx_187 rfl rfl ?_
      exact fe_187_91 hd hk_7 100000 _ _ _ _ _ h
    · rw [if_neg c2] at h
      refine fs_icmp_ge_f (off := 43) (t := 88) (p := 48) (by decide +kernel) (by decide +kernel) rfl c2 ?_
      refine fs_aload_n (k := 3) (p := 49) (by decide +kernel) rfl rfl ?_
      refine fs_aload_n (k := 0) (p := 50) (by decide +kernel) rfl rfl ?_
      refine fs_iload (k := 4) (p := 52) (by decide +kernel) rfl rfl ?_
      obtain ⟨q4, w3, h⟩ := fx_bd h
      refine fs_callV (idx := 324) (mj := 186) (ci := 10) (na := 1) (mx := 2) (p := 55) (args := [.ref 215, .int x4]) (rest := [.ref 237]) (al2 := [some (.ref 215), some (.int x4)]) (by decide +kernel) rfl (by decide +kernel) fo_215 rfl rfl rfl rfl rfl rfl rfl (by omega) (fun d' hd' => fe_186 (by omega) w3) rfl ?_
      refine fs_dup2 (p := 56) (by decide +kernel) rfl rfl rfl ?_
      obtain ⟨v5, w6, h⟩ := fx_bd h
      refine fs_iaload (p := 57) (by decide +kernel) rfl w6 ?_
      refine fs_aload_n (k := 0) (p := 58) (by decide +kernel) rfl rfl ?_
      refine fs_gfr (idx := 30) (ci := 10) (j := 13) (p := 61) (by decide +kernel) rfl (by decide +kernel) fo_215 (fr_a215_13) ?_
      refine fs_iload_n (k := 2) (p := 62) (by decide +kernel) rfl rfl ?_
      refine fs_iload (k := 4) (p := 64) (by decide +kernel) rfl rfl ?_
      obtain ⟨q9, w8, h⟩ := fx_bd h
      refine fs_callS (idx := 214) (mj := 160) (na := 2) (mx := 2) (p := 67) (args := [.int x2, .int x4]) (rest := [.ref 222, .int v5, .int q4.1, .ref 237]) (al2 := [some (.int x2), some (.int x4)]) (by decide +kernel) rfl (by decide +kernel) rfl rfl rfl rfl rfl rfl rfl (by omega) (fun d' hd' => fe_160 (by omega) w8) rfl ?_
      obtain ⟨v10, w11, h⟩ := fx_bd h
      refine fs_iaload (p := 68) (by decide +kernel) rfl w11 ?_
      refine fs_iadd (p := 69) (by decide +kernel) rfl ?_
      obtain ⟨t13, w14, h⟩ := fx_bd h
      refine fs_iastore (p := 70) (by decide +kernel) rfl w14 ?_
      refine fs_aload_n (k := 0) (p := 71) (by decide +kernel) rfl rfl ?_
      refine fs_gfr (idx := 30) (ci := 10) (j := 13) (p := 74) (by decide +kernel) rfl (by decide +kernel) fo_215 (fr_a215_13) ?_
      refine fs_iload_n (k := 2) (p := 75) (by decide +kernel) rfl rfl ?_
      refine fs_iload (k := 4) (p := 77) (by decide +kernel) rfl rfl ?_
      obtain ⟨q16, w15, h⟩ := fx_bd h
      refine fs_callS (idx := 214) (mj := 160) (na := 2) (mx := 2) (p := 80) (args := [.int x2, .int x4]) (rest := [.ref 222]) (al2 := [some (.int x2), some (.int x4)]) (by decide +kernel) rfl (by decide +kernel) rfl rfl rfl rfl rfl rfl rfl (by omega) (fun d' hd' => fe_160 (by omega) w15) rfl ?_
      refine fs_iconst (n := 0) (p := 81) (by decide +kernel) rfl kc_0 ?_
      obtain ⟨t17, w18, h⟩ := fx_bd h
      refine fs_iastore (p := 82) (by decide +kernel) rfl w18 ?_
      refine fs_iinc (k := 4) (n := 1) (p := 85) (M := 5) (al' := [some (.ref 215), o1, some (.int x2), some (.ref 237), some (.int (x4 + (1 : Int32)))]) (by decide +kernel) rfl kc_1 mx_187 rfl rfl rfl ?_
      refine fs_goto (off := -44) (p := 41) (by decide +kernel) (by decide +kernel) ?_
      exact ih _ _ _ _ _ h
def fm_187_21 (k_7 : Int32 → fx_S → Option (fx_S)) : Nat → Int32 → Int32 → fx_S → Option (fx_S)
  | 0, _, _, _ => none
  | n + 1, x2, x4, σ =>
    if (4 : Int32) < x4 then (
      fm_187_41 k_7 100000 x2 (0 : Int32) σ) else (
      (fx_st σ 237 x4 (0 : Int32)).bind fun t3 =>
      fm_187_21 k_7 n x2 (x4 + (1 : Int32)) t3)
theorem fe_187_21 {d : Nat} (hd : 6 ≤ d) {k_7 : Int32 → fx_S → Option (fx_S)} (hk_7 : ∀ (x2 : Int32) (o1 : Option Value) (o3 : Option Value) (o4 : Option Value) (σ : fx_S) (q : fx_S), k_7 x2 σ = some q → fx_E none 187 d 7 [some (.ref 215), o1, some (.int x2), o3, o4] [] σ none q) : ∀ (n : Nat) (x2 : Int32) (x4 : Int32) (o1 : Option Value) (σ : fx_S) (q : fx_S), fm_187_21 k_7 n x2 x4 σ = some q → fx_E none 187 d 21 [some (.ref 215), o1, some (.int x2), some (.ref 237), some (.int x4)] [] σ none q := by
  intro n
  induction n with
  | zero =>
    intro x2 x4 o1 σ q  h
    rw [fm_187_21] at h
    exact fx_no h
  | succ n ih =>
    intro x2 x4 o1 σ q  h
    rw [fm_187_21] at h
    refine fs_iload (k := 4) (p := 23) (by decide +kernel) rfl rfl ?_
    refine fs_iconst (n := 4) (p := 24) (by decide +kernel) rfl kc_4 ?_
    by_cases c2 : (4 : Int32) < x4
    · rw [if_pos c2] at h
      refine fs_icmp_gt_t (off := 14) (t := 38) (by decide +kernel) (by decide +kernel) c2 ?_
      refine fs_iconst (n := 0) (p := 39) (by decide +kernel) rfl kc_0 ?_
      refine fs_istore (k := 4) (p := 41) (M := 5) (al' := [some (.ref 215), o1, some (.int x2), some (.ref 237), some (.int (0 : Int32))]) (by decide +kernel) rfl mx_187 rfl rfl ?_
      exact fe_187_41 hd hk_7 100000 _ _ _ _ _ h
    · rw [if_neg c2] at h
      refine fs_icmp_gt_f (off := 14) (t := 38) (p := 27) (by decide +kernel) (by decide +kernel) rfl c2 ?_
      refine fs_aload_n (k := 3) (p := 28) (by decide +kernel) rfl rfl ?_
      refine fs_iload (k := 4) (p := 30) (by decide +kernel) rfl rfl ?_
      refine fs_iconst (n := 0) (p := 31) (by decide +kernel) rfl kc_0 ?_
      obtain ⟨t3, w4, h⟩ := fx_bd h
      refine fs_iastore (p := 32) (by decide +kernel) rfl w4 ?_
      refine fs_iinc (k := 4) (n := 1) (p := 35) (M := 5) (al' := [some (.ref 215), o1, some (.int x2), some (.ref 237), some (.int (x4 + (1 : Int32)))]) (by decide +kernel) rfl kc_1 mx_187 rfl rfl rfl ?_
      refine fs_goto (off := -14) (p := 21) (by decide +kernel) (by decide +kernel) ?_
      exact ih _ _ _ _ _ h
def fm_187_7 : Nat → Int32 → fx_S → Option (fx_S)
  | 0, _, _ => none
  | n + 1, x2, σ =>
    if (8 : Int32) ≤ x2 then (
      some (fx_w1 σ 215 18 (5 : Int32))) else (
      fm_187_21 (fm_187_7 n) 100000 x2 (0 : Int32) σ)
theorem fe_187_7 {d : Nat} (hd : 6 ≤ d) : ∀ (n : Nat) (x2 : Int32) (o1 : Option Value) (o3 : Option Value) (o4 : Option Value) (σ : fx_S) (q : fx_S), fm_187_7 n x2 σ = some q → fx_E none 187 d 7 [some (.ref 215), o1, some (.int x2), o3, o4] [] σ none q := by
  intro n
  induction n with
  | zero =>
    intro x2 o1 o3 o4 σ q  h
    rw [fm_187_7] at h
    exact fx_no h
  | succ n ih =>
    intro x2 o1 o3 o4 σ q  h
    rw [fm_187_7] at h
    refine fs_iload_n (k := 2) (p := 8) (by decide +kernel) rfl rfl ?_
    refine fs_bipush (n := 8) (p := 10) (by decide +kernel) rfl kb_8 ?_
    by_cases c2 : (8 : Int32) ≤ x2
    · rw [if_pos c2] at h
      refine fs_icmp_ge_t (off := 114) (t := 124) (by decide +kernel) (by decide +kernel) c2 ?_
      refine fs_aload_n (k := 0) (p := 125) (by decide +kernel) rfl rfl ?_
      refine fs_iconst (n := 5) (p := 126) (by decide +kernel) rfl kc_5 ?_
      refine fs_pfi (idx := 211) (ci := 10) (j := 18) (p := 129) (by decide +kernel) rfl (by decide +kernel) (by decide +kernel) fo_215 (fx_oki _ (by decide +kernel)) ?_
      have h := Option.some.inj h
      subst h
      exact fs_ret (by decide +kernel) rt_187
    · rw [if_neg c2] at h
      refine fs_icmp_ge_f (off := 114) (t := 124) (p := 13) (by decide +kernel) (by decide +kernel) rfl c2 ?_
      refine fs_aload_n (k := 0) (p := 14) (by decide +kernel) rfl rfl ?_
      refine fs_gfr (idx := 76) (ci := 10) (j := 32) (p := 17) (by decide +kernel) rfl (by decide +kernel) fo_215 (fr_a215_32) ?_
      refine fs_astore_n (k := 3) (p := 18) (M := 5) (al' := [some (.ref 215), o1, some (.int x2), some (.ref 237), o4]) (by decide +kernel) rfl mx_187 rfl rfl ?_
      refine fs_iconst (n := 0) (p := 19) (by decide +kernel) rfl kc_0 ?_
      refine fs_istore (k := 4) (p := 21) (M := 5) (al' := [some (.ref 215), o1, some (.int x2), some (.ref 237), some (.int (0 : Int32))]) (by decide +kernel) rfl mx_187 rfl rfl ?_
      exact fe_187_21 hd ih 100000 _ _ _ _ _ h
def fm_187 (x1 : Int32) (σ : fx_S) : Option (fx_S) :=
  (fm_181 x1 σ).bind fun q42 =>
  fm_187_7 100000 (0 : Int32) q42
theorem fe_187 {d : Nat} (hd : 6 ≤ d) {x1 : Int32} {σ : fx_S} {q : fx_S} (h : fm_187 x1 σ = some q) : fx_E none 187 d 0 [some (.ref 215), some (.int x1), none, none, none] [] σ none q := by
  unfold fm_187 at h
  refine fs_aload_n (k := 0) (p := 1) (by decide +kernel) rfl rfl ?_
  refine fs_iload_n (k := 1) (p := 2) (by decide +kernel) rfl rfl ?_
  obtain ⟨q42, w41, h⟩ := fx_bd h
  refine fs_callV (idx := 312) (mj := 181) (ci := 10) (na := 1) (mx := 5) (p := 5) (args := [.ref 215, .int x1]) (rest := []) (al2 := [some (.ref 215), some (.int x1), none, none, none]) (by decide +kernel) rfl (by decide +kernel) fo_215 rfl rfl rfl rfl rfl rfl rfl (by omega) (fun d' hd' => fe_181 (by omega) w41) rfl ?_
  refine fs_iconst (n := 0) (p := 6) (by decide +kernel) rfl kc_0 ?_
  refine fs_istore_n (k := 2) (p := 7) (M := 5) (al' := [some (.ref 215), some (.int x1), some (.int (0 : Int32)), none, none]) (by decide +kernel) rfl mx_187 rfl rfl ?_
  exact fe_187_7 hd 100000 _ _ _ _ _ _ h

/-! ZoneSharesModel.laysWay(IIZ)V -/
theorem mx_190 : iv_mx 190 = 5 := by decide +kernel
theorem rt_190 : iv_rt 190 = none := by decide +kernel
def fm_190_43 (k_3 : Int32 → Int32 → Int32 → Int32 → fx_S → Option (fx_S)) (x1 : Int32) (x2 : Int32) (x3 : Int32) (x4 : Int32) (s1 : Int32) (s2 : Int32) (σ : fx_S) : Option (fx_S) :=
  (fx_st σ 222 s1 s2).bind fun t1 =>
  k_3 x1 x2 x3 (x4 + (1 : Int32)) t1
theorem fe_190_43 {d : Nat} (hd : 3 ≤ d) {k_3 : Int32 → Int32 → Int32 → Int32 → fx_S → Option (fx_S)} (hk_3 : ∀ (x1 : Int32) (x2 : Int32) (x3 : Int32) (x4 : Int32) (σ : fx_S) (q : fx_S), k_3 x1 x2 x3 x4 σ = some q → fx_E none 190 d 3 [some (.ref 215), some (.int x1), some (.int x2), some (.int x3), some (.int x4)] [] σ none q) (x1 : Int32) (x2 : Int32) (x3 : Int32) (x4 : Int32) (s1 : Int32) (s2 : Int32) (σ : fx_S) (q : fx_S) (h : fm_190_43 k_3  x1 x2 x3 x4 s1 s2 σ = some q) : fx_E none 190 d 43 [some (.ref 215), some (.int x1), some (.int x2), some (.int x3), some (.int x4)] [.int s2, .int s1, .ref 222] σ none q := by
  unfold fm_190_43 at h
  obtain ⟨t1, w2, h⟩ := fx_bd h
  refine fs_iastore (p := 44) (by decide +kernel) rfl w2 ?_
  refine fs_iinc (k := 4) (n := 1) (p := 47) (M := 5) (al' := [some (.ref 215), some (.int x1), some (.int x2), some (.int x3), some (.int (x4 + (1 : Int32)))]) (by decide +kernel) rfl kc_1 mx_190 rfl rfl rfl ?_
  refine fs_goto (off := -44) (p := 3) (by decide +kernel) (by decide +kernel) ?_
  exact hk_3 _ _ _ _ _ _ h
def fm_190_3 : Nat → Int32 → Int32 → Int32 → Int32 → fx_S → Option (fx_S)
  | 0, _, _, _, _, _ => none
  | n + 1, x1, x2, x3, x4, σ =>
    if (8 : Int32) ≤ x4 then (
      some σ) else (
      (fm_160 x2 x4 σ).bind fun q4 =>
      (fm_186 x4 q4.2).bind fun q6 =>
      if ¬ q6.1 = x2 then (
        fm_190_43 (fm_190_3 n) x1 x2 x3 x4 q4.1 (0 : Int32) q6.2) else (
        (fm_157 x1 (-1 : Int32) x4 x3 q6.2).bind fun q11 =>
        fm_190_43 (fm_190_3 n) x1 x2 x3 x4 q4.1 q11.1 q11.2))
theorem fe_190_3 {d : Nat} (hd : 3 ≤ d) : ∀ (n : Nat) (x1 : Int32) (x2 : Int32) (x3 : Int32) (x4 : Int32) (σ : fx_S) (q : fx_S), fm_190_3 n x1 x2 x3 x4 σ = some q → fx_E none 190 d 3 [some (.ref 215), some (.int x1), some (.int x2), some (.int x3), some (.int x4)] [] σ none q := by
  intro n
  induction n with
  | zero =>
    intro x1 x2 x3 x4 σ q  h
    rw [fm_190_3] at h
    exact fx_no h
  | succ n ih =>
    intro x1 x2 x3 x4 σ q  h
    rw [fm_190_3] at h
    refine fs_iload (k := 4) (p := 5) (by decide +kernel) rfl rfl ?_
    refine fs_bipush (n := 8) (p := 7) (by decide +kernel) rfl kb_8 ?_
    by_cases c2 : (8 : Int32) ≤ x4
    · rw [if_pos c2] at h
      refine fs_icmp_ge_t (off := 43) (t := 50) (by decide +kernel) (by decide +kernel) c2 ?_
      have h := Option.some.inj h
      subst h
      exact fs_ret (by decide +kernel) rt_190
    · rw [if_neg c2] at h
      refine fs_icmp_ge_f (off := 43) (t := 50) (p := 10) (by decide +kernel) (by decide +kernel) rfl c2 ?_
      refine fs_aload_n (k := 0) (p := 11) (by decide +kernel) rfl rfl ?_
      refine fs_gfr (idx := 30) (ci := 10) (j := 13) (p := 14) (by decide +kernel) rfl (by decide +kernel) fo_215 (fr_a215_13) ?_
      refine fs_iload_n (k := 2) (p := 15) (by decide +kernel) rfl rfl ?_
      refine fs_iload (k := 4) (p := 17) (by decide +kernel) rfl rfl ?_
      obtain ⟨q4, w3, h⟩ := fx_bd h
      refine fs_callS (idx := 214) (mj := 160) (na := 2) (mx := 2) (p := 20) (args := [.int x2, .int x4]) (rest := [.ref 222]) (al2 := [some (.int x2), some (.int x4)]) (by decide +kernel) rfl (by decide +kernel) rfl rfl rfl rfl rfl rfl rfl (by omega) (fun d' hd' => fe_160 (by omega) w3) rfl ?_
      refine fs_aload_n (k := 0) (p := 21) (by decide +kernel) rfl rfl ?_
      refine fs_iload (k := 4) (p := 23) (by decide +kernel) rfl rfl ?_
      obtain ⟨q6, w5, h⟩ := fx_bd h
      refine fs_callV (idx := 324) (mj := 186) (ci := 10) (na := 1) (mx := 2) (p := 26) (args := [.ref 215, .int x4]) (rest := [.int q4.1, .ref 222]) (al2 := [some (.ref 215), some (.int x4)]) (by decide +kernel) rfl (by decide +kernel) fo_215 rfl rfl rfl rfl rfl rfl rfl (by omega) (fun d' hd' => fe_186 (by omega) w5) rfl ?_
      refine fs_iload_n (k := 2) (p := 27) (by decide +kernel) rfl rfl ?_
      by_cases c9 : ¬ q6.1 = x2
      · rw [if_pos c9] at h
        refine fs_icmp_ne_t (off := 15) (t := 42) (by decide +kernel) (by decide +kernel) c9 ?_
        refine fs_iconst (n := 0) (p := 43) (by decide +kernel) rfl kc_0 ?_
        exact fe_190_43 hd ih _ _ _ _ _ _ _ _ h
      · rw [if_neg c9] at h
        refine fs_icmp_ne_f (off := 15) (t := 42) (p := 30) (by decide +kernel) (by decide +kernel) rfl c9 ?_
        refine fs_aload_n (k := 0) (p := 31) (by decide +kernel) rfl rfl ?_
        refine fs_iload_n (k := 1) (p := 32) (by decide +kernel) rfl rfl ?_
        refine fs_iconst (n := -1) (p := 33) (by decide +kernel) rfl kc_m1 ?_
        refine fs_iload (k := 4) (p := 35) (by decide +kernel) rfl rfl ?_
        refine fs_iload_n (k := 3) (p := 36) (by decide +kernel) rfl rfl ?_
        obtain ⟨q11, w10, h⟩ := fx_bd h
        refine fs_callV (idx := 293) (mj := 157) (ci := 10) (na := 4) (mx := 8) (p := 39) (args := [.ref 215, .int x1, .int (-1 : Int32), .int x4, .int x3]) (rest := [.int q4.1, .ref 222]) (al2 := [some (.ref 215), some (.int x1), some (.int (-1 : Int32)), some (.int x4), some (.int x3), none, none, none]) (by decide +kernel) rfl (by decide +kernel) fo_215 rfl rfl rfl rfl rfl rfl rfl (by omega) (fun d' hd' => fe_157 (by omega) w10) rfl ?_
        refine fs_goto (off := 4) (p := 43) (by decide +kernel) (by decide +kernel) ?_
        exact fe_190_43 hd ih _ _ _ _ _ _ _ _ h
def fm_190 (x1 : Int32) (x2 : Int32) (x3 : Int32) (σ : fx_S) : Option (fx_S) :=
  fm_190_3 100000 x1 x2 x3 (0 : Int32) σ
theorem fe_190 {d : Nat} (hd : 3 ≤ d) {x1 : Int32} {x2 : Int32} {x3 : Int32} {σ : fx_S} {q : fx_S} (h : fm_190 x1 x2 x3 σ = some q) : fx_E none 190 d 0 [some (.ref 215), some (.int x1), some (.int x2), some (.int x3), none] [] σ none q := by
  unfold fm_190 at h
  refine fs_iconst (n := 0) (p := 1) (by decide +kernel) rfl kc_0 ?_
  refine fs_istore (k := 4) (p := 3) (M := 5) (al' := [some (.ref 215), some (.int x1), some (.int x2), some (.int x3), some (.int (0 : Int32))]) (by decide +kernel) rfl mx_190 rfl rfl ?_
  exact fe_190_3 hd 100000 _ _ _ _ _ _ h

/-! ZoneSharesModel.lowest(JJI)J -/
theorem mx_194 : iv_mx 194 = 7 := by decide +kernel
theorem rt_194 : iv_rt 194 = some .long := by decide +kernel
def fm_194 (x0 : Int64) (x2 : Int64) (x4 : Int32) (σ : fx_S) : Option (Int64 × fx_S) :=
  (fm_164 x0 x2 σ).bind fun q10 =>
  if ¬ x4 = 0 then (
    if ¬ q10.1 = 0 then (
    some ((x2 / q10.1), q10.2)) else none) else (
    if ¬ q10.1 = 0 then (
    some ((x0 / q10.1), q10.2)) else none)
theorem fe_194 {d : Nat} (hd : 1 ≤ d) {x0 : Int64} {x2 : Int64} {x4 : Int32} {σ : fx_S} {q : Int64 × fx_S} (h : fm_194 x0 x2 x4 σ = some q) : fx_E none 194 d 0 [some (.long x0), none, some (.long x2), none, some (.int x4), none, none] [] σ (some (.long q.1)) q.2 := by
  unfold fm_194 at h
  refine fs_lload_n (k := 0) (p := 1) (by decide +kernel) rfl rfl ?_
  refine fs_lload_n (k := 2) (p := 2) (by decide +kernel) rfl rfl ?_
  obtain ⟨q10, w9, h⟩ := fx_bd h
  refine fs_callS (idx := 225) (mj := 164) (na := 2) (mx := 10) (p := 5) (args := [.long x0, .long x2]) (rest := []) (al2 := [some (.long x0), none, some (.long x2), none, none, none, none, none, none, none]) (by decide +kernel) rfl (by decide +kernel) rfl rfl rfl rfl rfl rfl rfl (by omega) (fun d' hd' => fe_164 (by omega) w9) rfl ?_
  refine fs_lstore (k := 5) (p := 7) (M := 7) (al' := [some (.long x0), none, some (.long x2), none, some (.int x4), some (.long q10.1), none]) (by decide +kernel) rfl mx_194 rfl rfl ?_
  refine fs_iload (k := 4) (p := 9) (by decide +kernel) rfl rfl ?_
  by_cases c12 : ¬ x4 = 0
  · rw [if_pos c12] at h
    refine fs_if_ne_t (off := 10) (t := 19) (by decide +kernel) (by decide +kernel) c12 ?_
    refine fs_lload_n (k := 2) (p := 20) (by decide +kernel) rfl rfl ?_
    refine fs_lload (k := 5) (p := 22) (by decide +kernel) rfl rfl ?_
    obtain ⟨z14, h⟩ := fx_gd h
    refine fs_ldiv (p := 23) (by decide +kernel) rfl z14 ?_
    have h := Option.some.inj h
    subst h
    exact fs_lret (by decide +kernel) rt_194
  · rw [if_neg c12] at h
    refine fs_if_ne_f (off := 10) (t := 19) (p := 12) (by decide +kernel) (by decide +kernel) rfl c12 ?_
    refine fs_lload_n (k := 0) (p := 13) (by decide +kernel) rfl rfl ?_
    refine fs_lload (k := 5) (p := 15) (by decide +kernel) rfl rfl ?_
    obtain ⟨z16, h⟩ := fx_gd h
    refine fs_ldiv (p := 16) (by decide +kernel) rfl z16 ?_
    refine fs_goto (off := 7) (p := 23) (by decide +kernel) (by decide +kernel) ?_
    have h := Option.some.inj h
    subst h
    exact fs_lret (by decide +kernel) rt_194

/-! ZoneSharesModel.share(IIII)I -/
theorem mx_195 : iv_mx 195 = 6 := by decide +kernel
theorem rt_195 : iv_rt 195 = some .int := by decide +kernel
def fm_195 (x1 : Int32) (x2 : Int32) (x3 : Int32) (x4 : Int32) (σ : fx_S) : Option (Int32 × fx_S) :=
  (fm_150 σ).bind fun q33 =>
  if (fx_b q33.1) = 0 then (
    some ((-1 : Int32), q33.2)) else (
    (fm_148 x1 q33.2).bind fun q36 =>
    if (fx_b q36.1) = 0 then (
      some ((-1 : Int32), q36.2)) else (
      (fm_130 (x2).toInt64 (0 : Int64) (7 : Int64) q36.2).bind fun q40 =>
      if (fx_b q40.1) = 0 then (
        some ((-1 : Int32), q40.2)) else (
        (fm_153 (0 : Int32) x2 q40.2).bind fun q43 =>
        if (fx_b q43.1) = 0 then (
          some ((-1 : Int32), q43.2)) else (
          (fm_130 (x3).toInt64 (0 : Int64) (8 : Int64) q43.2).bind fun q47 =>
          if (fx_b q47.1) = 0 then (
            some ((-1 : Int32), q47.2)) else (
            (fm_130 (x4).toInt64 (0 : Int64) (1 : Int64) q47.2).bind fun q51 =>
            if ¬ (fx_b q51.1) = 0 then (
              (fm_180 x1 x2 q51.2).bind fun q54 =>
              (fm_157 x1 x2 x3 (fx_b q54.1) q54.2).bind fun q56 =>
              (fm_157 x1 x2 (-1 : Int32) (fx_b q54.1) q56.2).bind fun q59 =>
              (fm_194 (q56.1).toInt64 (q59.1).toInt64 x4 q59.2).bind fun q62 =>
              some ((q62.1).toInt32, q62.2)) else (
              some ((-1 : Int32), q51.2)))))))
theorem fe_195 {d : Nat} (hd : 4 ≤ d) {x1 : Int32} {x2 : Int32} {x3 : Int32} {x4 : Int32} {σ : fx_S} {q : Int32 × fx_S} (h : fm_195 x1 x2 x3 x4 σ = some q) : fx_E none 195 d 0 [some (.ref 215), some (.int x1), some (.int x2), some (.int x3), some (.int x4), none] [] σ (some (.int q.1)) q.2 := by
  unfold fm_195 at h
  refine fs_aload_n (k := 0) (p := 1) (by decide +kernel) rfl rfl ?_
  obtain ⟨q33, w32, h⟩ := fx_bd h
  refine fs_callV (idx := 303) (mj := 150) (ci := 10) (na := 0) (mx := 1) (p := 4) (args := [.ref 215]) (rest := []) (al2 := [some (.ref 215)]) (by decide +kernel) rfl (by decide +kernel) fo_215 rfl rfl rfl rfl rfl rfl rfl (by omega) (fun d' hd' => fe_150 (by omega) w32) rfl ?_
  by_cases c34 : (fx_b q33.1) = 0
  · rw [if_pos c34] at h
    refine fs_if_eq_t (off := 54) (t := 58) (by decide +kernel) (by decide +kernel) c34 ?_
    refine fs_iconst (n := -1) (p := 59) (by decide +kernel) rfl kc_m1 ?_
    have h := Option.some.inj h
    subst h
    exact fs_iret (by decide +kernel) rt_195
  · rw [if_neg c34] at h
    refine fs_if_eq_f (off := 54) (t := 58) (p := 7) (by decide +kernel) (by decide +kernel) rfl c34 ?_
    refine fs_iload_n (k := 1) (p := 8) (by decide +kernel) rfl rfl ?_
    obtain ⟨q36, w35, h⟩ := fx_bd h
    refine fs_callS (idx := 190) (mj := 148) (na := 1) (mx := 1) (p := 11) (args := [.int x1]) (rest := []) (al2 := [some (.int x1)]) (by decide +kernel) rfl (by decide +kernel) rfl rfl rfl rfl rfl rfl rfl (by omega) (fun d' hd' => fe_148 (by omega) w35) rfl ?_
    by_cases c37 : (fx_b q36.1) = 0
    · rw [if_pos c37] at h
      refine fs_if_eq_t (off := 47) (t := 58) (by decide +kernel) (by decide +kernel) c37 ?_
      refine fs_iconst (n := -1) (p := 59) (by decide +kernel) rfl kc_m1 ?_
      have h := Option.some.inj h
      subst h
      exact fs_iret (by decide +kernel) rt_195
    · rw [if_neg c37] at h
      refine fs_if_eq_f (off := 47) (t := 58) (p := 14) (by decide +kernel) (by decide +kernel) rfl c37 ?_
      refine fs_iload_n (k := 2) (p := 15) (by decide +kernel) rfl rfl ?_
      refine fs_i2l (p := 16) (by decide +kernel) rfl ?_
      refine fs_lconst (n := 0) (p := 17) (by decide +kernel) rfl kl_0 ?_
      refine fs_ldc2 (idx := 308) (p := 20) (x := 7) (by decide +kernel) rfl (by decide +kernel) ?_
      obtain ⟨q40, w39, h⟩ := fx_bd h
      refine fs_callS (idx := 128) (mj := 130) (na := 3) (mx := 6) (p := 23) (args := [.long (x2).toInt64, .long (0 : Int64), .long (7 : Int64)]) (rest := []) (al2 := [some (.long (x2).toInt64), none, some (.long (0 : Int64)), none, some (.long (7 : Int64)), none]) (by decide +kernel) rfl (by decide +kernel) rfl rfl rfl rfl rfl rfl rfl (by omega) (fun d' hd' => fe_130 (by omega) w39) rfl ?_
      by_cases c41 : (fx_b q40.1) = 0
      · rw [if_pos c41] at h
        refine fs_if_eq_t (off := 35) (t := 58) (by decide +kernel) (by decide +kernel) c41 ?_
        refine fs_iconst (n := -1) (p := 59) (by decide +kernel) rfl kc_m1 ?_
        have h := Option.some.inj h
        subst h
        exact fs_iret (by decide +kernel) rt_195
      · rw [if_neg c41] at h
        refine fs_if_eq_f (off := 35) (t := 58) (p := 26) (by decide +kernel) (by decide +kernel) rfl c41 ?_
        refine fs_aload_n (k := 0) (p := 27) (by decide +kernel) rfl rfl ?_
        refine fs_iconst (n := 0) (p := 28) (by decide +kernel) rfl kc_0 ?_
        refine fs_iload_n (k := 2) (p := 29) (by decide +kernel) rfl rfl ?_
        obtain ⟨q43, w42, h⟩ := fx_bd h
        refine fs_callV (idx := 202) (mj := 153) (ci := 10) (na := 2) (mx := 4) (p := 32) (args := [.ref 215, .int (0 : Int32), .int x2]) (rest := []) (al2 := [some (.ref 215), some (.int (0 : Int32)), some (.int x2), none]) (by decide +kernel) rfl (by decide +kernel) fo_215 rfl rfl rfl rfl rfl rfl rfl (by omega) (fun d' hd' => fe_153 (by omega) w42) rfl ?_
        by_cases c44 : (fx_b q43.1) = 0
        · rw [if_pos c44] at h
          refine fs_if_eq_t (off := 26) (t := 58) (by decide +kernel) (by decide +kernel) c44 ?_
          refine fs_iconst (n := -1) (p := 59) (by decide +kernel) rfl kc_m1 ?_
          have h := Option.some.inj h
          subst h
          exact fs_iret (by decide +kernel) rt_195
        · rw [if_neg c44] at h
          refine fs_if_eq_f (off := 26) (t := 58) (p := 35) (by decide +kernel) (by decide +kernel) rfl c44 ?_
          refine fs_iload_n (k := 3) (p := 36) (by decide +kernel) rfl rfl ?_
          refine fs_i2l (p := 37) (by decide +kernel) rfl ?_
          refine fs_lconst (n := 0) (p := 38) (by decide +kernel) rfl kl_0 ?_
          refine fs_ldc2 (idx := 310) (p := 41) (x := 8) (by decide +kernel) rfl (by decide +kernel) ?_
          obtain ⟨q47, w46, h⟩ := fx_bd h
          refine fs_callS (idx := 128) (mj := 130) (na := 3) (mx := 6) (p := 44) (args := [.long (x3).toInt64, .long (0 : Int64), .long (8 : Int64)]) (rest := []) (al2 := [some (.long (x3).toInt64), none, some (.long (0 : Int64)), none, some (.long (8 : Int64)), none]) (by decide +kernel) rfl (by decide +kernel) rfl rfl rfl rfl rfl rfl rfl (by omega) (fun d' hd' => fe_130 (by omega) w46) rfl ?_
          by_cases c48 : (fx_b q47.1) = 0
          · rw [if_pos c48] at h
            refine fs_if_eq_t (off := 14) (t := 58) (by decide +kernel) (by decide +kernel) c48 ?_
            refine fs_iconst (n := -1) (p := 59) (by decide +kernel) rfl kc_m1 ?_
            have h := Option.some.inj h
            subst h
            exact fs_iret (by decide +kernel) rt_195
          · rw [if_neg c48] at h
            refine fs_if_eq_f (off := 14) (t := 58) (p := 47) (by decide +kernel) (by decide +kernel) rfl c48 ?_
            refine fs_iload (k := 4) (p := 49) (by decide +kernel) rfl rfl ?_
            refine fs_i2l (p := 50) (by decide +kernel) rfl ?_
            refine fs_lconst (n := 0) (p := 51) (by decide +kernel) rfl kl_0 ?_
            refine fs_lconst (n := 1) (p := 52) (by decide +kernel) rfl kl_1 ?_
            obtain ⟨q51, w50, h⟩ := fx_bd h
            refine fs_callS (idx := 128) (mj := 130) (na := 3) (mx := 6) (p := 55) (args := [.long (x4).toInt64, .long (0 : Int64), .long (1 : Int64)]) (rest := []) (al2 := [some (.long (x4).toInt64), none, some (.long (0 : Int64)), none, some (.long (1 : Int64)), none]) (by decide +kernel) rfl (by decide +kernel) rfl rfl rfl rfl rfl rfl rfl (by omega) (fun d' hd' => fe_130 (by omega) w50) rfl ?_
            by_cases c52 : ¬ (fx_b q51.1) = 0
            · rw [if_pos c52] at h
              refine fs_if_ne_t (off := 5) (t := 60) (by decide +kernel) (by decide +kernel) c52 ?_
              refine fs_aload_n (k := 0) (p := 61) (by decide +kernel) rfl rfl ?_
              refine fs_iload_n (k := 1) (p := 62) (by decide +kernel) rfl rfl ?_
              refine fs_iload_n (k := 2) (p := 63) (by decide +kernel) rfl rfl ?_
              obtain ⟨q54, w53, h⟩ := fx_bd h
              refine fs_callV (idx := 297) (mj := 180) (ci := 10) (na := 2) (mx := 3) (p := 66) (args := [.ref 215, .int x1, .int x2]) (rest := []) (al2 := [some (.ref 215), some (.int x1), some (.int x2)]) (by decide +kernel) rfl (by decide +kernel) fo_215 rfl rfl rfl rfl rfl rfl rfl (by omega) (fun d' hd' => fe_180 (by omega) w53) rfl ?_
              refine fs_istore (k := 5) (p := 68) (M := 6) (al' := [some (.ref 215), some (.int x1), some (.int x2), some (.int x3), some (.int x4), some (.int (fx_b q54.1))]) (by decide +kernel) rfl mx_195 rfl rfl ?_
              refine fs_aload_n (k := 0) (p := 69) (by decide +kernel) rfl rfl ?_
              refine fs_iload_n (k := 1) (p := 70) (by decide +kernel) rfl rfl ?_
              refine fs_iload_n (k := 2) (p := 71) (by decide +kernel) rfl rfl ?_
              refine fs_iload_n (k := 3) (p := 72) (by decide +kernel) rfl rfl ?_
              refine fs_iload (k := 5) (p := 74) (by decide +kernel) rfl rfl ?_
              obtain ⟨q56, w55, h⟩ := fx_bd h
              refine fs_callV (idx := 293) (mj := 157) (ci := 10) (na := 4) (mx := 8) (p := 77) (args := [.ref 215, .int x1, .int x2, .int x3, .int (fx_b q54.1)]) (rest := []) (al2 := [some (.ref 215), some (.int x1), some (.int x2), some (.int x3), some (.int (fx_b q54.1)), none, none, none]) (by decide +kernel) rfl (by decide +kernel) fo_215 rfl rfl rfl rfl rfl rfl rfl (by omega) (fun d' hd' => fe_157 (by omega) w55) rfl ?_
              refine fs_i2l (p := 78) (by decide +kernel) rfl ?_
              refine fs_aload_n (k := 0) (p := 79) (by decide +kernel) rfl rfl ?_
              refine fs_iload_n (k := 1) (p := 80) (by decide +kernel) rfl rfl ?_
              refine fs_iload_n (k := 2) (p := 81) (by decide +kernel) rfl rfl ?_
              refine fs_iconst (n := -1) (p := 82) (by decide +kernel) rfl kc_m1 ?_
              refine fs_iload (k := 5) (p := 84) (by decide +kernel) rfl rfl ?_
              obtain ⟨q59, w58, h⟩ := fx_bd h
              refine fs_callV (idx := 293) (mj := 157) (ci := 10) (na := 4) (mx := 8) (p := 87) (args := [.ref 215, .int x1, .int x2, .int (-1 : Int32), .int (fx_b q54.1)]) (rest := [.long (q56.1).toInt64]) (al2 := [some (.ref 215), some (.int x1), some (.int x2), some (.int (-1 : Int32)), some (.int (fx_b q54.1)), none, none, none]) (by decide +kernel) rfl (by decide +kernel) fo_215 rfl rfl rfl rfl rfl rfl rfl (by omega) (fun d' hd' => fe_157 (by omega) w58) rfl ?_
              refine fs_i2l (p := 88) (by decide +kernel) rfl ?_
              refine fs_iload (k := 4) (p := 90) (by decide +kernel) rfl rfl ?_
              obtain ⟨q62, w61, h⟩ := fx_bd h
              refine fs_callS (idx := 342) (mj := 194) (na := 3) (mx := 7) (p := 93) (args := [.long (q56.1).toInt64, .long (q59.1).toInt64, .int x4]) (rest := []) (al2 := [some (.long (q56.1).toInt64), none, some (.long (q59.1).toInt64), none, some (.int x4), none, none]) (by decide +kernel) rfl (by decide +kernel) rfl rfl rfl rfl rfl rfl rfl (by omega) (fun d' hd' => fe_194 (by omega) w61) rfl ?_
              refine fs_l2i (p := 94) (by decide +kernel) rfl ?_
              have h := Option.some.inj h
              subst h
              exact fs_iret (by decide +kernel) rt_195
            · rw [if_neg c52] at h
              refine fs_if_ne_f (off := 5) (t := 60) (p := 58) (by decide +kernel) (by decide +kernel) rfl c52 ?_
              refine fs_iconst (n := -1) (p := 59) (by decide +kernel) rfl kc_m1 ?_
              have h := Option.some.inj h
              subst h
              exact fs_iret (by decide +kernel) rt_195

/-! ZoneSharesModel.exact(III)J -/
theorem mx_196 : iv_mx 196 = 7 := by decide +kernel
theorem rt_196 : iv_rt 196 = some .long := by decide +kernel
def fm_196_38 (σ : fx_S) : Option (Int64 × fx_S) :=
  some ((-1 : Int64), σ)
theorem fe_196_38 {d : Nat} (hd : 6 ≤ d) (o0 : Option Value) (o1 : Option Value) (o2 : Option Value) (o3 : Option Value) (σ : fx_S) (q : Int64 × fx_S) (h : fm_196_38  σ = some q) : fx_E none 196 d 38 [o0, o1, o2, o3, none, none, none] [] σ (some (.long q.1)) q.2 := by
  unfold fm_196_38 at h
  refine fs_ldc2 (idx := 306) (p := 41) (x := -1) (by decide +kernel) rfl (by decide +kernel) ?_
  have h := Option.some.inj h
  subst h
  exact fs_lret (by decide +kernel) rt_196
def fm_196_125 (k_63 : Int32 → Int32 → Int64 → Int32 → fx_S → Option (Int64 × fx_S)) (x2 : Int32) (x3 : Int32) (x4 : Int64) (x6 : Int32) (σ : fx_S) : Option (Int64 × fx_S) :=
  k_63 x2 x3 x4 (x6 + (1 : Int32)) σ
theorem fe_196_125 {d : Nat} (hd : 6 ≤ d) {k_63 : Int32 → Int32 → Int64 → Int32 → fx_S → Option (Int64 × fx_S)} (hk_63 : ∀ (x2 : Int32) (x3 : Int32) (x4 : Int64) (x6 : Int32) (o1 : Option Value) (σ : fx_S) (q : Int64 × fx_S), k_63 x2 x3 x4 x6 σ = some q → fx_E none 196 d 63 [some (.ref 215), o1, some (.int x2), some (.int x3), some (.long x4), none, some (.int x6)] [] σ (some (.long q.1)) q.2) (x2 : Int32) (x3 : Int32) (x4 : Int64) (x6 : Int32) (o1 : Option Value) (σ : fx_S) (q : Int64 × fx_S) (h : fm_196_125 k_63  x2 x3 x4 x6 σ = some q) : fx_E none 196 d 125 [some (.ref 215), o1, some (.int x2), some (.int x3), some (.long x4), none, some (.int x6)] [] σ (some (.long q.1)) q.2 := by
  unfold fm_196_125 at h
  refine fs_iinc (k := 6) (n := 1) (p := 128) (M := 7) (al' := [some (.ref 215), o1, some (.int x2), some (.int x3), some (.long x4), none, some (.int (x6 + (1 : Int32)))]) (by decide +kernel) rfl kc_1 mx_196 rfl rfl rfl ?_
  refine fs_goto (off := -65) (p := 63) (by decide +kernel) (by decide +kernel) ?_
  exact hk_63 _ _ _ _ _ _ _ h
def fm_196_63 : Nat → Int32 → Int32 → Int64 → Int32 → fx_S → Option (Int64 × fx_S)
  | 0, _, _, _, _, _ => none
  | n + 1, x2, x3, x4, x6, σ =>
    if (8 : Int32) ≤ x6 then (
      if ¬ (σ.2 215 30) = 0 then (
      if ¬ x3 = 0 then (
        if ¬ (σ.2 215 30) = 0 then (
        (fm_194 ((σ.2 215 29) - (σ.2 215 29) / (σ.2 215 30) * (σ.2 215 30)) (σ.2 215 30) (x3 - (1 : Int32)) σ).bind fun q9 =>
        some (q9.1, q9.2)) else none) else (
        some ((x4 + ((σ.2 215 29) / (σ.2 215 30))), σ))) else none) else (
      (fm_161 x6 σ).bind fun q11 =>
      if q11.1 ≤ 0 then (
        fm_196_125 (fm_196_63 n) x2 x3 x4 x6 q11.2) else (
        (fm_162 x6 q11.2).bind fun q15 =>
        (fm_160 x6 x2 q15.2).bind fun q17 =>
        (fx_ldl q17.2 224 q17.1).bind fun v18 =>
        (fm_160 x6 x2 q17.2).bind fun q22 =>
        (fx_ldl q22.2 225 q22.1).bind fun v23 =>
        (fx_ld q22.2 223 x6).bind fun v26 =>
        (fm_165 v23 (v26).toInt64 q22.2).bind fun q31 =>
        fm_196_125 (fm_196_63 n) x2 x3 (x4 + v18) x6 q31))
theorem fe_196_63 {d : Nat} (hd : 6 ≤ d) : ∀ (n : Nat) (x2 : Int32) (x3 : Int32) (x4 : Int64) (x6 : Int32) (o1 : Option Value) (σ : fx_S) (q : Int64 × fx_S), fm_196_63 n x2 x3 x4 x6 σ = some q → fx_E none 196 d 63 [some (.ref 215), o1, some (.int x2), some (.int x3), some (.long x4), none, some (.int x6)] [] σ (some (.long q.1)) q.2 := by
  intro n
  induction n with
  | zero =>
    intro x2 x3 x4 x6 o1 σ q  h
    rw [fm_196_63] at h
    exact fx_no h
  | succ n ih =>
    intro x2 x3 x4 x6 o1 σ q  h
    rw [fm_196_63] at h
    refine fs_iload (k := 6) (p := 65) (by decide +kernel) rfl rfl ?_
    refine fs_bipush (n := 8) (p := 67) (by decide +kernel) rfl kb_8 ?_
    by_cases c2 : (8 : Int32) ≤ x6
    · rw [if_pos c2] at h
      refine fs_icmp_ge_t (off := 64) (t := 131) (by decide +kernel) (by decide +kernel) c2 ?_
      refine fs_lload (k := 4) (p := 133) (by decide +kernel) rfl rfl ?_
      refine fs_aload_n (k := 0) (p := 134) (by decide +kernel) rfl rfl ?_
      refine fs_gfl (idx := 229) (ci := 10) (j := 29) (p := 137) (by decide +kernel) rfl (by decide +kernel) fo_215 ?_
      refine fs_aload_n (k := 0) (p := 138) (by decide +kernel) rfl rfl ?_
      refine fs_gfl (idx := 221) (ci := 10) (j := 30) (p := 141) (by decide +kernel) rfl (by decide +kernel) fo_215 ?_
      obtain ⟨z4, h⟩ := fx_gd h
      refine fs_ldiv (p := 142) (by decide +kernel) rfl z4 ?_
      refine fs_ladd (p := 143) (by decide +kernel) rfl ?_
      refine fs_lstore (k := 4) (p := 145) (M := 7) (al' := [some (.ref 215), o1, some (.int x2), some (.int x3), some (.long (x4 + ((σ.2 215 29) / (σ.2 215 30)))), none, some (.int x6)]) (by decide +kernel) rfl mx_196 rfl rfl ?_
      refine fs_iload_n (k := 3) (p := 146) (by decide +kernel) rfl rfl ?_
      by_cases c6 : ¬ x3 = 0
      · rw [if_pos c6] at h
        refine fs_if_ne_t (off := 8) (t := 154) (by decide +kernel) (by decide +kernel) c6 ?_
        refine fs_aload_n (k := 0) (p := 155) (by decide +kernel) rfl rfl ?_
        refine fs_gfl (idx := 229) (ci := 10) (j := 29) (p := 158) (by decide +kernel) rfl (by decide +kernel) fo_215 ?_
        refine fs_aload_n (k := 0) (p := 159) (by decide +kernel) rfl rfl ?_
        refine fs_gfl (idx := 221) (ci := 10) (j := 30) (p := 162) (by decide +kernel) rfl (by decide +kernel) fo_215 ?_
        obtain ⟨z7, h⟩ := fx_gd h
        refine fs_lrem (p := 163) (by decide +kernel) rfl z7 ?_
        refine fs_aload_n (k := 0) (p := 164) (by decide +kernel) rfl rfl ?_
        refine fs_gfl (idx := 221) (ci := 10) (j := 30) (p := 167) (by decide +kernel) rfl (by decide +kernel) fo_215 ?_
        refine fs_iload_n (k := 3) (p := 168) (by decide +kernel) rfl rfl ?_
        refine fs_iconst (n := 1) (p := 169) (by decide +kernel) rfl kc_1 ?_
        refine fs_isub (p := 170) (by decide +kernel) rfl ?_
        obtain ⟨q9, w8, h⟩ := fx_bd h
        refine fs_callS (idx := 342) (mj := 194) (na := 3) (mx := 7) (p := 173) (args := [.long ((σ.2 215 29) - (σ.2 215 29) / (σ.2 215 30) * (σ.2 215 30)), .long (σ.2 215 30), .int (x3 - (1 : Int32))]) (rest := []) (al2 := [some (.long ((σ.2 215 29) - (σ.2 215 29) / (σ.2 215 30) * (σ.2 215 30))), none, some (.long (σ.2 215 30)), none, some (.int (x3 - (1 : Int32))), none, none]) (by decide +kernel) rfl (by decide +kernel) rfl rfl rfl rfl rfl rfl rfl (by omega) (fun d' hd' => fe_194 (by omega) w8) rfl ?_
        have h := Option.some.inj h
        subst h
        exact fs_lret (by decide +kernel) rt_196
      · rw [if_neg c6] at h
        refine fs_if_ne_f (off := 8) (t := 154) (p := 149) (by decide +kernel) (by decide +kernel) rfl c6 ?_
        refine fs_lload (k := 4) (p := 151) (by decide +kernel) rfl rfl ?_
        refine fs_goto (off := 22) (p := 173) (by decide +kernel) (by decide +kernel) ?_
        have h := Option.some.inj h
        subst h
        exact fs_lret (by decide +kernel) rt_196
    · rw [if_neg c2] at h
      refine fs_icmp_ge_f (off := 64) (t := 131) (p := 70) (by decide +kernel) (by decide +kernel) rfl c2 ?_
      refine fs_aload_n (k := 0) (p := 71) (by decide +kernel) rfl rfl ?_
      refine fs_iload (k := 6) (p := 73) (by decide +kernel) rfl rfl ?_
      obtain ⟨q11, w10, h⟩ := fx_bd h
      refine fs_callV (idx := 254) (mj := 161) (ci := 10) (na := 1) (mx := 4) (p := 76) (args := [.ref 215, .int x6]) (rest := []) (al2 := [some (.ref 215), some (.int x6), none, none]) (by decide +kernel) rfl (by decide +kernel) fo_215 rfl rfl rfl rfl rfl rfl rfl (by omega) (fun d' hd' => fe_161 (by omega) w10) rfl ?_
      by_cases c13 : q11.1 ≤ 0
      · rw [if_pos c13] at h
        refine fs_if_le_t (off := 49) (t := 125) (by decide +kernel) (by decide +kernel) c13 ?_
        exact fe_196_125 hd ih _ _ _ _ _ _ _ h
      · rw [if_neg c13] at h
        refine fs_if_le_f (off := 49) (t := 125) (p := 79) (by decide +kernel) (by decide +kernel) rfl c13 ?_
        refine fs_aload_n (k := 0) (p := 80) (by decide +kernel) rfl rfl ?_
        refine fs_iload (k := 6) (p := 82) (by decide +kernel) rfl rfl ?_
        obtain ⟨q15, w14, h⟩ := fx_bd h
        refine fs_callV (idx := 217) (mj := 162) (ci := 10) (na := 1) (mx := 7) (p := 85) (args := [.ref 215, .int x6]) (rest := []) (al2 := [some (.ref 215), some (.int x6), none, none, none, none, none]) (by decide +kernel) rfl (by decide +kernel) fo_215 rfl rfl rfl rfl rfl rfl rfl (by omega) (fun d' hd' => fe_162 (by omega) w14) rfl ?_
        refine fs_pop2 (p := 86) (by decide +kernel) rfl rfl ?_
        refine fs_lload (k := 4) (p := 88) (by decide +kernel) rfl rfl ?_
        refine fs_aload_n (k := 0) (p := 89) (by decide +kernel) rfl rfl ?_
        refine fs_gfr (idx := 36) (ci := 10) (j := 15) (p := 92) (by decide +kernel) rfl (by decide +kernel) fo_215 (fr_a215_15) ?_
        refine fs_iload (k := 6) (p := 94) (by decide +kernel) rfl rfl ?_
        refine fs_iload_n (k := 2) (p := 95) (by decide +kernel) rfl rfl ?_
        obtain ⟨q17, w16, h⟩ := fx_bd h
        refine fs_callS (idx := 214) (mj := 160) (na := 2) (mx := 2) (p := 98) (args := [.int x6, .int x2]) (rest := [.ref 224, .long x4]) (al2 := [some (.int x6), some (.int x2)]) (by decide +kernel) rfl (by decide +kernel) rfl rfl rfl rfl rfl rfl rfl (by omega) (fun d' hd' => fe_160 (by omega) w16) rfl ?_
        obtain ⟨v18, w19, h⟩ := fx_bd h
        refine fs_laload (p := 99) (by decide +kernel) rfl w19 ?_
        refine fs_ladd (p := 100) (by decide +kernel) rfl ?_
        refine fs_lstore (k := 4) (p := 102) (M := 7) (al' := [some (.ref 215), o1, some (.int x2), some (.int x3), some (.long (x4 + v18)), none, some (.int x6)]) (by decide +kernel) rfl mx_196 rfl rfl ?_
        refine fs_aload_n (k := 0) (p := 103) (by decide +kernel) rfl rfl ?_
        refine fs_aload_n (k := 0) (p := 104) (by decide +kernel) rfl rfl ?_
        refine fs_gfr (idx := 39) (ci := 10) (j := 16) (p := 107) (by decide +kernel) rfl (by decide +kernel) fo_215 (fr_a215_16) ?_
        refine fs_iload (k := 6) (p := 109) (by decide +kernel) rfl rfl ?_
        refine fs_iload_n (k := 2) (p := 110) (by decide +kernel) rfl rfl ?_
        obtain ⟨q22, w21, h⟩ := fx_bd h
        refine fs_callS (idx := 214) (mj := 160) (na := 2) (mx := 2) (p := 113) (args := [.int x6, .int x2]) (rest := [.ref 225, .ref 215]) (al2 := [some (.int x6), some (.int x2)]) (by decide +kernel) rfl (by decide +kernel) rfl rfl rfl rfl rfl rfl rfl (by omega) (fun d' hd' => fe_160 (by omega) w21) rfl ?_
        obtain ⟨v23, w24, h⟩ := fx_bd h
        refine fs_laload (p := 114) (by decide +kernel) rfl w24 ?_
        refine fs_aload_n (k := 0) (p := 115) (by decide +kernel) rfl rfl ?_
        refine fs_gfr (idx := 33) (ci := 10) (j := 14) (p := 118) (by decide +kernel) rfl (by decide +kernel) fo_215 (fr_a215_14) ?_
        refine fs_iload (k := 6) (p := 120) (by decide +kernel) rfl rfl ?_
        obtain ⟨v26, w27, h⟩ := fx_bd h
        refine fs_iaload (p := 121) (by decide +kernel) rfl w27 ?_
        refine fs_i2l (p := 122) (by decide +kernel) rfl ?_
        obtain ⟨q31, w30, h⟩ := fx_bd h
        refine fs_callV (idx := 232) (mj := 165) (ci := 10) (na := 2) (mx := 9) (p := 125) (args := [.ref 215, .long v23, .long (v26).toInt64]) (rest := []) (al2 := [some (.ref 215), some (.long v23), none, some (.long (v26).toInt64), none, none, none, none, none]) (by decide +kernel) rfl (by decide +kernel) fo_215 rfl rfl rfl rfl rfl rfl rfl (by omega) (fun d' hd' => fe_165 (by omega) w30) rfl ?_
        exact fe_196_125 hd ih _ _ _ _ _ _ _ h
def fm_196 (x1 : Int32) (x2 : Int32) (x3 : Int32) (σ : fx_S) : Option (Int64 × fx_S) :=
  (fm_150 σ).bind fun q49 =>
  if (fx_b q49.1) = 0 then (
    fm_196_38 q49.2) else (
    (fm_148 x1 q49.2).bind fun q52 =>
    if (fx_b q52.1) = 0 then (
      fm_196_38 q52.2) else (
      (fm_130 (x2).toInt64 (0 : Int64) (8 : Int64) q52.2).bind fun q56 =>
      if (fx_b q56.1) = 0 then (
        fm_196_38 q56.2) else (
        (fm_130 (x3).toInt64 (0 : Int64) (2 : Int64) q56.2).bind fun q60 =>
        if ¬ (fx_b q60.1) = 0 then (
          (fm_181 x1 q60.2).bind fun q63 =>
          fm_196_63 100000 x2 x3 (0 : Int64) (0 : Int32) (fx_w2 (fx_w2 q63 215 29 (0 : Int64)) 215 30 (1 : Int64))) else (
          fm_196_38 q60.2))))
theorem fe_196 {d : Nat} (hd : 6 ≤ d) {x1 : Int32} {x2 : Int32} {x3 : Int32} {σ : fx_S} {q : Int64 × fx_S} (h : fm_196 x1 x2 x3 σ = some q) : fx_E none 196 d 0 [some (.ref 215), some (.int x1), some (.int x2), some (.int x3), none, none, none] [] σ (some (.long q.1)) q.2 := by
  unfold fm_196 at h
  refine fs_aload_n (k := 0) (p := 1) (by decide +kernel) rfl rfl ?_
  obtain ⟨q49, w48, h⟩ := fx_bd h
  refine fs_callV (idx := 303) (mj := 150) (ci := 10) (na := 0) (mx := 1) (p := 4) (args := [.ref 215]) (rest := []) (al2 := [some (.ref 215)]) (by decide +kernel) rfl (by decide +kernel) fo_215 rfl rfl rfl rfl rfl rfl rfl (by omega) (fun d' hd' => fe_150 (by omega) w48) rfl ?_
  by_cases c50 : (fx_b q49.1) = 0
  · rw [if_pos c50] at h
    refine fs_if_eq_t (off := 34) (t := 38) (by decide +kernel) (by decide +kernel) c50 ?_
    exact fe_196_38 hd _ _ _ _ _ _ h
  · rw [if_neg c50] at h
    refine fs_if_eq_f (off := 34) (t := 38) (p := 7) (by decide +kernel) (by decide +kernel) rfl c50 ?_
    refine fs_iload_n (k := 1) (p := 8) (by decide +kernel) rfl rfl ?_
    obtain ⟨q52, w51, h⟩ := fx_bd h
    refine fs_callS (idx := 190) (mj := 148) (na := 1) (mx := 1) (p := 11) (args := [.int x1]) (rest := []) (al2 := [some (.int x1)]) (by decide +kernel) rfl (by decide +kernel) rfl rfl rfl rfl rfl rfl rfl (by omega) (fun d' hd' => fe_148 (by omega) w51) rfl ?_
    by_cases c53 : (fx_b q52.1) = 0
    · rw [if_pos c53] at h
      refine fs_if_eq_t (off := 27) (t := 38) (by decide +kernel) (by decide +kernel) c53 ?_
      exact fe_196_38 hd _ _ _ _ _ _ h
    · rw [if_neg c53] at h
      refine fs_if_eq_f (off := 27) (t := 38) (p := 14) (by decide +kernel) (by decide +kernel) rfl c53 ?_
      refine fs_iload_n (k := 2) (p := 15) (by decide +kernel) rfl rfl ?_
      refine fs_i2l (p := 16) (by decide +kernel) rfl ?_
      refine fs_lconst (n := 0) (p := 17) (by decide +kernel) rfl kl_0 ?_
      refine fs_ldc2 (idx := 310) (p := 20) (x := 8) (by decide +kernel) rfl (by decide +kernel) ?_
      obtain ⟨q56, w55, h⟩ := fx_bd h
      refine fs_callS (idx := 128) (mj := 130) (na := 3) (mx := 6) (p := 23) (args := [.long (x2).toInt64, .long (0 : Int64), .long (8 : Int64)]) (rest := []) (al2 := [some (.long (x2).toInt64), none, some (.long (0 : Int64)), none, some (.long (8 : Int64)), none]) (by decide +kernel) rfl (by decide +kernel) rfl rfl rfl rfl rfl rfl rfl (by omega) (fun d' hd' => fe_130 (by omega) w55) rfl ?_
      by_cases c57 : (fx_b q56.1) = 0
      · rw [if_pos c57] at h
        refine fs_if_eq_t (off := 15) (t := 38) (by decide +kernel) (by decide +kernel) c57 ?_
        exact fe_196_38 hd _ _ _ _ _ _ h
      · rw [if_neg c57] at h
        refine fs_if_eq_f (off := 15) (t := 38) (p := 26) (by decide +kernel) (by decide +kernel) rfl c57 ?_
        refine fs_iload_n (k := 3) (p := 27) (by decide +kernel) rfl rfl ?_
        refine fs_i2l (p := 28) (by decide +kernel) rfl ?_
        refine fs_lconst (n := 0) (p := 29) (by decide +kernel) rfl kl_0 ?_
        refine fs_ldc2 (idx := 161) (p := 32) (x := 2) (by decide +kernel) rfl (by decide +kernel) ?_
        obtain ⟨q60, w59, h⟩ := fx_bd h
        refine fs_callS (idx := 128) (mj := 130) (na := 3) (mx := 6) (p := 35) (args := [.long (x3).toInt64, .long (0 : Int64), .long (2 : Int64)]) (rest := []) (al2 := [some (.long (x3).toInt64), none, some (.long (0 : Int64)), none, some (.long (2 : Int64)), none]) (by decide +kernel) rfl (by decide +kernel) rfl rfl rfl rfl rfl rfl rfl (by omega) (fun d' hd' => fe_130 (by omega) w59) rfl ?_
        by_cases c61 : ¬ (fx_b q60.1) = 0
        · rw [if_pos c61] at h
          refine fs_if_ne_t (off := 7) (t := 42) (by decide +kernel) (by decide +kernel) c61 ?_
          refine fs_aload_n (k := 0) (p := 43) (by decide +kernel) rfl rfl ?_
          refine fs_iload_n (k := 1) (p := 44) (by decide +kernel) rfl rfl ?_
          obtain ⟨q63, w62, h⟩ := fx_bd h
          refine fs_callV (idx := 312) (mj := 181) (ci := 10) (na := 1) (mx := 5) (p := 47) (args := [.ref 215, .int x1]) (rest := []) (al2 := [some (.ref 215), some (.int x1), none, none, none]) (by decide +kernel) rfl (by decide +kernel) fo_215 rfl rfl rfl rfl rfl rfl rfl (by omega) (fun d' hd' => fe_181 (by omega) w62) rfl ?_
          refine fs_lconst (n := 0) (p := 48) (by decide +kernel) rfl kl_0 ?_
          refine fs_lstore (k := 4) (p := 50) (M := 7) (al' := [some (.ref 215), some (.int x1), some (.int x2), some (.int x3), some (.long (0 : Int64)), none, none]) (by decide +kernel) rfl mx_196 rfl rfl ?_
          refine fs_aload_n (k := 0) (p := 51) (by decide +kernel) rfl rfl ?_
          refine fs_lconst (n := 0) (p := 52) (by decide +kernel) rfl kl_0 ?_
          refine fs_pfl (idx := 229) (ci := 10) (j := 29) (p := 55) (by decide +kernel) rfl (by decide +kernel) (by decide +kernel) fo_215 ?_
          refine fs_aload_n (k := 0) (p := 56) (by decide +kernel) rfl rfl ?_
          refine fs_lconst (n := 1) (p := 57) (by decide +kernel) rfl kl_1 ?_
          refine fs_pfl (idx := 221) (ci := 10) (j := 30) (p := 60) (by decide +kernel) rfl (by decide +kernel) (by decide +kernel) fo_215 ?_
          refine fs_iconst (n := 0) (p := 61) (by decide +kernel) rfl kc_0 ?_
          refine fs_istore (k := 6) (p := 63) (M := 7) (al' := [some (.ref 215), some (.int x1), some (.int x2), some (.int x3), some (.long (0 : Int64)), none, some (.int (0 : Int32))]) (by decide +kernel) rfl mx_196 rfl rfl ?_
          exact fe_196_63 hd 100000 _ _ _ _ _ _ _ h
        · rw [if_neg c61] at h
          refine fs_if_ne_f (off := 7) (t := 42) (p := 38) (by decide +kernel) (by decide +kernel) rfl c61 ?_
          exact fe_196_38 hd _ _ _ _ _ _ h

/-! ZoneSharesModel.laysSurface(I)V -/
theorem mx_197 : iv_mx 197 = 5 := by decide +kernel
theorem rt_197 : iv_rt 197 = none := by decide +kernel
def fm_197_96 (k_7 : Int32 → Int32 → fx_S → Option (fx_S)) (x1 : Int32) (x2 : Int32) (σ : fx_S) : Option (fx_S) :=
  k_7 x1 (x2 + (1 : Int32)) σ
theorem fe_197_96 {d : Nat} (hd : 5 ≤ d) {k_7 : Int32 → Int32 → fx_S → Option (fx_S)} (hk_7 : ∀ (x1 : Int32) (x2 : Int32) (o3 : Option Value) (o4 : Option Value) (σ : fx_S) (q : fx_S), k_7 x1 x2 σ = some q → fx_E none 197 d 7 [some (.ref 215), some (.int x1), some (.int x2), o3, o4] [] σ none q) (x1 : Int32) (x2 : Int32) (o3 : Option Value) (o4 : Option Value) (σ : fx_S) (q : fx_S) (h : fm_197_96 k_7  x1 x2 σ = some q) : fx_E none 197 d 96 [some (.ref 215), some (.int x1), some (.int x2), o3, o4] [] σ none q := by
  unfold fm_197_96 at h
  refine fs_iinc (k := 2) (n := 1) (p := 99) (M := 5) (al' := [some (.ref 215), some (.int x1), some (.int (x2 + (1 : Int32))), o3, o4]) (by decide +kernel) rfl kc_1 mx_197 rfl rfl rfl ?_
  refine fs_goto (off := -92) (p := 7) (by decide +kernel) (by decide +kernel) ?_
  exact hk_7 _ _ _ _ _ _ h
def fm_197_77 (k_7 : Int32 → Int32 → fx_S → Option (fx_S)) (x1 : Int32) (x2 : Int32) (x3 : Int32) (x4 : Int32) (s1 : Int32) (s2 : Int64) (s3 : Int32) (σ : fx_S) : Option (fx_S) :=
  (fx_stl σ 240 s1 (s2 * (s3).toInt64)).bind fun t2 =>
  (fm_157 x1 x3 (-1 : Int32) x4 t2).bind fun q6 =>
  (fx_stl q6.2 241 x2 (q6.1).toInt64).bind fun t8 =>
  fm_197_96 k_7 x1 x2 t8
theorem fe_197_77 {d : Nat} (hd : 5 ≤ d) {k_7 : Int32 → Int32 → fx_S → Option (fx_S)} (hk_7 : ∀ (x1 : Int32) (x2 : Int32) (o3 : Option Value) (o4 : Option Value) (σ : fx_S) (q : fx_S), k_7 x1 x2 σ = some q → fx_E none 197 d 7 [some (.ref 215), some (.int x1), some (.int x2), o3, o4] [] σ none q) (x1 : Int32) (x2 : Int32) (x3 : Int32) (x4 : Int32) (s1 : Int32) (s2 : Int64) (s3 : Int32) (σ : fx_S) (q : fx_S) (h : fm_197_77 k_7  x1 x2 x3 x4 s1 s2 s3 σ = some q) : fx_E none 197 d 77 [some (.ref 215), some (.int x1), some (.int x2), some (.int x3), some (.int x4)] [.int s3, .long s2, .int s1, .ref 240] σ none q := by
  unfold fm_197_77 at h
  refine fs_i2l (p := 78) (by decide +kernel) rfl ?_
  refine fs_lmul (p := 79) (by decide +kernel) rfl ?_
  obtain ⟨t2, w3, h⟩ := fx_bd h
  refine fs_lastore (p := 80) (by decide +kernel) rfl w3 ?_
  refine fs_aload_n (k := 0) (p := 81) (by decide +kernel) rfl rfl ?_
  refine fs_gfr (idx := 88) (ci := 10) (j := 36) (p := 84) (by decide +kernel) rfl (by decide +kernel) fo_215 (fr_a215_36) ?_
  refine fs_iload_n (k := 2) (p := 85) (by decide +kernel) rfl rfl ?_
  refine fs_aload_n (k := 0) (p := 86) (by decide +kernel) rfl rfl ?_
  refine fs_iload_n (k := 1) (p := 87) (by decide +kernel) rfl rfl ?_
  refine fs_iload_n (k := 3) (p := 88) (by decide +kernel) rfl rfl ?_
  refine fs_iconst (n := -1) (p := 89) (by decide +kernel) rfl kc_m1 ?_
  refine fs_iload (k := 4) (p := 91) (by decide +kernel) rfl rfl ?_
  obtain ⟨q6, w5, h⟩ := fx_bd h
  refine fs_callV (idx := 293) (mj := 157) (ci := 10) (na := 4) (mx := 8) (p := 94) (args := [.ref 215, .int x1, .int x3, .int (-1 : Int32), .int x4]) (rest := [.int x2, .ref 241]) (al2 := [some (.ref 215), some (.int x1), some (.int x3), some (.int (-1 : Int32)), some (.int x4), none, none, none]) (by decide +kernel) rfl (by decide +kernel) fo_215 rfl rfl rfl rfl rfl rfl rfl (by omega) (fun d' hd' => fe_157 (by omega) w5) rfl ?_
  refine fs_i2l (p := 95) (by decide +kernel) rfl ?_
  obtain ⟨t8, w9, h⟩ := fx_bd h
  refine fs_lastore (p := 96) (by decide +kernel) rfl w9 ?_
  exact fe_197_96 hd hk_7 _ _ _ _ _ _ h
def fm_197_7 : Nat → Int32 → Int32 → fx_S → Option (fx_S)
  | 0, _, _, _ => none
  | n + 1, x1, x2, σ =>
    (fm_151 σ).bind fun q2 =>
    if q2.1 ≤ x2 then (
      some q2.2) else (
      (fm_152 (0 : Int32) x2 q2.2).bind fun q7 =>
      (fx_stl q7.2 240 x2 (0 : Int64)).bind fun t8 =>
      (fx_stl t8 241 x2 (1 : Int64)).bind fun t11 =>
      if q7.1 = (8 : Int32) then (
        fm_197_96 (fm_197_7 n) x1 x2 t11) else (
        (fm_180 x1 q7.1 t11).bind fun q16 =>
        (fx_ld q16.2 236 q7.1).bind fun v17 =>
        if (fx_b q16.1) = 0 then (
          (fm_156 x1 x2 q16.2).bind fun q23 =>
          fm_197_77 (fm_197_7 n) x1 x2 q7.1 (fx_b q16.1) x2 ((v17).toInt64) q23.1 q23.2) else (
          fm_197_77 (fm_197_7 n) x1 x2 q7.1 (fx_b q16.1) x2 ((v17).toInt64) (1 : Int32) q16.2)))
theorem fe_197_7 {d : Nat} (hd : 5 ≤ d) : ∀ (n : Nat) (x1 : Int32) (x2 : Int32) (o3 : Option Value) (o4 : Option Value) (σ : fx_S) (q : fx_S), fm_197_7 n x1 x2 σ = some q → fx_E none 197 d 7 [some (.ref 215), some (.int x1), some (.int x2), o3, o4] [] σ none q := by
  intro n
  induction n with
  | zero =>
    intro x1 x2 o3 o4 σ q  h
    rw [fm_197_7] at h
    exact fx_no h
  | succ n ih =>
    intro x1 x2 o3 o4 σ q  h
    rw [fm_197_7] at h
    refine fs_iload_n (k := 2) (p := 8) (by decide +kernel) rfl rfl ?_
    refine fs_aload_n (k := 0) (p := 9) (by decide +kernel) rfl rfl ?_
    obtain ⟨q2, w1, h⟩ := fx_bd h
    refine fs_callV (idx := 196) (mj := 151) (ci := 10) (na := 0) (mx := 1) (p := 12) (args := [.ref 215]) (rest := [.int x2]) (al2 := [some (.ref 215)]) (by decide +kernel) rfl (by decide +kernel) fo_215 rfl rfl rfl rfl rfl rfl rfl (by omega) (fun d' hd' => fe_151 (by omega) w1) rfl ?_
    by_cases c5 : q2.1 ≤ x2
    · rw [if_pos c5] at h
      refine fs_icmp_ge_t (off := 90) (t := 102) (by decide +kernel) (by decide +kernel) c5 ?_
      have h := Option.some.inj h
      subst h
      exact fs_ret (by decide +kernel) rt_197
    · rw [if_neg c5] at h
      refine fs_icmp_ge_f (off := 90) (t := 102) (p := 15) (by decide +kernel) (by decide +kernel) rfl c5 ?_
      refine fs_aload_n (k := 0) (p := 16) (by decide +kernel) rfl rfl ?_
      refine fs_iconst (n := 0) (p := 17) (by decide +kernel) rfl kc_0 ?_
      refine fs_iload_n (k := 2) (p := 18) (by decide +kernel) rfl rfl ?_
      obtain ⟨q7, w6, h⟩ := fx_bd h
      refine fs_callV (idx := 199) (mj := 152) (ci := 10) (na := 2) (mx := 3) (p := 21) (args := [.ref 215, .int (0 : Int32), .int x2]) (rest := []) (al2 := [some (.ref 215), some (.int (0 : Int32)), some (.int x2)]) (by decide +kernel) rfl (by decide +kernel) fo_215 rfl rfl rfl rfl rfl rfl rfl (by omega) (fun d' hd' => fe_152 (by omega) w6) rfl ?_
      refine fs_istore_n (k := 3) (p := 22) (M := 5) (al' := [some (.ref 215), some (.int x1), some (.int x2), some (.int q7.1), o4]) (by decide +kernel) rfl mx_197 rfl rfl ?_
      refine fs_aload_n (k := 0) (p := 23) (by decide +kernel) rfl rfl ?_
      refine fs_gfr (idx := 85) (ci := 10) (j := 35) (p := 26) (by decide +kernel) rfl (by decide +kernel) fo_215 (fr_a215_35) ?_
      refine fs_iload_n (k := 2) (p := 27) (by decide +kernel) rfl rfl ?_
      refine fs_lconst (n := 0) (p := 28) (by decide +kernel) rfl kl_0 ?_
      obtain ⟨t8, w9, h⟩ := fx_bd h
      refine fs_lastore (p := 29) (by decide +kernel) rfl w9 ?_
      refine fs_aload_n (k := 0) (p := 30) (by decide +kernel) rfl rfl ?_
      refine fs_gfr (idx := 88) (ci := 10) (j := 36) (p := 33) (by decide +kernel) rfl (by decide +kernel) fo_215 (fr_a215_36) ?_
      refine fs_iload_n (k := 2) (p := 34) (by decide +kernel) rfl rfl ?_
      refine fs_lconst (n := 1) (p := 35) (by decide +kernel) rfl kl_1 ?_
      obtain ⟨t11, w12, h⟩ := fx_bd h
      refine fs_lastore (p := 36) (by decide +kernel) rfl w12 ?_
      refine fs_iload_n (k := 3) (p := 37) (by decide +kernel) rfl rfl ?_
      refine fs_bipush (n := 8) (p := 39) (by decide +kernel) rfl kb_8 ?_
      by_cases c14 : q7.1 = (8 : Int32)
      · rw [if_pos c14] at h
        refine fs_icmp_eq_t (off := 57) (t := 96) (by decide +kernel) (by decide +kernel) c14 ?_
        exact fe_197_96 hd ih _ _ _ _ _ _ h
      · rw [if_neg c14] at h
        refine fs_icmp_eq_f (off := 57) (t := 96) (p := 42) (by decide +kernel) (by decide +kernel) rfl c14 ?_
        refine fs_aload_n (k := 0) (p := 43) (by decide +kernel) rfl rfl ?_
        refine fs_iload_n (k := 1) (p := 44) (by decide +kernel) rfl rfl ?_
        refine fs_iload_n (k := 3) (p := 45) (by decide +kernel) rfl rfl ?_
        obtain ⟨q16, w15, h⟩ := fx_bd h
        refine fs_callV (idx := 297) (mj := 180) (ci := 10) (na := 2) (mx := 3) (p := 48) (args := [.ref 215, .int x1, .int q7.1]) (rest := []) (al2 := [some (.ref 215), some (.int x1), some (.int q7.1)]) (by decide +kernel) rfl (by decide +kernel) fo_215 rfl rfl rfl rfl rfl rfl rfl (by omega) (fun d' hd' => fe_180 (by omega) w15) rfl ?_
        refine fs_istore (k := 4) (p := 50) (M := 5) (al' := [some (.ref 215), some (.int x1), some (.int x2), some (.int q7.1), some (.int (fx_b q16.1))]) (by decide +kernel) rfl mx_197 rfl rfl ?_
        refine fs_aload_n (k := 0) (p := 51) (by decide +kernel) rfl rfl ?_
        refine fs_gfr (idx := 85) (ci := 10) (j := 35) (p := 54) (by decide +kernel) rfl (by decide +kernel) fo_215 (fr_a215_35) ?_
        refine fs_iload_n (k := 2) (p := 55) (by decide +kernel) rfl rfl ?_
        refine fs_aload_n (k := 0) (p := 56) (by decide +kernel) rfl rfl ?_
        refine fs_gfr (idx := 73) (ci := 10) (j := 31) (p := 59) (by decide +kernel) rfl (by decide +kernel) fo_215 (fr_a215_31) ?_
        refine fs_iload_n (k := 3) (p := 60) (by decide +kernel) rfl rfl ?_
        obtain ⟨v17, w18, h⟩ := fx_bd h
        refine fs_iaload (p := 61) (by decide +kernel) rfl w18 ?_
        refine fs_i2l (p := 62) (by decide +kernel) rfl ?_
        refine fs_iload (k := 4) (p := 64) (by decide +kernel) rfl rfl ?_
        by_cases c21 : (fx_b q16.1) = 0
        · rw [if_pos c21] at h
          refine fs_if_eq_t (off := 7) (t := 71) (by decide +kernel) (by decide +kernel) c21 ?_
          refine fs_aload_n (k := 0) (p := 72) (by decide +kernel) rfl rfl ?_
          refine fs_iload_n (k := 1) (p := 73) (by decide +kernel) rfl rfl ?_
          refine fs_iload_n (k := 2) (p := 74) (by decide +kernel) rfl rfl ?_
          obtain ⟨q23, w22, h⟩ := fx_bd h
          refine fs_callV (idx := 205) (mj := 156) (ci := 10) (na := 2) (mx := 3) (p := 77) (args := [.ref 215, .int x1, .int x2]) (rest := [.long (v17).toInt64, .int x2, .ref 240]) (al2 := [some (.ref 215), some (.int x1), some (.int x2)]) (by decide +kernel) rfl (by decide +kernel) fo_215 rfl rfl rfl rfl rfl rfl rfl (by omega) (fun d' hd' => fe_156 (by omega) w22) rfl ?_
          exact fe_197_77 hd ih _ _ _ _ _ _ _ _ _ h
        · rw [if_neg c21] at h
          refine fs_if_eq_f (off := 7) (t := 71) (p := 67) (by decide +kernel) (by decide +kernel) rfl c21 ?_
          refine fs_iconst (n := 1) (p := 68) (by decide +kernel) rfl kc_1 ?_
          refine fs_goto (off := 9) (p := 77) (by decide +kernel) (by decide +kernel) ?_
          exact fe_197_77 hd ih _ _ _ _ _ _ _ _ _ h
def fm_197 (x1 : Int32) (σ : fx_S) : Option (fx_S) :=
  (fm_177 x1 σ).bind fun q60 =>
  fm_197_7 100000 x1 (0 : Int32) q60
theorem fe_197 {d : Nat} (hd : 5 ≤ d) {x1 : Int32} {σ : fx_S} {q : fx_S} (h : fm_197 x1 σ = some q) : fx_E none 197 d 0 [some (.ref 215), some (.int x1), none, none, none] [] σ none q := by
  unfold fm_197 at h
  refine fs_aload_n (k := 0) (p := 1) (by decide +kernel) rfl rfl ?_
  refine fs_iload_n (k := 1) (p := 2) (by decide +kernel) rfl rfl ?_
  obtain ⟨q60, w59, h⟩ := fx_bd h
  refine fs_callV (idx := 290) (mj := 177) (ci := 10) (na := 1) (mx := 3) (p := 5) (args := [.ref 215, .int x1]) (rest := []) (al2 := [some (.ref 215), some (.int x1), none]) (by decide +kernel) rfl (by decide +kernel) fo_215 rfl rfl rfl rfl rfl rfl rfl (by omega) (fun d' hd' => fe_177 (by omega) w59) rfl ?_
  refine fs_iconst (n := 0) (p := 6) (by decide +kernel) rfl kc_0 ?_
  refine fs_istore_n (k := 2) (p := 7) (M := 5) (al' := [some (.ref 215), some (.int x1), some (.int (0 : Int32)), none, none]) (by decide +kernel) rfl mx_197 rfl rfl ?_
  exact fe_197_7 hd 100000 _ _ _ _ _ _ h

/-! ZoneSharesModel.isCell(II)Z -/
theorem mx_198 : iv_mx 198 = 3 := by decide +kernel
theorem rt_198 : iv_rt 198 = some .boolean := by decide +kernel
def fm_198 (x1 : Int32) (x2 : Int32) (σ : fx_S) : Option (Bool × fx_S) :=
  (fx_ld σ 216 (0 : Int32)).bind fun v16 =>
  (fm_130 (x1).toInt64 (0 : Int64) ((v16 - (1 : Int32))).toInt64 σ).bind fun q20 =>
  if (fx_b q20.1) = 0 then (
    some (false, q20.2)) else (
    (fx_ld q20.2 216 (1 : Int32)).bind fun v23 =>
    (fm_130 (x2).toInt64 (0 : Int64) ((v23 - (1 : Int32))).toInt64 q20.2).bind fun q27 =>
    if (fx_b q27.1) = 0 then (
      some (false, q27.2)) else (
      some (true, q27.2)))
theorem fe_198 {d : Nat} (hd : 1 ≤ d) {x1 : Int32} {x2 : Int32} {σ : fx_S} {q : Bool × fx_S} (h : fm_198 x1 x2 σ = some q) : fx_E none 198 d 0 [some (.ref 215), some (.int x1), some (.int x2)] [] σ (some (.int (fx_b q.1))) q.2 := by
  unfold fm_198 at h
  refine fs_iload_n (k := 1) (p := 1) (by decide +kernel) rfl rfl ?_
  refine fs_i2l (p := 2) (by decide +kernel) rfl ?_
  refine fs_lconst (n := 0) (p := 3) (by decide +kernel) rfl kl_0 ?_
  refine fs_aload_n (k := 0) (p := 4) (by decide +kernel) rfl rfl ?_
  refine fs_gfr (idx := 9) (ci := 10) (j := 0) (p := 7) (by decide +kernel) rfl (by decide +kernel) fo_215 (fr_a215_0) ?_
  refine fs_iconst (n := 0) (p := 8) (by decide +kernel) rfl kc_0 ?_
  obtain ⟨v16, w17, h⟩ := fx_bd h
  refine fs_iaload (p := 9) (by decide +kernel) rfl w17 ?_
  refine fs_iconst (n := 1) (p := 10) (by decide +kernel) rfl kc_1 ?_
  refine fs_isub (p := 11) (by decide +kernel) rfl ?_
  refine fs_i2l (p := 12) (by decide +kernel) rfl ?_
  obtain ⟨q20, w19, h⟩ := fx_bd h
  refine fs_callS (idx := 128) (mj := 130) (na := 3) (mx := 6) (p := 15) (args := [.long (x1).toInt64, .long (0 : Int64), .long ((v16 - (1 : Int32))).toInt64]) (rest := []) (al2 := [some (.long (x1).toInt64), none, some (.long (0 : Int64)), none, some (.long ((v16 - (1 : Int32))).toInt64), none]) (by decide +kernel) rfl (by decide +kernel) rfl rfl rfl rfl rfl rfl rfl (by omega) (fun d' hd' => fe_130 (by omega) w19) rfl ?_
  by_cases c21 : (fx_b q20.1) = 0
  · rw [if_pos c21] at h
    refine fs_if_eq_t (off := 25) (t := 40) (by decide +kernel) (by decide +kernel) c21 ?_
    refine fs_iconst (n := 0) (p := 41) (by decide +kernel) rfl kc_0 ?_
    have h := Option.some.inj h
    subst h
    exact fs_zret (b := false) (by decide +kernel) rt_198
  · rw [if_neg c21] at h
    refine fs_if_eq_f (off := 25) (t := 40) (p := 18) (by decide +kernel) (by decide +kernel) rfl c21 ?_
    refine fs_iload_n (k := 2) (p := 19) (by decide +kernel) rfl rfl ?_
    refine fs_i2l (p := 20) (by decide +kernel) rfl ?_
    refine fs_lconst (n := 0) (p := 21) (by decide +kernel) rfl kl_0 ?_
    refine fs_aload_n (k := 0) (p := 22) (by decide +kernel) rfl rfl ?_
    refine fs_gfr (idx := 9) (ci := 10) (j := 0) (p := 25) (by decide +kernel) rfl (by decide +kernel) fo_215 (fr_a215_0) ?_
    refine fs_iconst (n := 1) (p := 26) (by decide +kernel) rfl kc_1 ?_
    obtain ⟨v23, w24, h⟩ := fx_bd h
    refine fs_iaload (p := 27) (by decide +kernel) rfl w24 ?_
    refine fs_iconst (n := 1) (p := 28) (by decide +kernel) rfl kc_1 ?_
    refine fs_isub (p := 29) (by decide +kernel) rfl ?_
    refine fs_i2l (p := 30) (by decide +kernel) rfl ?_
    obtain ⟨q27, w26, h⟩ := fx_bd h
    refine fs_callS (idx := 128) (mj := 130) (na := 3) (mx := 6) (p := 33) (args := [.long (x2).toInt64, .long (0 : Int64), .long ((v23 - (1 : Int32))).toInt64]) (rest := []) (al2 := [some (.long (x2).toInt64), none, some (.long (0 : Int64)), none, some (.long ((v23 - (1 : Int32))).toInt64), none]) (by decide +kernel) rfl (by decide +kernel) rfl rfl rfl rfl rfl rfl rfl (by omega) (fun d' hd' => fe_130 (by omega) w26) rfl ?_
    by_cases c28 : (fx_b q27.1) = 0
    · rw [if_pos c28] at h
      refine fs_if_eq_t (off := 7) (t := 40) (by decide +kernel) (by decide +kernel) c28 ?_
      refine fs_iconst (n := 0) (p := 41) (by decide +kernel) rfl kc_0 ?_
      have h := Option.some.inj h
      subst h
      exact fs_zret (b := false) (by decide +kernel) rt_198
    · rw [if_neg c28] at h
      refine fs_if_eq_f (off := 7) (t := 40) (p := 36) (by decide +kernel) (by decide +kernel) rfl c28 ?_
      refine fs_iconst (n := 1) (p := 37) (by decide +kernel) rfl kc_1 ?_
      refine fs_goto (off := 4) (p := 41) (by decide +kernel) (by decide +kernel) ?_
      have h := Option.some.inj h
      subst h
      exact fs_zret (b := true) (by decide +kernel) rt_198

/-! ZoneSharesModel.surface(IIII)J -/
theorem mx_199 : iv_mx 199 = 6 := by decide +kernel
theorem rt_199 : iv_rt 199 = some .long := by decide +kernel
def fm_199_34 (σ : fx_S) : Option (Int64 × fx_S) :=
  some ((-1 : Int64), σ)
theorem fe_199_34 {d : Nat} (hd : 6 ≤ d) (o0 : Option Value) (o1 : Option Value) (o2 : Option Value) (o3 : Option Value) (o4 : Option Value) (σ : fx_S) (q : Int64 × fx_S) (h : fm_199_34  σ = some q) : fx_E none 199 d 34 [o0, o1, o2, o3, o4, none] [] σ (some (.long q.1)) q.2 := by
  unfold fm_199_34 at h
  refine fs_ldc2 (idx := 306) (p := 37) (x := -1) (by decide +kernel) rfl (by decide +kernel) ?_
  have h := Option.some.inj h
  subst h
  exact fs_lret (by decide +kernel) rt_199
def fm_199 (x1 : Int32) (x2 : Int32) (x3 : Int32) (x4 : Int32) (σ : fx_S) : Option (Int64 × fx_S) :=
  (fm_150 σ).bind fun q26 =>
  if (fx_b q26.1) = 0 then (
    fm_199_34 q26.2) else (
    (fm_148 x1 q26.2).bind fun q29 =>
    if (fx_b q29.1) = 0 then (
      fm_199_34 q29.2) else (
      (fm_198 x2 x3 q29.2).bind fun q32 =>
      if (fx_b q32.1) = 0 then (
        fm_199_34 q32.2) else (
        (fm_130 (x4).toInt64 (0 : Int64) (1 : Int64) q32.2).bind fun q36 =>
        if ¬ (fx_b q36.1) = 0 then (
          (fm_197 x1 q36.2).bind fun q39 =>
          (fx_ld q39 216 (1 : Int32)).bind fun v40 =>
          (fx_ldl q39 240 ((v40 * x2) + x3)).bind fun v42 =>
          (fx_ldl q39 241 ((v40 * x2) + x3)).bind fun v45 =>
          (fm_194 v42 v45 x4 q39).bind fun q48 =>
          some (q48.1, q48.2)) else (
          fm_199_34 q36.2))))
theorem fe_199 {d : Nat} (hd : 6 ≤ d) {x1 : Int32} {x2 : Int32} {x3 : Int32} {x4 : Int32} {σ : fx_S} {q : Int64 × fx_S} (h : fm_199 x1 x2 x3 x4 σ = some q) : fx_E none 199 d 0 [some (.ref 215), some (.int x1), some (.int x2), some (.int x3), some (.int x4), none] [] σ (some (.long q.1)) q.2 := by
  unfold fm_199 at h
  refine fs_aload_n (k := 0) (p := 1) (by decide +kernel) rfl rfl ?_
  obtain ⟨q26, w25, h⟩ := fx_bd h
  refine fs_callV (idx := 303) (mj := 150) (ci := 10) (na := 0) (mx := 1) (p := 4) (args := [.ref 215]) (rest := []) (al2 := [some (.ref 215)]) (by decide +kernel) rfl (by decide +kernel) fo_215 rfl rfl rfl rfl rfl rfl rfl (by omega) (fun d' hd' => fe_150 (by omega) w25) rfl ?_
  by_cases c27 : (fx_b q26.1) = 0
  · rw [if_pos c27] at h
    refine fs_if_eq_t (off := 30) (t := 34) (by decide +kernel) (by decide +kernel) c27 ?_
    exact fe_199_34 hd _ _ _ _ _ _ _ h
  · rw [if_neg c27] at h
    refine fs_if_eq_f (off := 30) (t := 34) (p := 7) (by decide +kernel) (by decide +kernel) rfl c27 ?_
    refine fs_iload_n (k := 1) (p := 8) (by decide +kernel) rfl rfl ?_
    obtain ⟨q29, w28, h⟩ := fx_bd h
    refine fs_callS (idx := 190) (mj := 148) (na := 1) (mx := 1) (p := 11) (args := [.int x1]) (rest := []) (al2 := [some (.int x1)]) (by decide +kernel) rfl (by decide +kernel) rfl rfl rfl rfl rfl rfl rfl (by omega) (fun d' hd' => fe_148 (by omega) w28) rfl ?_
    by_cases c30 : (fx_b q29.1) = 0
    · rw [if_pos c30] at h
      refine fs_if_eq_t (off := 23) (t := 34) (by decide +kernel) (by decide +kernel) c30 ?_
      exact fe_199_34 hd _ _ _ _ _ _ _ h
    · rw [if_neg c30] at h
      refine fs_if_eq_f (off := 23) (t := 34) (p := 14) (by decide +kernel) (by decide +kernel) rfl c30 ?_
      refine fs_aload_n (k := 0) (p := 15) (by decide +kernel) rfl rfl ?_
      refine fs_iload_n (k := 2) (p := 16) (by decide +kernel) rfl rfl ?_
      refine fs_iload_n (k := 3) (p := 17) (by decide +kernel) rfl rfl ?_
      obtain ⟨q32, w31, h⟩ := fx_bd h
      refine fs_callV (idx := 346) (mj := 198) (ci := 10) (na := 2) (mx := 3) (p := 20) (args := [.ref 215, .int x2, .int x3]) (rest := []) (al2 := [some (.ref 215), some (.int x2), some (.int x3)]) (by decide +kernel) rfl (by decide +kernel) fo_215 rfl rfl rfl rfl rfl rfl rfl (by omega) (fun d' hd' => fe_198 (by omega) w31) rfl ?_
      by_cases c33 : (fx_b q32.1) = 0
      · rw [if_pos c33] at h
        refine fs_if_eq_t (off := 14) (t := 34) (by decide +kernel) (by decide +kernel) c33 ?_
        exact fe_199_34 hd _ _ _ _ _ _ _ h
      · rw [if_neg c33] at h
        refine fs_if_eq_f (off := 14) (t := 34) (p := 23) (by decide +kernel) (by decide +kernel) rfl c33 ?_
        refine fs_iload (k := 4) (p := 25) (by decide +kernel) rfl rfl ?_
        refine fs_i2l (p := 26) (by decide +kernel) rfl ?_
        refine fs_lconst (n := 0) (p := 27) (by decide +kernel) rfl kl_0 ?_
        refine fs_lconst (n := 1) (p := 28) (by decide +kernel) rfl kl_1 ?_
        obtain ⟨q36, w35, h⟩ := fx_bd h
        refine fs_callS (idx := 128) (mj := 130) (na := 3) (mx := 6) (p := 31) (args := [.long (x4).toInt64, .long (0 : Int64), .long (1 : Int64)]) (rest := []) (al2 := [some (.long (x4).toInt64), none, some (.long (0 : Int64)), none, some (.long (1 : Int64)), none]) (by decide +kernel) rfl (by decide +kernel) rfl rfl rfl rfl rfl rfl rfl (by omega) (fun d' hd' => fe_130 (by omega) w35) rfl ?_
        by_cases c37 : ¬ (fx_b q36.1) = 0
        · rw [if_pos c37] at h
          refine fs_if_ne_t (off := 7) (t := 38) (by decide +kernel) (by decide +kernel) c37 ?_
          refine fs_aload_n (k := 0) (p := 39) (by decide +kernel) rfl rfl ?_
          refine fs_iload_n (k := 1) (p := 40) (by decide +kernel) rfl rfl ?_
          obtain ⟨q39, w38, h⟩ := fx_bd h
          refine fs_callV (idx := 349) (mj := 197) (ci := 10) (na := 1) (mx := 5) (p := 43) (args := [.ref 215, .int x1]) (rest := []) (al2 := [some (.ref 215), some (.int x1), none, none, none]) (by decide +kernel) rfl (by decide +kernel) fo_215 rfl rfl rfl rfl rfl rfl rfl (by omega) (fun d' hd' => fe_197 (by omega) w38) rfl ?_
          refine fs_aload_n (k := 0) (p := 44) (by decide +kernel) rfl rfl ?_
          refine fs_gfr (idx := 9) (ci := 10) (j := 0) (p := 47) (by decide +kernel) rfl (by decide +kernel) fo_215 (fr_a215_0) ?_
          refine fs_iconst (n := 1) (p := 48) (by decide +kernel) rfl kc_1 ?_
          obtain ⟨v40, w41, h⟩ := fx_bd h
          refine fs_iaload (p := 49) (by decide +kernel) rfl w41 ?_
          refine fs_iload_n (k := 2) (p := 50) (by decide +kernel) rfl rfl ?_
          refine fs_imul (p := 51) (by decide +kernel) rfl ?_
          refine fs_iload_n (k := 3) (p := 52) (by decide +kernel) rfl rfl ?_
          refine fs_iadd (p := 53) (by decide +kernel) rfl ?_
          refine fs_istore (k := 5) (p := 55) (M := 6) (al' := [some (.ref 215), some (.int x1), some (.int x2), some (.int x3), some (.int x4), some (.int ((v40 * x2) + x3))]) (by decide +kernel) rfl mx_199 rfl rfl ?_
          refine fs_aload_n (k := 0) (p := 56) (by decide +kernel) rfl rfl ?_
          refine fs_gfr (idx := 85) (ci := 10) (j := 35) (p := 59) (by decide +kernel) rfl (by decide +kernel) fo_215 (fr_a215_35) ?_
          refine fs_iload (k := 5) (p := 61) (by decide +kernel) rfl rfl ?_
          obtain ⟨v42, w43, h⟩ := fx_bd h
          refine fs_laload (p := 62) (by decide +kernel) rfl w43 ?_
          refine fs_aload_n (k := 0) (p := 63) (by decide +kernel) rfl rfl ?_
          refine fs_gfr (idx := 88) (ci := 10) (j := 36) (p := 66) (by decide +kernel) rfl (by decide +kernel) fo_215 (fr_a215_36) ?_
          refine fs_iload (k := 5) (p := 68) (by decide +kernel) rfl rfl ?_
          obtain ⟨v45, w46, h⟩ := fx_bd h
          refine fs_laload (p := 69) (by decide +kernel) rfl w46 ?_
          refine fs_iload (k := 4) (p := 71) (by decide +kernel) rfl rfl ?_
          obtain ⟨q48, w47, h⟩ := fx_bd h
          refine fs_callS (idx := 342) (mj := 194) (na := 3) (mx := 7) (p := 74) (args := [.long v42, .long v45, .int x4]) (rest := []) (al2 := [some (.long v42), none, some (.long v45), none, some (.int x4), none, none]) (by decide +kernel) rfl (by decide +kernel) rfl rfl rfl rfl rfl rfl rfl (by omega) (fun d' hd' => fe_194 (by omega) w47) rfl ?_
          have h := Option.some.inj h
          subst h
          exact fs_lret (by decide +kernel) rt_199
        · rw [if_neg c37] at h
          refine fs_if_ne_f (off := 7) (t := 38) (p := 34) (by decide +kernel) (by decide +kernel) rfl c37 ?_
          exact fe_199_34 hd _ _ _ _ _ _ _ h

/-! ZoneSharesModel.isAhead(II)Z -/
theorem mx_200 : iv_mx 200 = 7 := by decide +kernel
theorem rt_200 : iv_rt 200 = some .boolean := by decide +kernel
def fm_200 (x1 : Int32) (x2 : Int32) (σ : fx_S) : Option (Bool × fx_S) :=
  (fx_ldl σ 240 x1).bind fun v18 =>
  (fx_ldl σ 241 x2).bind fun v21 =>
  (fx_ldl σ 240 x2).bind fun v24 =>
  (fx_ldl σ 241 x1).bind fun v26 =>
  if (v18 * v21) = (v24 * v26) then (
    if x2 ≤ x1 then (
      some (false, σ)) else (
      some (true, σ))) else (
    if (v18 * v21) ≤ (v24 * v26) then (
      some (false, σ)) else (
      some (true, σ)))
theorem fe_200 {d : Nat} (hd : 0 ≤ d) {x1 : Int32} {x2 : Int32} {σ : fx_S} {q : Bool × fx_S} (h : fm_200 x1 x2 σ = some q) : fx_E none 200 d 0 [some (.ref 215), some (.int x1), some (.int x2), none, none, none, none] [] σ (some (.int (fx_b q.1))) q.2 := by
  unfold fm_200 at h
  refine fs_aload_n (k := 0) (p := 1) (by decide +kernel) rfl rfl ?_
  refine fs_gfr (idx := 85) (ci := 10) (j := 35) (p := 4) (by decide +kernel) rfl (by decide +kernel) fo_215 (fr_a215_35) ?_
  refine fs_iload_n (k := 1) (p := 5) (by decide +kernel) rfl rfl ?_
  obtain ⟨v18, w19, h⟩ := fx_bd h
  refine fs_laload (p := 6) (by decide +kernel) rfl w19 ?_
  refine fs_aload_n (k := 0) (p := 7) (by decide +kernel) rfl rfl ?_
  refine fs_gfr (idx := 88) (ci := 10) (j := 36) (p := 10) (by decide +kernel) rfl (by decide +kernel) fo_215 (fr_a215_36) ?_
  refine fs_iload_n (k := 2) (p := 11) (by decide +kernel) rfl rfl ?_
  obtain ⟨v21, w22, h⟩ := fx_bd h
  refine fs_laload (p := 12) (by decide +kernel) rfl w22 ?_
  refine fs_lmul (p := 13) (by decide +kernel) rfl ?_
  refine fs_lstore_n (k := 3) (p := 14) (M := 7) (al' := [some (.ref 215), some (.int x1), some (.int x2), some (.long (v18 * v21)), none, none, none]) (by decide +kernel) rfl mx_200 rfl rfl ?_
  refine fs_aload_n (k := 0) (p := 15) (by decide +kernel) rfl rfl ?_
  refine fs_gfr (idx := 85) (ci := 10) (j := 35) (p := 18) (by decide +kernel) rfl (by decide +kernel) fo_215 (fr_a215_35) ?_
  refine fs_iload_n (k := 2) (p := 19) (by decide +kernel) rfl rfl ?_
  obtain ⟨v24, w25, h⟩ := fx_bd h
  refine fs_laload (p := 20) (by decide +kernel) rfl w25 ?_
  refine fs_aload_n (k := 0) (p := 21) (by decide +kernel) rfl rfl ?_
  refine fs_gfr (idx := 88) (ci := 10) (j := 36) (p := 24) (by decide +kernel) rfl (by decide +kernel) fo_215 (fr_a215_36) ?_
  refine fs_iload_n (k := 1) (p := 25) (by decide +kernel) rfl rfl ?_
  obtain ⟨v26, w27, h⟩ := fx_bd h
  refine fs_laload (p := 26) (by decide +kernel) rfl w27 ?_
  refine fs_lmul (p := 27) (by decide +kernel) rfl ?_
  refine fs_lstore (k := 5) (p := 29) (M := 7) (al' := [some (.ref 215), some (.int x1), some (.int x2), some (.long (v18 * v21)), none, some (.long (v24 * v26)), none]) (by decide +kernel) rfl mx_200 rfl rfl ?_
  refine fs_lload_n (k := 3) (p := 30) (by decide +kernel) rfl rfl ?_
  refine fs_lload (k := 5) (p := 32) (by decide +kernel) rfl rfl ?_
  by_cases c30 : (v18 * v21) = (v24 * v26)
  · rw [if_pos c30] at h
    refine fs_lcmp_eq_t (off := 18) (t := 51) (by decide +kernel) (by decide +kernel) (by decide +kernel) c30 ?_
    refine fs_iload_n (k := 1) (p := 52) (by decide +kernel) rfl rfl ?_
    refine fs_iload_n (k := 2) (p := 53) (by decide +kernel) rfl rfl ?_
    by_cases c33 : x2 ≤ x1
    · rw [if_pos c33] at h
      refine fs_icmp_ge_t (off := 7) (t := 60) (by decide +kernel) (by decide +kernel) c33 ?_
      refine fs_iconst (n := 0) (p := 61) (by decide +kernel) rfl kc_0 ?_
      have h := Option.some.inj h
      subst h
      exact fs_zret (b := false) (by decide +kernel) rt_200
    · rw [if_neg c33] at h
      refine fs_icmp_ge_f (off := 7) (t := 60) (p := 56) (by decide +kernel) (by decide +kernel) rfl c33 ?_
      refine fs_iconst (n := 1) (p := 57) (by decide +kernel) rfl kc_1 ?_
      refine fs_goto (off := 4) (p := 61) (by decide +kernel) (by decide +kernel) ?_
      have h := Option.some.inj h
      subst h
      exact fs_zret (b := true) (by decide +kernel) rt_200
  · rw [if_neg c30] at h
    refine fs_lcmp_eq_f (off := 18) (t := 51) (p := 36) (by decide +kernel) (by decide +kernel) (by decide +kernel) rfl c30 ?_
    refine fs_lload_n (k := 3) (p := 37) (by decide +kernel) rfl rfl ?_
    refine fs_lload (k := 5) (p := 39) (by decide +kernel) rfl rfl ?_
    by_cases c34 : (v18 * v21) ≤ (v24 * v26)
    · rw [if_pos c34] at h
      refine fs_lcmp_le_t (off := 7) (t := 47) (by decide +kernel) (by decide +kernel) (by decide +kernel) c34 ?_
      refine fs_iconst (n := 0) (p := 48) (by decide +kernel) rfl kc_0 ?_
      refine fs_goto (off := 13) (p := 61) (by decide +kernel) (by decide +kernel) ?_
      have h := Option.some.inj h
      subst h
      exact fs_zret (b := false) (by decide +kernel) rt_200
    · rw [if_neg c34] at h
      refine fs_lcmp_le_f (off := 7) (t := 47) (p := 43) (by decide +kernel) (by decide +kernel) (by decide +kernel) rfl c34 ?_
      refine fs_iconst (n := 1) (p := 44) (by decide +kernel) rfl kc_1 ?_
      refine fs_goto (off := 17) (p := 61) (by decide +kernel) (by decide +kernel) ?_
      have h := Option.some.inj h
      subst h
      exact fs_zret (b := true) (by decide +kernel) rt_200

/-! ZoneSharesModel.densest(II)I -/
theorem mx_201 : iv_mx 201 = 6 := by decide +kernel
theorem rt_201 : iv_rt 201 = some .int := by decide +kernel
def fm_201_53 (k_39 : Int32 → Int32 → fx_S → Option (Int32 × fx_S)) : Nat → Int32 → Int32 → Int32 → Int32 → fx_S → Option (Int32 × fx_S)
  | 0, _, _, _, _, _ => none
  | n + 1, x2, x3, x4, x5, σ =>
    (fm_151 σ).bind fun q2 =>
    if q2.1 ≤ x5 then (
      if ¬ x4 = x2 then (
        k_39 x2 (x3 + (1 : Int32)) q2.2) else (
        (fx_ld q2.2 216 (1 : Int32)).bind fun v9 =>
        if ¬ v9 = 0 then (
        (fx_ld q2.2 216 (1 : Int32)).bind fun v13 =>
        if ¬ v13 = 0 then (
        some ((((12 : Int32) * (x3 / v9)) + (x3 - x3 / v13 * v13)), q2.2)) else none) else none)) else (
      (fm_200 x5 x3 q2.2).bind fun q17 =>
      (fm_131 (fx_b q17.1) q17.2).bind fun q19 =>
      fm_201_53 k_39 n x2 x3 (x4 + q19.1) (x5 + (1 : Int32)) q19.2)
theorem fe_201_53 {d : Nat} (hd : 6 ≤ d) {k_39 : Int32 → Int32 → fx_S → Option (Int32 × fx_S)} (hk_39 : ∀ (x2 : Int32) (x3 : Int32) (o1 : Option Value) (o4 : Option Value) (o5 : Option Value) (σ : fx_S) (q : Int32 × fx_S), k_39 x2 x3 σ = some q → fx_E none 201 d 39 [some (.ref 215), o1, some (.int x2), some (.int x3), o4, o5] [] σ (some (.int q.1)) q.2) : ∀ (n : Nat) (x2 : Int32) (x3 : Int32) (x4 : Int32) (x5 : Int32) (o1 : Option Value) (σ : fx_S) (q : Int32 × fx_S), fm_201_53 k_39 n x2 x3 x4 x5 σ = some q → fx_E none 201 d 53 [some (.ref 215), o1, some (.int x2), some (.int x3), some (.int x4), some (.int x5)] [] σ (some (.int q.1)) q.2 := by
  intro n
  induction n with
  | zero =>
    intro x2 x3 x4 x5 o1 σ q  h
    rw [fm_201_53] at h
    exact fx_no h
  | succ n ih =>
    intro x2 x3 x4 x5 o1 σ q  h
    rw [fm_201_53] at h
    refine fs_iload (k := 5) (p := 55) (by decide +kernel) rfl rfl ?_
    refine fs_aload_n (k := 0) (p := 56) (by decide +kernel) rfl rfl ?_
    obtain ⟨q2, w1, h⟩ := fx_bd h
    refine fs_callV (idx := 196) (mj := 151) (ci := 10) (na := 0) (mx := 1) (p := 59) (args := [.ref 215]) (rest := [.int x5]) (al2 := [some (.ref 215)]) (by decide +kernel) rfl (by decide +kernel) fo_215 rfl rfl rfl rfl rfl rfl rfl (by omega) (fun d' hd' => fe_151 (by omega) w1) rfl ?_
    by_cases c5 : q2.1 ≤ x5
    · rw [if_pos c5] at h
      refine fs_icmp_ge_t (off := 24) (t := 83) (by decide +kernel) (by decide +kernel) c5 ?_
      refine fs_iload (k := 4) (p := 85) (by decide +kernel) rfl rfl ?_
      refine fs_iload_n (k := 2) (p := 86) (by decide +kernel) rfl rfl ?_
      by_cases c8 : ¬ x4 = x2
      · rw [if_pos c8] at h
        refine fs_icmp_ne_t (off := 24) (t := 110) (by decide +kernel) (by decide +kernel) c8 ?_
        refine fs_iinc (k := 3) (n := 1) (p := 113) (M := 6) (al' := [some (.ref 215), o1, some (.int x2), some (.int (x3 + (1 : Int32))), some (.int x4), some (.int x5)]) (by decide +kernel) rfl kc_1 mx_201 rfl rfl rfl ?_
        refine fs_goto (off := -74) (p := 39) (by decide +kernel) (by decide +kernel) ?_
        exact hk_39 _ _ _ _ _ _ _ h
      · rw [if_neg c8] at h
        refine fs_icmp_ne_f (off := 24) (t := 110) (p := 89) (by decide +kernel) (by decide +kernel) rfl c8 ?_
        refine fs_bipush (n := 12) (p := 91) (by decide +kernel) rfl kb_12 ?_
        refine fs_iload_n (k := 3) (p := 92) (by decide +kernel) rfl rfl ?_
        refine fs_aload_n (k := 0) (p := 93) (by decide +kernel) rfl rfl ?_
        refine fs_gfr (idx := 9) (ci := 10) (j := 0) (p := 96) (by decide +kernel) rfl (by decide +kernel) fo_215 (fr_a215_0) ?_
        refine fs_iconst (n := 1) (p := 97) (by decide +kernel) rfl kc_1 ?_
        obtain ⟨v9, w10, h⟩ := fx_bd h
        refine fs_iaload (p := 98) (by decide +kernel) rfl w10 ?_
        obtain ⟨z12, h⟩ := fx_gd h
        refine fs_idiv (p := 99) (by decide +kernel) rfl z12 ?_
        refine fs_imul (p := 100) (by decide +kernel) rfl ?_
        refine fs_iload_n (k := 3) (p := 101) (by decide +kernel) rfl rfl ?_
        refine fs_aload_n (k := 0) (p := 102) (by decide +kernel) rfl rfl ?_
        refine fs_gfr (idx := 9) (ci := 10) (j := 0) (p := 105) (by decide +kernel) rfl (by decide +kernel) fo_215 (fr_a215_0) ?_
        refine fs_iconst (n := 1) (p := 106) (by decide +kernel) rfl kc_1 ?_
        obtain ⟨v13, w14, h⟩ := fx_bd h
        refine fs_iaload (p := 107) (by decide +kernel) rfl w14 ?_
        obtain ⟨z15, h⟩ := fx_gd h
        refine fs_irem (p := 108) (by decide +kernel) rfl z15 ?_
        refine fs_iadd (p := 109) (by decide +kernel) rfl ?_
        have h := Option.some.inj h
        subst h
        exact fs_iret (by decide +kernel) rt_201
    · rw [if_neg c5] at h
      refine fs_icmp_ge_f (off := 24) (t := 83) (p := 62) (by decide +kernel) (by decide +kernel) rfl c5 ?_
      refine fs_iload (k := 4) (p := 64) (by decide +kernel) rfl rfl ?_
      refine fs_aload_n (k := 0) (p := 65) (by decide +kernel) rfl rfl ?_
      refine fs_iload (k := 5) (p := 67) (by decide +kernel) rfl rfl ?_
      refine fs_iload_n (k := 3) (p := 68) (by decide +kernel) rfl rfl ?_
      obtain ⟨q17, w16, h⟩ := fx_bd h
      refine fs_callV (idx := 352) (mj := 200) (ci := 10) (na := 2) (mx := 7) (p := 71) (args := [.ref 215, .int x5, .int x3]) (rest := [.int x4]) (al2 := [some (.ref 215), some (.int x5), some (.int x3), none, none, none, none]) (by decide +kernel) rfl (by decide +kernel) fo_215 rfl rfl rfl rfl rfl rfl rfl (by omega) (fun d' hd' => fe_200 (by omega) w16) rfl ?_
      obtain ⟨q19, w18, h⟩ := fx_bd h
      refine fs_callS (idx := 186) (mj := 131) (na := 1) (mx := 1) (p := 74) (args := [.int (fx_b q17.1)]) (rest := [.int x4]) (al2 := [some (.int (fx_b q17.1))]) (by decide +kernel) rfl (by decide +kernel) rfl rfl rfl rfl rfl rfl rfl (by omega) (fun d' hd' => fe_131 (by omega) w18) rfl ?_
      refine fs_iadd (p := 75) (by decide +kernel) rfl ?_
      refine fs_istore (k := 4) (p := 77) (M := 6) (al' := [some (.ref 215), o1, some (.int x2), some (.int x3), some (.int (x4 + q19.1)), some (.int x5)]) (by decide +kernel) rfl mx_201 rfl rfl ?_
      refine fs_iinc (k := 5) (n := 1) (p := 80) (M := 6) (al' := [some (.ref 215), o1, some (.int x2), some (.int x3), some (.int (x4 + q19.1)), some (.int (x5 + (1 : Int32)))]) (by decide +kernel) rfl kc_1 mx_201 rfl rfl rfl ?_
      refine fs_goto (off := -27) (p := 53) (by decide +kernel) (by decide +kernel) ?_
      exact ih _ _ _ _ _ _ _ h
def fm_201_39 : Nat → Int32 → Int32 → fx_S → Option (Int32 × fx_S)
  | 0, _, _, _ => none
  | n + 1, x2, x3, σ =>
    (fm_151 σ).bind fun q2 =>
    if q2.1 ≤ x3 then (
      some ((-1 : Int32), q2.2)) else (
      fm_201_53 (fm_201_39 n) 100000 x2 x3 (0 : Int32) (0 : Int32) q2.2)
theorem fe_201_39 {d : Nat} (hd : 6 ≤ d) : ∀ (n : Nat) (x2 : Int32) (x3 : Int32) (o1 : Option Value) (o4 : Option Value) (o5 : Option Value) (σ : fx_S) (q : Int32 × fx_S), fm_201_39 n x2 x3 σ = some q → fx_E none 201 d 39 [some (.ref 215), o1, some (.int x2), some (.int x3), o4, o5] [] σ (some (.int q.1)) q.2 := by
  intro n
  induction n with
  | zero =>
    intro x2 x3 o1 o4 o5 σ q  h
    rw [fm_201_39] at h
    exact fx_no h
  | succ n ih =>
    intro x2 x3 o1 o4 o5 σ q  h
    rw [fm_201_39] at h
    refine fs_iload_n (k := 3) (p := 40) (by decide +kernel) rfl rfl ?_
    refine fs_aload_n (k := 0) (p := 41) (by decide +kernel) rfl rfl ?_
    obtain ⟨q2, w1, h⟩ := fx_bd h
    refine fs_callV (idx := 196) (mj := 151) (ci := 10) (na := 0) (mx := 1) (p := 44) (args := [.ref 215]) (rest := [.int x3]) (al2 := [some (.ref 215)]) (by decide +kernel) rfl (by decide +kernel) fo_215 rfl rfl rfl rfl rfl rfl rfl (by omega) (fun d' hd' => fe_151 (by omega) w1) rfl ?_
    by_cases c5 : q2.1 ≤ x3
    · rw [if_pos c5] at h
      refine fs_icmp_ge_t (off := 72) (t := 116) (by decide +kernel) (by decide +kernel) c5 ?_
      refine fs_iconst (n := -1) (p := 117) (by decide +kernel) rfl kc_m1 ?_
      have h := Option.some.inj h
      subst h
      exact fs_iret (by decide +kernel) rt_201
    · rw [if_neg c5] at h
      refine fs_icmp_ge_f (off := 72) (t := 116) (p := 47) (by decide +kernel) (by decide +kernel) rfl c5 ?_
      refine fs_iconst (n := 0) (p := 48) (by decide +kernel) rfl kc_0 ?_
      refine fs_istore (k := 4) (p := 50) (M := 6) (al' := [some (.ref 215), o1, some (.int x2), some (.int x3), some (.int (0 : Int32)), o5]) (by decide +kernel) rfl mx_201 rfl rfl ?_
      refine fs_iconst (n := 0) (p := 51) (by decide +kernel) rfl kc_0 ?_
      refine fs_istore (k := 5) (p := 53) (M := 6) (al' := [some (.ref 215), o1, some (.int x2), some (.int x3), some (.int (0 : Int32)), some (.int (0 : Int32))]) (by decide +kernel) rfl mx_201 rfl rfl ?_
      exact fe_201_53 hd ih 100000 _ _ _ _ _ _ _ h
def fm_201 (x1 : Int32) (x2 : Int32) (σ : fx_S) : Option (Int32 × fx_S) :=
  (fm_150 σ).bind fun q46 =>
  if (fx_b q46.1) = 0 then (
    some ((-1 : Int32), q46.2)) else (
    (fm_148 x1 q46.2).bind fun q49 =>
    if (fx_b q49.1) = 0 then (
      some ((-1 : Int32), q49.2)) else (
      (fm_151 q49.2).bind fun q53 =>
      (fm_130 (x2).toInt64 (0 : Int64) ((q53.1 - (1 : Int32))).toInt64 q53.2).bind fun q56 =>
      if ¬ (fx_b q56.1) = 0 then (
        (fm_197 x1 q56.2).bind fun q59 =>
        fm_201_39 100000 x2 (0 : Int32) q59) else (
        some ((-1 : Int32), q56.2))))
theorem fe_201 {d : Nat} (hd : 6 ≤ d) {x1 : Int32} {x2 : Int32} {σ : fx_S} {q : Int32 × fx_S} (h : fm_201 x1 x2 σ = some q) : fx_E none 201 d 0 [some (.ref 215), some (.int x1), some (.int x2), none, none, none] [] σ (some (.int q.1)) q.2 := by
  unfold fm_201 at h
  refine fs_aload_n (k := 0) (p := 1) (by decide +kernel) rfl rfl ?_
  obtain ⟨q46, w45, h⟩ := fx_bd h
  refine fs_callV (idx := 303) (mj := 150) (ci := 10) (na := 0) (mx := 1) (p := 4) (args := [.ref 215]) (rest := []) (al2 := [some (.ref 215)]) (by decide +kernel) rfl (by decide +kernel) fo_215 rfl rfl rfl rfl rfl rfl rfl (by omega) (fun d' hd' => fe_150 (by omega) w45) rfl ?_
  by_cases c47 : (fx_b q46.1) = 0
  · rw [if_pos c47] at h
    refine fs_if_eq_t (off := 26) (t := 30) (by decide +kernel) (by decide +kernel) c47 ?_
    refine fs_iconst (n := -1) (p := 31) (by decide +kernel) rfl kc_m1 ?_
    have h := Option.some.inj h
    subst h
    exact fs_iret (by decide +kernel) rt_201
  · rw [if_neg c47] at h
    refine fs_if_eq_f (off := 26) (t := 30) (p := 7) (by decide +kernel) (by decide +kernel) rfl c47 ?_
    refine fs_iload_n (k := 1) (p := 8) (by decide +kernel) rfl rfl ?_
    obtain ⟨q49, w48, h⟩ := fx_bd h
    refine fs_callS (idx := 190) (mj := 148) (na := 1) (mx := 1) (p := 11) (args := [.int x1]) (rest := []) (al2 := [some (.int x1)]) (by decide +kernel) rfl (by decide +kernel) rfl rfl rfl rfl rfl rfl rfl (by omega) (fun d' hd' => fe_148 (by omega) w48) rfl ?_
    by_cases c50 : (fx_b q49.1) = 0
    · rw [if_pos c50] at h
      refine fs_if_eq_t (off := 19) (t := 30) (by decide +kernel) (by decide +kernel) c50 ?_
      refine fs_iconst (n := -1) (p := 31) (by decide +kernel) rfl kc_m1 ?_
      have h := Option.some.inj h
      subst h
      exact fs_iret (by decide +kernel) rt_201
    · rw [if_neg c50] at h
      refine fs_if_eq_f (off := 19) (t := 30) (p := 14) (by decide +kernel) (by decide +kernel) rfl c50 ?_
      refine fs_iload_n (k := 2) (p := 15) (by decide +kernel) rfl rfl ?_
      refine fs_i2l (p := 16) (by decide +kernel) rfl ?_
      refine fs_lconst (n := 0) (p := 17) (by decide +kernel) rfl kl_0 ?_
      refine fs_aload_n (k := 0) (p := 18) (by decide +kernel) rfl rfl ?_
      obtain ⟨q53, w52, h⟩ := fx_bd h
      refine fs_callV (idx := 196) (mj := 151) (ci := 10) (na := 0) (mx := 1) (p := 21) (args := [.ref 215]) (rest := [.long (0 : Int64), .long (x2).toInt64]) (al2 := [some (.ref 215)]) (by decide +kernel) rfl (by decide +kernel) fo_215 rfl rfl rfl rfl rfl rfl rfl (by omega) (fun d' hd' => fe_151 (by omega) w52) rfl ?_
      refine fs_iconst (n := 1) (p := 22) (by decide +kernel) rfl kc_1 ?_
      refine fs_isub (p := 23) (by decide +kernel) rfl ?_
      refine fs_i2l (p := 24) (by decide +kernel) rfl ?_
      obtain ⟨q56, w55, h⟩ := fx_bd h
      refine fs_callS (idx := 128) (mj := 130) (na := 3) (mx := 6) (p := 27) (args := [.long (x2).toInt64, .long (0 : Int64), .long ((q53.1 - (1 : Int32))).toInt64]) (rest := []) (al2 := [some (.long (x2).toInt64), none, some (.long (0 : Int64)), none, some (.long ((q53.1 - (1 : Int32))).toInt64), none]) (by decide +kernel) rfl (by decide +kernel) rfl rfl rfl rfl rfl rfl rfl (by omega) (fun d' hd' => fe_130 (by omega) w55) rfl ?_
      by_cases c57 : ¬ (fx_b q56.1) = 0
      · rw [if_pos c57] at h
        refine fs_if_ne_t (off := 5) (t := 32) (by decide +kernel) (by decide +kernel) c57 ?_
        refine fs_aload_n (k := 0) (p := 33) (by decide +kernel) rfl rfl ?_
        refine fs_iload_n (k := 1) (p := 34) (by decide +kernel) rfl rfl ?_
        obtain ⟨q59, w58, h⟩ := fx_bd h
        refine fs_callV (idx := 349) (mj := 197) (ci := 10) (na := 1) (mx := 5) (p := 37) (args := [.ref 215, .int x1]) (rest := []) (al2 := [some (.ref 215), some (.int x1), none, none, none]) (by decide +kernel) rfl (by decide +kernel) fo_215 rfl rfl rfl rfl rfl rfl rfl (by omega) (fun d' hd' => fe_197 (by omega) w58) rfl ?_
        refine fs_iconst (n := 0) (p := 38) (by decide +kernel) rfl kc_0 ?_
        refine fs_istore_n (k := 3) (p := 39) (M := 6) (al' := [some (.ref 215), some (.int x1), some (.int x2), some (.int (0 : Int32)), none, none]) (by decide +kernel) rfl mx_201 rfl rfl ?_
        exact fe_201_39 hd 100000 _ _ _ _ _ _ _ h
      · rw [if_neg c57] at h
        refine fs_if_ne_f (off := 5) (t := 32) (p := 30) (by decide +kernel) (by decide +kernel) rfl c57 ?_
        refine fs_iconst (n := -1) (p := 31) (by decide +kernel) rfl kc_m1 ?_
        have h := Option.some.inj h
        subst h
        exact fs_iret (by decide +kernel) rt_201
