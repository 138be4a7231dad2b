/-! ZoneSharesModel.isGroup(I)Z -/
theorem mx_148 : iv_mx 148 = 1 := by decide +kernel
theorem rt_148 : iv_rt 148 = some .boolean := by decide +kernel
def fm_148 (x0 : Int32) (σ : fx_S) : Option (Bool × fx_S) :=
  (fm_130 (x0).toInt64 (0 : Int64) (2 : Int64) σ).bind fun q4 =>
  some (q4.1, q4.2)
theorem fe_148 {d : Nat} (hd : 1 ≤ d) {x0 : Int32} {σ : fx_S} {q : Bool × fx_S} (h : fm_148 x0 σ = some q) : fx_E none 148 d 0 [some (.int x0)] [] σ (some (.int (fx_b q.1))) q.2 := by
  unfold fm_148 at h
  refine fs_iload_n (k := 0) (p := 1) (by decide +kernel) rfl rfl ?_
  refine fs_i2l (p := 2) (by decide +kernel) rfl ?_
  refine fs_lconst (n := 0) (p := 3) (by decide +kernel) rfl kl_0 ?_
  refine fs_ldc2 (idx := 161) (p := 6) (x := 2) (by decide +kernel) rfl (by decide +kernel) ?_
  obtain ⟨q4, e3, h⟩ := fx_bd h
  refine fs_callS (idx := 128) (mj := 130) (na := 3) (mx := 6) (p := 9) (args := [.long (x0).toInt64, .long (0 : Int64), .long (2 : Int64)]) (rest := []) (al2 := [some (.long (x0).toInt64), none, some (.long (0 : Int64)), none, some (.long (2 : Int64)), none]) (by decide +kernel) rfl (by decide +kernel) rfl rfl rfl rfl rfl rfl rfl (by omega) (fun d' hd' => fe_130 (by omega) e3) rfl ?_
  have h := Option.some.inj h
  subst h
  exact fs_zret (b := q4.1) (by decide +kernel) rt_148

/-! ZoneSharesModel.isWhole()Z -/
theorem mx_150 : iv_mx 150 = 1 := by decide +kernel
theorem rt_150 : iv_rt 150 = some .boolean := by decide +kernel
def fm_150 (σ : fx_S) : Option (Bool × fx_S) :=
  (fx_ld σ 216 (2 : Int32)).bind fun v4 =>
  if ¬ v4 = (7 : Int32) then (
    some (false, σ)) else (
    some (true, σ))
theorem fe_150 {d : Nat} (hd : 0 ≤ d) {σ : fx_S} {q : Bool × fx_S} (h : fm_150 σ = some q) : fx_E none 150 d 0 [some (.ref 215)] [] σ (some (.int (fx_b q.1))) q.2 := by
  unfold fm_150 at h
  refine fs_aload_n (k := 0) (p := 1) (by decide +kernel) rfl rfl ?_
  refine fs_gfr (idx := 9) (ci := 10) (j := 0) (p := 4) (by decide +kernel) rfl (by decide +kernel) fo_215 (fr_a215_0) ?_
  refine fs_iconst (n := 2) (p := 5) (by decide +kernel) rfl kc_2 ?_
  obtain ⟨v4, e5, h⟩ := fx_bd h
  refine fs_iaload (p := 6) (by decide +kernel) rfl e5 ?_
  refine fs_bipush (n := 7) (p := 8) (by decide +kernel) rfl kb_7 ?_
  by_cases c6 : ¬ v4 = (7 : Int32)
  · rw [if_pos c6] at h
    refine fs_icmp_ne_t (off := 7) (t := 15) (by decide +kernel) (by decide +kernel) c6 ?_
    refine fs_iconst (n := 0) (p := 16) (by decide +kernel) rfl kc_0 ?_
    have h := Option.some.inj h
    subst h
    exact fs_zret (b := false) (by decide +kernel) rt_150
  · rw [if_neg c6] at h
    refine fs_icmp_ne_f (off := 7) (t := 15) (p := 11) (by decide +kernel) (by decide +kernel) rfl c6 ?_
    refine fs_iconst (n := 1) (p := 12) (by decide +kernel) rfl kc_1 ?_
    refine fs_goto (off := 4) (p := 16) (by decide +kernel) (by decide +kernel) ?_
    have h := Option.some.inj h
    subst h
    exact fs_zret (b := true) (by decide +kernel) rt_150

/-! ZoneSharesModel.cellMany()I -/
theorem mx_151 : iv_mx 151 = 1 := by decide +kernel
theorem rt_151 : iv_rt 151 = some .int := by decide +kernel
def fm_151 (σ : fx_S) : Option (Int32 × fx_S) :=
  (fx_ld σ 216 (0 : Int32)).bind fun v5 =>
  (fx_ld σ 216 (1 : Int32)).bind fun v7 =>
  some ((v5 * v7), σ)
theorem fe_151 {d : Nat} (hd : 0 ≤ d) {σ : fx_S} {q : Int32 × fx_S} (h : fm_151 σ = some q) : fx_E none 151 d 0 [some (.ref 215)] [] σ (some (.int q.1)) q.2 := by
  unfold fm_151 at h
  refine fs_aload_n (k := 0) (p := 1) (by decide +kernel) rfl rfl ?_
  refine fs_gfr (idx := 9) (ci := 10) (j := 0) (p := 4) (by decide +kernel) rfl (by decide +kernel) fo_215 (fr_a215_0) ?_
  refine fs_iconst (n := 0) (p := 5) (by decide +kernel) rfl kc_0 ?_
  obtain ⟨v5, e6, h⟩ := fx_bd h
  refine fs_iaload (p := 6) (by decide +kernel) rfl e6 ?_
  refine fs_aload_n (k := 0) (p := 7) (by decide +kernel) rfl rfl ?_
  refine fs_gfr (idx := 9) (ci := 10) (j := 0) (p := 10) (by decide +kernel) rfl (by decide +kernel) fo_215 (fr_a215_0) ?_
  refine fs_iconst (n := 1) (p := 11) (by decide +kernel) rfl kc_1 ?_
  obtain ⟨v7, e8, h⟩ := fx_bd h
  refine fs_iaload (p := 12) (by decide +kernel) rfl e8 ?_
  refine fs_imul (p := 13) (by decide +kernel) rfl ?_
  have h := Option.some.inj h
  subst h
  exact fs_iret (by decide +kernel) rt_151

/-! ZoneSharesModel.codeAt(II)I -/
theorem mx_152 : iv_mx 152 = 3 := by decide +kernel
theorem rt_152 : iv_rt 152 = some .int := by decide +kernel
def fm_152 (x1 : Int32) (x2 : Int32) (σ : fx_S) : Option (Int32 × fx_S) :=
  (fx_ld σ 216 (1 : Int32)).bind fun v9 =>
  if ¬ v9 = 0 then (
  (fx_ld σ 216 (1 : Int32)).bind fun v12 =>
  if ¬ v12 = 0 then (
  (fx_ld σ 216 ((((52 : Int32) + ((96 : Int32) * x1)) + ((12 : Int32) * (x2 / v9))) + (x2 - x2 / v12 * v12))).bind fun v15 =>
  some (v15, σ)) else none) else none
theorem fe_152 {d : Nat} (hd : 0 ≤ d) {x1 : Int32} {x2 : Int32} {σ : fx_S} {q : Int32 × fx_S} (h : fm_152 x1 x2 σ = some q) : fx_E none 152 d 0 [some (.ref 215), some (.int x1), some (.int x2)] [] σ (some (.int q.1)) q.2 := by
  unfold fm_152 at h
  refine fs_aload_n (k := 0) (p := 1) (by decide +kernel) rfl rfl ?_
  refine fs_gfr (idx := 9) (ci := 10) (j := 0) (p := 4) (by decide +kernel) rfl (by decide +kernel) fo_215 (fr_a215_0) ?_
  refine fs_bipush (n := 52) (p := 6) (by decide +kernel) rfl kb_52 ?_
  refine fs_bipush (n := 96) (p := 8) (by decide +kernel) rfl kb_96 ?_
  refine fs_iload_n (k := 1) (p := 9) (by decide +kernel) rfl rfl ?_
  refine fs_imul (p := 10) (by decide +kernel) rfl ?_
  refine fs_iadd (p := 11) (by decide +kernel) rfl ?_
  refine fs_bipush (n := 12) (p := 13) (by decide +kernel) rfl kb_12 ?_
  refine fs_iload_n (k := 2) (p := 14) (by decide +kernel) rfl rfl ?_
  refine fs_aload_n (k := 0) (p := 15) (by decide +kernel) rfl rfl ?_
  refine fs_gfr (idx := 9) (ci := 10) (j := 0) (p := 18) (by decide +kernel) rfl (by decide +kernel) fo_215 (fr_a215_0) ?_
  refine fs_iconst (n := 1) (p := 19) (by decide +kernel) rfl kc_1 ?_
  obtain ⟨v9, e10, h⟩ := fx_bd h
  refine fs_iaload (p := 20) (by decide +kernel) rfl e10 ?_
  obtain ⟨z11, h⟩ := fx_gd h
  refine fs_idiv (p := 21) (by decide +kernel) rfl z11 ?_
  refine fs_imul (p := 22) (by decide +kernel) rfl ?_
  refine fs_iadd (p := 23) (by decide +kernel) rfl ?_
  refine fs_iload_n (k := 2) (p := 24) (by decide +kernel) rfl rfl ?_
  refine fs_aload_n (k := 0) (p := 25) (by decide +kernel) rfl rfl ?_
  refine fs_gfr (idx := 9) (ci := 10) (j := 0) (p := 28) (by decide +kernel) rfl (by decide +kernel) fo_215 (fr_a215_0) ?_
  refine fs_iconst (n := 1) (p := 29) (by decide +kernel) rfl kc_1 ?_
  obtain ⟨v12, e13, h⟩ := fx_bd h
  refine fs_iaload (p := 30) (by decide +kernel) rfl e13 ?_
  obtain ⟨z14, h⟩ := fx_gd h
  refine fs_irem (p := 31) (by decide +kernel) rfl z14 ?_
  refine fs_iadd (p := 32) (by decide +kernel) rfl ?_
  obtain ⟨v15, e16, h⟩ := fx_bd h
  refine fs_iaload (p := 33) (by decide +kernel) rfl e16 ?_
  have h := Option.some.inj h
  subst h
  exact fs_iret (by decide +kernel) rt_152

/-! ZoneSharesModel.hasZone(II)Z -/
theorem mx_153 : iv_mx 153 = 4 := by decide +kernel
theorem rt_153 : iv_rt 153 = some .boolean := by decide +kernel
def fm_153_2 : Nat → Int32 → Int32 → Int32 → fx_S → Option (Bool × fx_S)
  | 0, _, _, _, _ => none
  | n + 1, x1, x2, x3, σ =>
    (fm_151 σ).bind fun q2 =>
    if q2.1 ≤ x3 then (
      some (false, q2.2)) else (
      (fm_144 x1 q2.2).bind fun q5 =>
      if (fx_b q5.1) = 0 then (
        some (false, q5.2)) else (
        (fm_152 x1 x3 q5.2).bind fun q8 =>
        if ¬ q8.1 = x2 then (
          fm_153_2 n x1 x2 (x3 + (1 : Int32)) q8.2) else (
          some (true, q8.2))))
theorem fe_153_2 {d : Nat} (hd : 1 ≤ d) : ∀ (n : Nat) (x1 : Int32) (x2 : Int32) (x3 : Int32) (σ : fx_S) (q : Bool × fx_S), fm_153_2 n x1 x2 x3 σ = some q → fx_E none 153 d 2 [some (.ref 215), some (.int x1), some (.int x2), some (.int x3)] [] σ (some (.int (fx_b q.1))) q.2 := by
  intro n
  induction n with
  | zero =>
    intro x1 x2 x3 σ q  h
    rw [fm_153_2] at h
    exact fx_no h
  | succ n ih =>
    intro x1 x2 x3 σ q  h
    rw [fm_153_2] at h
    refine fs_iload_n (k := 3) (p := 3) (by decide +kernel) rfl rfl ?_
    refine fs_aload_n (k := 0) (p := 4) (by decide +kernel) rfl rfl ?_
    obtain ⟨q2, e1, h⟩ := fx_bd h
    refine fs_callV (idx := 196) (mj := 151) (ci := 10) (na := 0) (mx := 1) (p := 7) (args := [.ref 215]) (rest := [.int x3]) (al2 := [some (.ref 215)]) (by decide +kernel) rfl (by decide +kernel) fo_215 rfl rfl rfl rfl rfl rfl rfl (by omega) (fun d' hd' => fe_151 (by omega) e1) rfl ?_
    by_cases c3 : q2.1 ≤ x3
    · rw [if_pos c3] at h
      refine fs_icmp_ge_t (off := 29) (t := 36) (by decide +kernel) (by decide +kernel) c3 ?_
      refine fs_iconst (n := 0) (p := 37) (by decide +kernel) rfl kc_0 ?_
      have h := Option.some.inj h
      subst h
      exact fs_zret (b := false) (by decide +kernel) rt_153
    · rw [if_neg c3] at h
      refine fs_icmp_ge_f (off := 29) (t := 36) (p := 10) (by decide +kernel) (by decide +kernel) rfl c3 ?_
      refine fs_aload_n (k := 0) (p := 11) (by decide +kernel) rfl rfl ?_
      refine fs_iload_n (k := 1) (p := 12) (by decide +kernel) rfl rfl ?_
      obtain ⟨q5, e4, h⟩ := fx_bd h
      refine fs_callV (idx := 163) (mj := 144) (ci := 10) (na := 1) (mx := 2) (p := 15) (args := [.ref 215, .int x1]) (rest := []) (al2 := [some (.ref 215), some (.int x1)]) (by decide +kernel) rfl (by decide +kernel) fo_215 rfl rfl rfl rfl rfl rfl rfl (by omega) (fun d' hd' => fe_144 (by omega) e4) rfl ?_
      by_cases c6 : (fx_b q5.1) = 0
      · rw [if_pos c6] at h
        refine fs_if_eq_t (off := 21) (t := 36) (by decide +kernel) (by decide +kernel) c6 ?_
        refine fs_iconst (n := 0) (p := 37) (by decide +kernel) rfl kc_0 ?_
        have h := Option.some.inj h
        subst h
        exact fs_zret (b := false) (by decide +kernel) rt_153
      · rw [if_neg c6] at h
        refine fs_if_eq_f (off := 21) (t := 36) (p := 18) (by decide +kernel) (by decide +kernel) rfl c6 ?_
        refine fs_aload_n (k := 0) (p := 19) (by decide +kernel) rfl rfl ?_
        refine fs_iload_n (k := 1) (p := 20) (by decide +kernel) rfl rfl ?_
        refine fs_iload_n (k := 3) (p := 21) (by decide +kernel) rfl rfl ?_
        obtain ⟨q8, e7, h⟩ := fx_bd h
        refine fs_callV (idx := 199) (mj := 152) (ci := 10) (na := 2) (mx := 3) (p := 24) (args := [.ref 215, .int x1, .int x3]) (rest := []) (al2 := [some (.ref 215), some (.int x1), some (.int x3)]) (by decide +kernel) rfl (by decide +kernel) fo_215 rfl rfl rfl rfl rfl rfl rfl (by omega) (fun d' hd' => fe_152 (by omega) e7) rfl ?_
        refine fs_iload_n (k := 2) (p := 25) (by decide +kernel) rfl rfl ?_
        by_cases c9 : ¬ q8.1 = x2
        · rw [if_pos c9] at h
          refine fs_icmp_ne_t (off := 5) (t := 30) (by decide +kernel) (by decide +kernel) c9 ?_
          refine fs_iinc (k := 3) (n := 1) (p := 33) (M := 4) (al' := [some (.ref 215), some (.int x1), some (.int x2), some (.int (x3 + (1 : Int32)))]) (by decide +kernel) rfl kc_1 mx_153 rfl rfl rfl ?_
          refine fs_goto (off := -31) (p := 2) (by decide +kernel) (by decide +kernel) ?_
          exact ih _ _ _ _ _ h
        · rw [if_neg c9] at h
          refine fs_icmp_ne_f (off := 5) (t := 30) (p := 28) (by decide +kernel) (by decide +kernel) rfl c9 ?_
          refine fs_iconst (n := 1) (p := 29) (by decide +kernel) rfl kc_1 ?_
          have h := Option.some.inj h
          subst h
          exact fs_zret (b := true) (by decide +kernel) rt_153
def fm_153 (x1 : Int32) (x2 : Int32) (σ : fx_S) : Option (Bool × fx_S) :=
  fm_153_2 100000 x1 x2 (0 : Int32) σ
theorem fe_153 {d : Nat} (hd : 1 ≤ d) {x1 : Int32} {x2 : Int32} {σ : fx_S} {q : Bool × fx_S} (h : fm_153 x1 x2 σ = some q) : fx_E none 153 d 0 [some (.ref 215), some (.int x1), some (.int x2), none] [] σ (some (.int (fx_b q.1))) q.2 := by
  unfold fm_153 at h
  refine fs_iconst (n := 0) (p := 1) (by decide +kernel) rfl kc_0 ?_
  refine fs_istore_n (k := 3) (p := 2) (M := 4) (al' := [some (.ref 215), some (.int x1), some (.int x2), some (.int (0 : Int32))]) (by decide +kernel) rfl mx_153 rfl rfl ?_
  exact fe_153_2 hd 100000 _ _ _ _ _ h

/-! ZoneSharesModel.codeMany(II)I -/
theorem mx_154 : iv_mx 154 = 5 := by decide +kernel
theorem rt_154 : iv_rt 154 = some .int := by decide +kernel
def fm_154_5 : Nat → Int32 → Int32 → Int32 → Int32 → fx_S → Option (Int32 × fx_S)
  | 0, _, _, _, _, _ => none
  | n + 1, x1, x2, x3, x4, σ =>
    if x2 ≤ x4 then (
      some (x3, σ)) else (
      (fm_153 x1 x4 σ).bind fun q3 =>
      (fm_131 (fx_b q3.1) q3.2).bind fun q5 =>
      fm_154_5 n x1 x2 (x3 + q5.1) (x4 + (1 : Int32)) q5.2)
theorem fe_154_5 {d : Nat} (hd : 2 ≤ d) : ∀ (n : Nat) (x1 : Int32) (x2 : Int32) (x3 : Int32) (x4 : Int32) (σ : fx_S) (q : Int32 × fx_S), fm_154_5 n x1 x2 x3 x4 σ = some q → fx_E none 154 d 5 [some (.ref 215), some (.int x1), some (.int x2), some (.int x3), some (.int x4)] [] σ (some (.int q.1)) q.2 := by
  intro n
  induction n with
  | zero =>
    intro x1 x2 x3 x4 σ q  h
    rw [fm_154_5] at h
    exact fx_no h
  | succ n ih =>
    intro x1 x2 x3 x4 σ q  h
    rw [fm_154_5] at h
    refine fs_iload (k := 4) (p := 7) (by decide +kernel) rfl rfl ?_
    refine fs_iload_n (k := 2) (p := 8) (by decide +kernel) rfl rfl ?_
    by_cases c1 : x2 ≤ x4
    · rw [if_pos c1] at h
      refine fs_icmp_ge_t (off := 22) (t := 30) (by decide +kernel) (by decide +kernel) c1 ?_
      refine fs_iload_n (k := 3) (p := 31) (by decide +kernel) rfl rfl ?_
      have h := Option.some.inj h
      subst h
      exact fs_iret (by decide +kernel) rt_154
    · rw [if_neg c1] at h
      refine fs_icmp_ge_f (off := 22) (t := 30) (p := 11) (by decide +kernel) (by decide +kernel) rfl c1 ?_
      refine fs_iload_n (k := 3) (p := 12) (by decide +kernel) rfl rfl ?_
      refine fs_aload_n (k := 0) (p := 13) (by decide +kernel) rfl rfl ?_
      refine fs_iload_n (k := 1) (p := 14) (by decide +kernel) rfl rfl ?_
      refine fs_iload (k := 4) (p := 16) (by decide +kernel) rfl rfl ?_
      obtain ⟨q3, e2, h⟩ := fx_bd h
      refine fs_callV (idx := 202) (mj := 153) (ci := 10) (na := 2) (mx := 4) (p := 19) (args := [.ref 215, .int x1, .int x4]) (rest := [.int x3]) (al2 := [some (.ref 215), some (.int x1), some (.int x4), none]) (by decide +kernel) rfl (by decide +kernel) fo_215 rfl rfl rfl rfl rfl rfl rfl (by omega) (fun d' hd' => fe_153 (by omega) e2) rfl ?_
      obtain ⟨q5, e4, h⟩ := fx_bd h
      refine fs_callS (idx := 186) (mj := 131) (na := 1) (mx := 1) (p := 22) (args := [.int (fx_b q3.1)]) (rest := [.int x3]) (al2 := [some (.int (fx_b q3.1))]) (by decide +kernel) rfl (by decide +kernel) rfl rfl rfl rfl rfl rfl rfl (by omega) (fun d' hd' => fe_131 (by omega) e4) rfl ?_
      refine fs_iadd (p := 23) (by decide +kernel) rfl ?_
      refine fs_istore_n (k := 3) (p := 24) (M := 5) (al' := [some (.ref 215), some (.int x1), some (.int x2), some (.int (x3 + q5.1)), some (.int x4)]) (by decide +kernel) rfl mx_154 rfl rfl ?_
      refine fs_iinc (k := 4) (n := 1) (p := 27) (M := 5) (al' := [some (.ref 215), some (.int x1), some (.int x2), some (.int (x3 + q5.1)), some (.int (x4 + (1 : Int32)))]) (by decide +kernel) rfl kc_1 mx_154 rfl rfl rfl ?_
      refine fs_goto (off := -22) (p := 5) (by decide +kernel) (by decide +kernel) ?_
      exact ih _ _ _ _ _ _ h
def fm_154 (x1 : Int32) (x2 : Int32) (σ : fx_S) : Option (Int32 × fx_S) :=
  fm_154_5 100000 x1 x2 (0 : Int32) (0 : Int32) σ
theorem fe_154 {d : Nat} (hd : 2 ≤ d) {x1 : Int32} {x2 : Int32} {σ : fx_S} {q : Int32 × fx_S} (h : fm_154 x1 x2 σ = some q) : fx_E none 154 d 0 [some (.ref 215), some (.int x1), some (.int x2), none, none] [] σ (some (.int q.1)) q.2 := by
  unfold fm_154 at h
  refine fs_iconst (n := 0) (p := 1) (by decide +kernel) rfl kc_0 ?_
  refine fs_istore_n (k := 3) (p := 2) (M := 5) (al' := [some (.ref 215), some (.int x1), some (.int x2), some (.int (0 : Int32)), none]) (by decide +kernel) rfl mx_154 rfl rfl ?_
  refine fs_iconst (n := 0) (p := 3) (by decide +kernel) rfl kc_0 ?_
  refine fs_istore (k := 4) (p := 5) (M := 5) (al' := [some (.ref 215), some (.int x1), some (.int x2), some (.int (0 : Int32)), some (.int (0 : Int32))]) (by decide +kernel) rfl mx_154 rfl rfl ?_
  exact fe_154_5 hd 100000 _ _ _ _ _ _ h

/-! ZoneSharesModel.countOf(II)I -/
theorem mx_155 : iv_mx 155 = 3 := by decide +kernel
theorem rt_155 : iv_rt 155 = some .int := by decide +kernel
def fm_155 (x1 : Int32) (x2 : Int32) (σ : fx_S) : Option (Int32 × fx_S) :=
  (fx_ld σ 216 (((5 : Int32) + ((9 : Int32) * x1)) + x2)).bind fun v3 =>
  some (v3, σ)
theorem fe_155 {d : Nat} (hd : 0 ≤ d) {x1 : Int32} {x2 : Int32} {σ : fx_S} {q : Int32 × fx_S} (h : fm_155 x1 x2 σ = some q) : fx_E none 155 d 0 [some (.ref 215), some (.int x1), some (.int x2)] [] σ (some (.int q.1)) q.2 := by
  unfold fm_155 at h
  refine fs_aload_n (k := 0) (p := 1) (by decide +kernel) rfl rfl ?_
  refine fs_gfr (idx := 9) (ci := 10) (j := 0) (p := 4) (by decide +kernel) rfl (by decide +kernel) fo_215 (fr_a215_0) ?_
  refine fs_iconst (n := 5) (p := 5) (by decide +kernel) rfl kc_5 ?_
  refine fs_bipush (n := 9) (p := 7) (by decide +kernel) rfl kb_9 ?_
  refine fs_iload_n (k := 1) (p := 8) (by decide +kernel) rfl rfl ?_
  refine fs_imul (p := 9) (by decide +kernel) rfl ?_
  refine fs_iadd (p := 10) (by decide +kernel) rfl ?_
  refine fs_iload_n (k := 2) (p := 11) (by decide +kernel) rfl rfl ?_
  refine fs_iadd (p := 12) (by decide +kernel) rfl ?_
  obtain ⟨v3, e4, h⟩ := fx_bd h
  refine fs_iaload (p := 13) (by decide +kernel) rfl e4 ?_
  have h := Option.some.inj h
  subst h
  exact fs_iret (by decide +kernel) rt_155

/-! ZoneSharesModel.weightAt(II)I -/
theorem mx_156 : iv_mx 156 = 3 := by decide +kernel
theorem rt_156 : iv_rt 156 = some .int := by decide +kernel
def fm_156 (x1 : Int32) (x2 : Int32) (σ : fx_S) : Option (Int32 × fx_S) :=
  (fm_152 (2 : Int32) x2 σ).bind fun q6 =>
  (fx_ld q6.2 216 (((32 : Int32) + ((4 : Int32) * x1)) + q6.1)).bind fun v7 =>
  some (v7, q6.2)
theorem fe_156 {d : Nat} (hd : 1 ≤ d) {x1 : Int32} {x2 : Int32} {σ : fx_S} {q : Int32 × fx_S} (h : fm_156 x1 x2 σ = some q) : fx_E none 156 d 0 [some (.ref 215), some (.int x1), some (.int x2)] [] σ (some (.int q.1)) q.2 := by
  unfold fm_156 at h
  refine fs_aload_n (k := 0) (p := 1) (by decide +kernel) rfl rfl ?_
  refine fs_gfr (idx := 9) (ci := 10) (j := 0) (p := 4) (by decide +kernel) rfl (by decide +kernel) fo_215 (fr_a215_0) ?_
  refine fs_bipush (n := 32) (p := 6) (by decide +kernel) rfl kb_32 ?_
  refine fs_iconst (n := 4) (p := 7) (by decide +kernel) rfl kc_4 ?_
  refine fs_iload_n (k := 1) (p := 8) (by decide +kernel) rfl rfl ?_
  refine fs_imul (p := 9) (by decide +kernel) rfl ?_
  refine fs_iadd (p := 10) (by decide +kernel) rfl ?_
  refine fs_aload_n (k := 0) (p := 11) (by decide +kernel) rfl rfl ?_
  refine fs_iconst (n := 2) (p := 12) (by decide +kernel) rfl kc_2 ?_
  refine fs_iload_n (k := 2) (p := 13) (by decide +kernel) rfl rfl ?_
  obtain ⟨q6, e5, h⟩ := fx_bd h
  refine fs_callV (idx := 199) (mj := 152) (ci := 10) (na := 2) (mx := 3) (p := 16) (args := [.ref 215, .int (2 : Int32), .int x2]) (rest := [.int ((32 : Int32) + ((4 : Int32) * x1)), .ref 216]) (al2 := [some (.ref 215), some (.int (2 : Int32)), some (.int x2)]) (by decide +kernel) rfl (by decide +kernel) fo_215 rfl rfl rfl rfl rfl rfl rfl (by omega) (fun d' hd' => fe_152 (by omega) e5) rfl ?_
  refine fs_iadd (p := 17) (by decide +kernel) rfl ?_
  obtain ⟨v7, e8, h⟩ := fx_bd h
  refine fs_iaload (p := 18) (by decide +kernel) rfl e8 ?_
  have h := Option.some.inj h
  subst h
  exact fs_iret (by decide +kernel) rt_156

/-! ZoneSharesModel.sumOf(IIIZ)I -/
theorem mx_157 : iv_mx 157 = 8 := by decide +kernel
theorem rt_157 : iv_rt 157 = some .int := by decide +kernel
def fm_157_81 (k_6 : Int32 → Int32 → Int32 → Int32 → Int32 → Int32 → fx_S → Option (Int32 × fx_S)) (x1 : Int32) (x2 : Int32) (x3 : Int32) (x4 : Int32) (x6 : Int32) (s0 : Int32) (s1 : Int32) (σ : fx_S) : Option (Int32 × fx_S) :=
  k_6 x1 x2 x3 x4 (s0 + s1) (x6 + (1 : Int32)) σ
theorem fe_157_81 {d : Nat} (hd : 2 ≤ d) {k_6 : Int32 → Int32 → Int32 → Int32 → Int32 → Int32 → fx_S → Option (Int32 × fx_S)} (hk_6 : ∀ (x1 : Int32) (x2 : Int32) (x3 : Int32) (x4 : Int32) (x5 : Int32) (x6 : Int32) (o7 : Option Value) (σ : fx_S) (q : Int32 × fx_S), k_6 x1 x2 x3 x4 x5 x6 σ = some q → fx_E none 157 d 6 [some (.ref 215), some (.int x1), some (.int x2), some (.int x3), some (.int x4), some (.int x5), some (.int x6), o7] [] σ (some (.int q.1)) q.2) (x1 : Int32) (x2 : Int32) (x3 : Int32) (x4 : Int32) (x6 : Int32) (s0 : Int32) (s1 : Int32) (o5 : Option Value) (o7 : Option Value) (σ : fx_S) (q : Int32 × fx_S) (h : fm_157_81 k_6  x1 x2 x3 x4 x6 s0 s1 σ = some q) : fx_E none 157 d 81 [some (.ref 215), some (.int x1), some (.int x2), some (.int x3), some (.int x4), o5, some (.int x6), o7] [.int s1, .int s0] σ (some (.int q.1)) q.2 := by
  unfold fm_157_81 at h
  refine fs_iadd (p := 82) (by decide +kernel) rfl ?_
  refine fs_istore (k := 5) (p := 84) (M := 8) (al' := [some (.ref 215), some (.int x1), some (.int x2), some (.int x3), some (.int x4), some (.int (s0 + s1)), some (.int x6), o7]) (by decide +kernel) rfl mx_157 rfl rfl ?_
  refine fs_iinc (k := 6) (n := 1) (p := 87) (M := 8) (al' := [some (.ref 215), some (.int x1), some (.int x2), some (.int x3), some (.int x4), some (.int (s0 + s1)), some (.int (x6 + (1 : Int32))), o7]) (by decide +kernel) rfl kc_1 mx_157 rfl rfl rfl ?_
  refine fs_goto (off := -81) (p := 6) (by decide +kernel) (by decide +kernel) ?_
  exact hk_6 _ _ _ _ _ _ _ _ _ h
def fm_157_52 (k_6 : Int32 → Int32 → Int32 → Int32 → Int32 → Int32 → fx_S → Option (Int32 × fx_S)) (x1 : Int32) (x2 : Int32) (x3 : Int32) (x4 : Int32) (x5 : Int32) (x6 : Int32) (s0 : Int32) (σ : fx_S) : Option (Int32 × fx_S) :=
  if ¬ s0 = 0 then (
    if x4 = 0 then (
      (fm_156 x1 x6 σ).bind fun q4 =>
      fm_157_81 k_6 x1 x2 x3 x4 x6 x5 q4.1 q4.2) else (
      fm_157_81 k_6 x1 x2 x3 x4 x6 x5 (1 : Int32) σ)) else (
    fm_157_81 k_6 x1 x2 x3 x4 x6 x5 (0 : Int32) σ)
theorem fe_157_52 {d : Nat} (hd : 2 ≤ d) {k_6 : Int32 → Int32 → Int32 → Int32 → Int32 → Int32 → fx_S → Option (Int32 × fx_S)} (hk_6 : ∀ (x1 : Int32) (x2 : Int32) (x3 : Int32) (x4 : Int32) (x5 : Int32) (x6 : Int32) (o7 : Option Value) (σ : fx_S) (q : Int32 × fx_S), k_6 x1 x2 x3 x4 x5 x6 σ = some q → fx_E none 157 d 6 [some (.ref 215), some (.int x1), some (.int x2), some (.int x3), some (.int x4), some (.int x5), some (.int x6), o7] [] σ (some (.int q.1)) q.2) (x1 : Int32) (x2 : Int32) (x3 : Int32) (x4 : Int32) (x5 : Int32) (x6 : Int32) (s0 : Int32) (o7 : Option Value) (σ : fx_S) (q : Int32 × fx_S) (h : fm_157_52 k_6  x1 x2 x3 x4 x5 x6 s0 σ = some q) : fx_E none 157 d 52 [some (.ref 215), some (.int x1), some (.int x2), some (.int x3), some (.int x4), some (.int x5), some (.int x6), o7] [.int s0] σ (some (.int q.1)) q.2 := by
  unfold fm_157_52 at h
  refine fs_istore (k := 7) (p := 54) (M := 8) (al' := [some (.ref 215), some (.int x1), some (.int x2), some (.int x3), some (.int x4), some (.int x5), some (.int x6), some (.int s0)]) (by decide +kernel) rfl mx_157 rfl rfl ?_
  refine fs_iload (k := 5) (p := 56) (by decide +kernel) rfl rfl ?_
  refine fs_iload (k := 7) (p := 58) (by decide +kernel) rfl rfl ?_
  by_cases c1 : ¬ s0 = 0
  · rw [if_pos c1] at h
    refine fs_if_ne_t (off := 7) (t := 65) (by decide +kernel) (by decide +kernel) c1 ?_
    refine fs_iload (k := 4) (p := 67) (by decide +kernel) rfl rfl ?_
    by_cases c2 : x4 = 0
    · rw [if_pos c2] at h
      refine fs_if_eq_t (off := 7) (t := 74) (by decide +kernel) (by decide +kernel) c2 ?_
      refine fs_aload_n (k := 0) (p := 75) (by decide +kernel) rfl rfl ?_
      refine fs_iload_n (k := 1) (p := 76) (by decide +kernel) rfl rfl ?_
      refine fs_iload (k := 6) (p := 78) (by decide +kernel) rfl rfl ?_
      obtain ⟨q4, e3, h⟩ := fx_bd h
      refine fs_callV (idx := 205) (mj := 156) (ci := 10) (na := 2) (mx := 3) (p := 81) (args := [.ref 215, .int x1, .int x6]) (rest := [.int x5]) (al2 := [some (.ref 215), some (.int x1), some (.int x6)]) (by decide +kernel) rfl (by decide +kernel) fo_215 rfl rfl rfl rfl rfl rfl rfl (by omega) (fun d' hd' => fe_156 (by omega) e3) rfl ?_
      exact fe_157_81 hd hk_6 _ _ _ _ _ _ _ _ _ _ _ h
    · rw [if_neg c2] at h
      refine fs_if_eq_f (off := 7) (t := 74) (p := 70) (by decide +kernel) (by decide +kernel) rfl c2 ?_
      refine fs_iconst (n := 1) (p := 71) (by decide +kernel) rfl kc_1 ?_
      refine fs_goto (off := 10) (p := 81) (by decide +kernel) (by decide +kernel) ?_
      exact fe_157_81 hd hk_6 _ _ _ _ _ _ _ _ _ _ _ h
  · rw [if_neg c1] at h
    refine fs_if_ne_f (off := 7) (t := 65) (p := 61) (by decide +kernel) (by decide +kernel) rfl c1 ?_
    refine fs_iconst (n := 0) (p := 62) (by decide +kernel) rfl kc_0 ?_
    refine fs_goto (off := 19) (p := 81) (by decide +kernel) (by decide +kernel) ?_
    exact fe_157_81 hd hk_6 _ _ _ _ _ _ _ _ _ _ _ h
def fm_157_31 (k_6 : Int32 → Int32 → Int32 → Int32 → Int32 → Int32 → fx_S → Option (Int32 × fx_S)) (x1 : Int32) (x2 : Int32) (x3 : Int32) (x4 : Int32) (x5 : Int32) (x6 : Int32) (σ : fx_S) : Option (Int32 × fx_S) :=
  if x3 = (-1 : Int32) then (
    fm_157_52 k_6 x1 x2 x3 x4 x5 x6 (1 : Int32) σ) else (
    (fm_152 (1 : Int32) x6 σ).bind fun q3 =>
    fm_157_52 k_6 x1 x2 x3 x4 x5 x6 (if ¬ q3.1 = x3 then (0 : Int32) else (1 : Int32)) q3.2)
theorem fe_157_31 {d : Nat} (hd : 2 ≤ d) {k_6 : Int32 → Int32 → Int32 → Int32 → Int32 → Int32 → fx_S → Option (Int32 × fx_S)} (hk_6 : ∀ (x1 : Int32) (x2 : Int32) (x3 : Int32) (x4 : Int32) (x5 : Int32) (x6 : Int32) (o7 : Option Value) (σ : fx_S) (q : Int32 × fx_S), k_6 x1 x2 x3 x4 x5 x6 σ = some q → fx_E none 157 d 6 [some (.ref 215), some (.int x1), some (.int x2), some (.int x3), some (.int x4), some (.int x5), some (.int x6), o7] [] σ (some (.int q.1)) q.2) (x1 : Int32) (x2 : Int32) (x3 : Int32) (x4 : Int32) (x5 : Int32) (x6 : Int32) (o7 : Option Value) (σ : fx_S) (q : Int32 × fx_S) (h : fm_157_31 k_6  x1 x2 x3 x4 x5 x6 σ = some q) : fx_E none 157 d 31 [some (.ref 215), some (.int x1), some (.int x2), some (.int x3), some (.int x4), some (.int x5), some (.int x6), o7] [] σ (some (.int q.1)) q.2 := by
  unfold fm_157_31 at h
  refine fs_iload_n (k := 3) (p := 32) (by decide +kernel) rfl rfl ?_
  refine fs_iconst (n := -1) (p := 33) (by decide +kernel) rfl kc_m1 ?_
  by_cases c1 : x3 = (-1 : Int32)
  · rw [if_pos c1] at h
    refine fs_icmp_eq_t (off := 14) (t := 47) (by decide +kernel) (by decide +kernel) c1 ?_
    refine fs_iconst (n := 1) (p := 48) (by decide +kernel) rfl kc_1 ?_
    refine fs_goto (off := 4) (p := 52) (by decide +kernel) (by decide +kernel) ?_
    exact fe_157_52 hd hk_6 _ _ _ _ _ _ _ _ _ _ h
  · rw [if_neg c1] at h
    refine fs_icmp_eq_f (off := 14) (t := 47) (p := 36) (by decide +kernel) (by decide +kernel) rfl c1 ?_
    refine fs_aload_n (k := 0) (p := 37) (by decide +kernel) rfl rfl ?_
    refine fs_iconst (n := 1) (p := 38) (by decide +kernel) rfl kc_1 ?_
    refine fs_iload (k := 6) (p := 40) (by decide +kernel) rfl rfl ?_
    obtain ⟨q3, e2, h⟩ := fx_bd h
    refine fs_callV (idx := 199) (mj := 152) (ci := 10) (na := 2) (mx := 3) (p := 43) (args := [.ref 215, .int (1 : Int32), .int x6]) (rest := []) (al2 := [some (.ref 215), some (.int (1 : Int32)), some (.int x6)]) (by decide +kernel) rfl (by decide +kernel) fo_215 rfl rfl rfl rfl rfl rfl rfl (by omega) (fun d' hd' => fe_152 (by omega) e2) rfl ?_
    refine fs_iload_n (k := 3) (p := 44) (by decide +kernel) rfl rfl ?_
    by_cases c4 : ¬ q3.1 = x3
    · rw [if_pos c4] at h
      refine fs_icmp_ne_t (off := 7) (t := 51) (by decide +kernel) (by decide +kernel) c4 ?_
      refine fs_iconst (n := 0) (p := 52) (by decide +kernel) rfl kc_0 ?_
      exact fe_157_52 hd hk_6 _ _ _ _ _ _ _ _ _ _ h
    · rw [if_neg c4] at h
      refine fs_icmp_ne_f (off := 7) (t := 51) (p := 47) (by decide +kernel) (by decide +kernel) rfl c4 ?_
      refine fs_iconst (n := 1) (p := 48) (by decide +kernel) rfl kc_1 ?_
      refine fs_goto (off := 4) (p := 52) (by decide +kernel) (by decide +kernel) ?_
      exact fe_157_52 hd hk_6 _ _ _ _ _ _ _ _ _ _ h
def fm_157_6 : Nat → Int32 → Int32 → Int32 → Int32 → Int32 → Int32 → fx_S → Option (Int32 × fx_S)
  | 0, _, _, _, _, _, _, _ => none
  | n + 1, x1, x2, x3, x4, x5, x6, σ =>
    (fm_151 σ).bind fun q2 =>
    if q2.1 ≤ x6 then (
      some (x5, q2.2)) else (
      if x2 = (-1 : Int32) then (
        fm_157_31 (fm_157_6 n) x1 x2 x3 x4 x5 x6 q2.2) else (
        (fm_152 (0 : Int32) x6 q2.2).bind fun q6 =>
        if ¬ q6.1 = x2 then (
          fm_157_52 (fm_157_6 n) x1 x2 x3 x4 x5 x6 (0 : Int32) q6.2) else (
          fm_157_31 (fm_157_6 n) x1 x2 x3 x4 x5 x6 q6.2)))
theorem fe_157_6 {d : Nat} (hd : 2 ≤ d) : ∀ (n : Nat) (x1 : Int32) (x2 : Int32) (x3 : Int32) (x4 : Int32) (x5 : Int32) (x6 : Int32) (o7 : Option Value) (σ : fx_S) (q : Int32 × fx_S), fm_157_6 n x1 x2 x3 x4 x5 x6 σ = some q → fx_E none 157 d 6 [some (.ref 215), some (.int x1), some (.int x2), some (.int x3), some (.int x4), some (.int x5), some (.int x6), o7] [] σ (some (.int q.1)) q.2 := by
  intro n
  induction n with
  | zero =>
    intro x1 x2 x3 x4 x5 x6 o7 σ q  h
    rw [fm_157_6] at h
    exact fx_no h
  | succ n ih =>
    intro x1 x2 x3 x4 x5 x6 o7 σ q  h
    rw [fm_157_6] at h
    refine fs_iload (k := 6) (p := 8) (by decide +kernel) rfl rfl ?_
    refine fs_aload_n (k := 0) (p := 9) (by decide +kernel) rfl rfl ?_
    obtain ⟨q2, e1, h⟩ := fx_bd h
    refine fs_callV (idx := 196) (mj := 151) (ci := 10) (na := 0) (mx := 1) (p := 12) (args := [.ref 215]) (rest := [.int x6]) (al2 := [some (.ref 215)]) (by decide +kernel) rfl (by decide +kernel) fo_215 rfl rfl rfl rfl rfl rfl rfl (by omega) (fun d' hd' => fe_151 (by omega) e1) rfl ?_
    by_cases c3 : q2.1 ≤ x6
    · rw [if_pos c3] at h
      refine fs_icmp_ge_t (off := 78) (t := 90) (by decide +kernel) (by decide +kernel) c3 ?_
      refine fs_iload (k := 5) (p := 92) (by decide +kernel) rfl rfl ?_
      have h := Option.some.inj h
      subst h
      exact fs_iret (by decide +kernel) rt_157
    · rw [if_neg c3] at h
      refine fs_icmp_ge_f (off := 78) (t := 90) (p := 15) (by decide +kernel) (by decide +kernel) rfl c3 ?_
      refine fs_iload_n (k := 2) (p := 16) (by decide +kernel) rfl rfl ?_
      refine fs_iconst (n := -1) (p := 17) (by decide +kernel) rfl kc_m1 ?_
      by_cases c4 : x2 = (-1 : Int32)
      · rw [if_pos c4] at h
        refine fs_icmp_eq_t (off := 14) (t := 31) (by decide +kernel) (by decide +kernel) c4 ?_
        exact fe_157_31 hd ih _ _ _ _ _ _ _ _ _ h
      · rw [if_neg c4] at h
        refine fs_icmp_eq_f (off := 14) (t := 31) (p := 20) (by decide +kernel) (by decide +kernel) rfl c4 ?_
        refine fs_aload_n (k := 0) (p := 21) (by decide +kernel) rfl rfl ?_
        refine fs_iconst (n := 0) (p := 22) (by decide +kernel) rfl kc_0 ?_
        refine fs_iload (k := 6) (p := 24) (by decide +kernel) rfl rfl ?_
        obtain ⟨q6, e5, h⟩ := fx_bd h
        refine fs_callV (idx := 199) (mj := 152) (ci := 10) (na := 2) (mx := 3) (p := 27) (args := [.ref 215, .int (0 : Int32), .int x6]) (rest := []) (al2 := [some (.ref 215), some (.int (0 : Int32)), some (.int x6)]) (by decide +kernel) rfl (by decide +kernel) fo_215 rfl rfl rfl rfl rfl rfl rfl (by omega) (fun d' hd' => fe_152 (by omega) e5) rfl ?_
        refine fs_iload_n (k := 2) (p := 28) (by decide +kernel) rfl rfl ?_
        by_cases c7 : ¬ q6.1 = x2
        · rw [if_pos c7] at h
          refine fs_icmp_ne_t (off := 23) (t := 51) (by decide +kernel) (by decide +kernel) c7 ?_
          refine fs_iconst (n := 0) (p := 52) (by decide +kernel) rfl kc_0 ?_
          exact fe_157_52 hd ih _ _ _ _ _ _ _ _ _ _ h
        · rw [if_neg c7] at h
          refine fs_icmp_ne_f (off := 23) (t := 51) (p := 31) (by decide +kernel) (by decide +kernel) rfl c7 ?_
          exact fe_157_31 hd ih _ _ _ _ _ _ _ _ _ h
def fm_157 (x1 : Int32) (x2 : Int32) (x3 : Int32) (x4 : Int32) (σ : fx_S) : Option (Int32 × fx_S) :=
  fm_157_6 100000 x1 x2 x3 x4 (0 : Int32) (0 : Int32) σ
theorem fe_157 {d : Nat} (hd : 2 ≤ d) {x1 : Int32} {x2 : Int32} {x3 : Int32} {x4 : Int32} {σ : fx_S} {q : Int32 × fx_S} (h : fm_157 x1 x2 x3 x4 σ = some q) : fx_E none 157 d 0 [some (.ref 215), some (.int x1), some (.int x2), some (.int x3), some (.int x4), none, none, none] [] σ (some (.int q.1)) q.2 := by
  unfold fm_157 at h
  refine fs_iconst (n := 0) (p := 1) (by decide +kernel) rfl kc_0 ?_
  refine fs_istore (k := 5) (p := 3) (M := 8) (al' := [some (.ref 215), some (.int x1), some (.int x2), some (.int x3), some (.int x4), some (.int (0 : Int32)), none, none]) (by decide +kernel) rfl mx_157 rfl rfl ?_
  refine fs_iconst (n := 0) (p := 4) (by decide +kernel) rfl kc_0 ?_
  refine fs_istore (k := 6) (p := 6) (M := 8) (al' := [some (.ref 215), some (.int x1), some (.int x2), some (.int x3), some (.int x4), some (.int (0 : Int32)), some (.int (0 : Int32)), none]) (by decide +kernel) rfl mx_157 rfl rfl ?_
  exact fe_157_6 hd 100000 _ _ _ _ _ _ _ _ _ h

/-! ZoneSharesModel.oldCells(I)I -/
theorem mx_158 : iv_mx 158 = 4 := by decide +kernel
theorem rt_158 : iv_rt 158 = some .int := by decide +kernel
def fm_158_28 (k_4 : Int32 → Int32 → Int32 → fx_S → Option (Int32 × fx_S)) (x1 : Int32) (x3 : Int32) (s0 : Int32) (s1 : Int32) (σ : fx_S) : Option (Int32 × fx_S) :=
  (fm_131 s1 σ).bind fun q2 =>
  k_4 x1 (s0 + q2.1) (x3 + (1 : Int32)) q2.2
theorem fe_158_28 {d : Nat} (hd : 1 ≤ d) {k_4 : Int32 → Int32 → Int32 → fx_S → Option (Int32 × fx_S)} (hk_4 : ∀ (x1 : Int32) (x2 : Int32) (x3 : Int32) (σ : fx_S) (q : Int32 × fx_S), k_4 x1 x2 x3 σ = some q → fx_E none 158 d 4 [some (.ref 215), some (.int x1), some (.int x2), some (.int x3)] [] σ (some (.int q.1)) q.2) (x1 : Int32) (x3 : Int32) (s0 : Int32) (s1 : Int32) (o2 : Option Value) (σ : fx_S) (q : Int32 × fx_S) (h : fm_158_28 k_4  x1 x3 s0 s1 σ = some q) : fx_E none 158 d 28 [some (.ref 215), some (.int x1), o2, some (.int x3)] [.int s1, .int s0] σ (some (.int q.1)) q.2 := by
  unfold fm_158_28 at h
  obtain ⟨q2, e1, h⟩ := fx_bd h
  refine fs_callS (idx := 186) (mj := 131) (na := 1) (mx := 1) (p := 31) (args := [.int s1]) (rest := [.int s0]) (al2 := [some (.int s1)]) (by decide +kernel) rfl (by decide +kernel) rfl rfl rfl rfl rfl rfl rfl (by omega) (fun d' hd' => fe_131 (by omega) e1) rfl ?_
  refine fs_iadd (p := 32) (by decide +kernel) rfl ?_
  refine fs_istore_n (k := 2) (p := 33) (M := 4) (al' := [some (.ref 215), some (.int x1), some (.int (s0 + q2.1)), some (.int x3)]) (by decide +kernel) rfl mx_158 rfl rfl ?_
  refine fs_iinc (k := 3) (n := 1) (p := 36) (M := 4) (al' := [some (.ref 215), some (.int x1), some (.int (s0 + q2.1)), some (.int (x3 + (1 : Int32)))]) (by decide +kernel) rfl kc_1 mx_158 rfl rfl rfl ?_
  refine fs_goto (off := -32) (p := 4) (by decide +kernel) (by decide +kernel) ?_
  exact hk_4 _ _ _ _ _ h
def fm_158_4 : Nat → Int32 → Int32 → Int32 → fx_S → Option (Int32 × fx_S)
  | 0, _, _, _, _ => none
  | n + 1, x1, x2, x3, σ =>
    (fm_151 σ).bind fun q2 =>
    if q2.1 ≤ x3 then (
      some (x2, q2.2)) else (
      (fm_152 (0 : Int32) x3 q2.2).bind fun q5 =>
      fm_158_28 (fm_158_4 n) x1 x3 x2 (if ¬ q5.1 = x1 then (0 : Int32) else (1 : Int32)) q5.2)
theorem fe_158_4 {d : Nat} (hd : 1 ≤ d) : ∀ (n : Nat) (x1 : Int32) (x2 : Int32) (x3 : Int32) (σ : fx_S) (q : Int32 × fx_S), fm_158_4 n x1 x2 x3 σ = some q → fx_E none 158 d 4 [some (.ref 215), some (.int x1), some (.int x2), some (.int x3)] [] σ (some (.int q.1)) q.2 := by
  intro n
  induction n with
  | zero =>
    intro x1 x2 x3 σ q  h
    rw [fm_158_4] at h
    exact fx_no h
  | succ n ih =>
    intro x1 x2 x3 σ q  h
    rw [fm_158_4] at h
    refine fs_iload_n (k := 3) (p := 5) (by decide +kernel) rfl rfl ?_
    refine fs_aload_n (k := 0) (p := 6) (by decide +kernel) rfl rfl ?_
    obtain ⟨q2, e1, h⟩ := fx_bd h
    refine fs_callV (idx := 196) (mj := 151) (ci := 10) (na := 0) (mx := 1) (p := 9) (args := [.ref 215]) (rest := [.int x3]) (al2 := [some (.ref 215)]) (by decide +kernel) rfl (by decide +kernel) fo_215 rfl rfl rfl rfl rfl rfl rfl (by omega) (fun d' hd' => fe_151 (by omega) e1) rfl ?_
    by_cases c3 : q2.1 ≤ x3
    · rw [if_pos c3] at h
      refine fs_icmp_ge_t (off := 30) (t := 39) (by decide +kernel) (by decide +kernel) c3 ?_
      refine fs_iload_n (k := 2) (p := 40) (by decide +kernel) rfl rfl ?_
      have h := Option.some.inj h
      subst h
      exact fs_iret (by decide +kernel) rt_158
    · rw [if_neg c3] at h
      refine fs_icmp_ge_f (off := 30) (t := 39) (p := 12) (by decide +kernel) (by decide +kernel) rfl c3 ?_
      refine fs_iload_n (k := 2) (p := 13) (by decide +kernel) rfl rfl ?_
      refine fs_aload_n (k := 0) (p := 14) (by decide +kernel) rfl rfl ?_
      refine fs_iconst (n := 0) (p := 15) (by decide +kernel) rfl kc_0 ?_
      refine fs_iload_n (k := 3) (p := 16) (by decide +kernel) rfl rfl ?_
      obtain ⟨q5, e4, h⟩ := fx_bd h
      refine fs_callV (idx := 199) (mj := 152) (ci := 10) (na := 2) (mx := 3) (p := 19) (args := [.ref 215, .int (0 : Int32), .int x3]) (rest := [.int x2]) (al2 := [some (.ref 215), some (.int (0 : Int32)), some (.int x3)]) (by decide +kernel) rfl (by decide +kernel) fo_215 rfl rfl rfl rfl rfl rfl rfl (by omega) (fun d' hd' => fe_152 (by omega) e4) rfl ?_
      refine fs_iload_n (k := 1) (p := 20) (by decide +kernel) rfl rfl ?_
      by_cases c6 : ¬ q5.1 = x1
      · rw [if_pos c6] at h
        refine fs_icmp_ne_t (off := 7) (t := 27) (by decide +kernel) (by decide +kernel) c6 ?_
        refine fs_iconst (n := 0) (p := 28) (by decide +kernel) rfl kc_0 ?_
        exact fe_158_28 hd ih _ _ _ _ _ _ _ h
      · rw [if_neg c6] at h
        refine fs_icmp_ne_f (off := 7) (t := 27) (p := 23) (by decide +kernel) (by decide +kernel) rfl c6 ?_
        refine fs_iconst (n := 1) (p := 24) (by decide +kernel) rfl kc_1 ?_
        refine fs_goto (off := 4) (p := 28) (by decide +kernel) (by decide +kernel) ?_
        exact fe_158_28 hd ih _ _ _ _ _ _ _ h
def fm_158 (x1 : Int32) (σ : fx_S) : Option (Int32 × fx_S) :=
  fm_158_4 100000 x1 (0 : Int32) (0 : Int32) σ
theorem fe_158 {d : Nat} (hd : 1 ≤ d) {x1 : Int32} {σ : fx_S} {q : Int32 × fx_S} (h : fm_158 x1 σ = some q) : fx_E none 158 d 0 [some (.ref 215), some (.int x1), none, none] [] σ (some (.int q.1)) q.2 := by
  unfold fm_158 at h
  refine fs_iconst (n := 0) (p := 1) (by decide +kernel) rfl kc_0 ?_
  refine fs_istore_n (k := 2) (p := 2) (M := 4) (al' := [some (.ref 215), some (.int x1), some (.int (0 : Int32)), none]) (by decide +kernel) rfl mx_158 rfl rfl ?_
  refine fs_iconst (n := 0) (p := 3) (by decide +kernel) rfl kc_0 ?_
  refine fs_istore_n (k := 3) (p := 4) (M := 4) (al' := [some (.ref 215), some (.int x1), some (.int (0 : Int32)), some (.int (0 : Int32))]) (by decide +kernel) rfl mx_158 rfl rfl ?_
  exact fe_158_4 hd 100000 _ _ _ _ _ h

/-! ZoneSharesModel.begins(II)V -/
theorem mx_159 : iv_mx 159 = 4 := by decide +kernel
theorem rt_159 : iv_rt 159 = none := by decide +kernel
def fm_159_12 : Nat → Int32 → fx_S → Option (fx_S)
  | 0, _, _ => none
  | n + 1, x3, σ =>
    if (72 : Int32) ≤ x3 then (
      some σ) else (
      (fx_st σ 222 x3 (0 : Int32)).bind fun t2 =>
      (fx_stl t2 224 x3 (0 : Int64)).bind fun t4 =>
      (fx_stl t4 225 x3 (0 : Int64)).bind fun t6 =>
      fm_159_12 n (x3 + (1 : Int32)) t6)
theorem fe_159_12 {d : Nat} (hd : 0 ≤ d) : ∀ (n : Nat) (x3 : Int32) (o1 : Option Value) (o2 : Option Value) (σ : fx_S) (q : fx_S), fm_159_12 n x3 σ = some q → fx_E none 159 d 12 [some (.ref 215), o1, o2, some (.int x3)] [] σ none q := by
  intro n
  induction n with
  | zero =>
    intro x3 o1 o2 σ q  h
    rw [fm_159_12] at h
    exact fx_no h
  | succ n ih =>
    intro x3 o1 o2 σ q  h
    rw [fm_159_12] at h
    refine fs_iload_n (k := 3) (p := 13) (by decide +kernel) rfl rfl ?_
    refine fs_bipush (n := 72) (p := 15) (by decide +kernel) rfl kb_72 ?_
    by_cases c1 : (72 : Int32) ≤ x3
    · rw [if_pos c1] at h
      refine fs_icmp_ge_t (off := 30) (t := 45) (by decide +kernel) (by decide +kernel) c1 ?_
      have h := Option.some.inj h
      subst h
      exact fs_ret (by decide +kernel) rt_159
    · rw [if_neg c1] at h
      refine fs_icmp_ge_f (off := 30) (t := 45) (p := 18) (by decide +kernel) (by decide +kernel) rfl c1 ?_
      refine fs_aload_n (k := 0) (p := 19) (by decide +kernel) rfl rfl ?_
      refine fs_gfr (idx := 30) (ci := 10) (j := 13) (p := 22) (by decide +kernel) rfl (by decide +kernel) fo_215 (fr_a215_13) ?_
      refine fs_iload_n (k := 3) (p := 23) (by decide +kernel) rfl rfl ?_
      refine fs_iconst (n := 0) (p := 24) (by decide +kernel) rfl kc_0 ?_
      obtain ⟨t2, e3, h⟩ := fx_bd h
      refine fs_iastore (p := 25) (by decide +kernel) rfl e3 ?_
      refine fs_aload_n (k := 0) (p := 26) (by decide +kernel) rfl rfl ?_
      refine fs_gfr (idx := 36) (ci := 10) (j := 15) (p := 29) (by decide +kernel) rfl (by decide +kernel) fo_215 (fr_a215_15) ?_
      refine fs_iload_n (k := 3) (p := 30) (by decide +kernel) rfl rfl ?_
      refine fs_lconst (n := 0) (p := 31) (by decide +kernel) rfl kl_0 ?_
      obtain ⟨t4, e5, h⟩ := fx_bd h
      refine fs_lastore (p := 32) (by decide +kernel) rfl e5 ?_
      refine fs_aload_n (k := 0) (p := 33) (by decide +kernel) rfl rfl ?_
      refine fs_gfr (idx := 39) (ci := 10) (j := 16) (p := 36) (by decide +kernel) rfl (by decide +kernel) fo_215 (fr_a215_16) ?_
      refine fs_iload_n (k := 3) (p := 37) (by decide +kernel) rfl rfl ?_
      refine fs_lconst (n := 0) (p := 38) (by decide +kernel) rfl kl_0 ?_
      obtain ⟨t6, e7, h⟩ := fx_bd h
      refine fs_lastore (p := 39) (by decide +kernel) rfl e7 ?_
      refine fs_iinc (k := 3) (n := 1) (p := 42) (M := 4) (al' := [some (.ref 215), o1, (fx_kl o2), some (.int (x3 + (1 : Int32)))]) (by decide +kernel) rfl kc_1 mx_159 rfl rfl rfl ?_
      refine fs_goto (off := -30) (p := 12) (by decide +kernel) (by decide +kernel) ?_
      exact ih _ _ _ _ _ h
def fm_159 (x1 : Int32) (x2 : Int32) (σ : fx_S) : Option (fx_S) :=
  fm_159_12 100000 (0 : Int32) (fx_w1 (fx_w1 σ 215 17 x1) 215 18 x2)
theorem fe_159 {d : Nat} (hd : 0 ≤ d) {x1 : Int32} {x2 : Int32} {σ : fx_S} {q : fx_S} (h : fm_159 x1 x2 σ = some q) : fx_E none 159 d 0 [some (.ref 215), some (.int x1), some (.int x2), none] [] σ none q := by
  unfold fm_159 at h
  refine fs_aload_n (k := 0) (p := 1) (by decide +kernel) rfl rfl ?_
  refine fs_iload_n (k := 1) (p := 2) (by decide +kernel) rfl rfl ?_
  refine fs_pfi (idx := 208) (ci := 10) (j := 17) (p := 5) (by decide +kernel) rfl (by decide +kernel) (by decide +kernel) fo_215 (fx_oki _ (by decide +kernel)) ?_
  refine fs_aload_n (k := 0) (p := 6) (by decide +kernel) rfl rfl ?_
  refine fs_iload_n (k := 2) (p := 7) (by decide +kernel) rfl rfl ?_
  refine fs_pfi (idx := 211) (ci := 10) (j := 18) (p := 10) (by decide +kernel) rfl (by decide +kernel) (by decide +kernel) fo_215 (fx_oki _ (by decide +kernel)) ?_
  refine fs_iconst (n := 0) (p := 11) (by decide +kernel) rfl kc_0 ?_
  refine fs_istore_n (k := 3) (p := 12) (M := 4) (al' := [some (.ref 215), some (.int x1), some (.int x2), some (.int (0 : Int32))]) (by decide +kernel) rfl mx_159 rfl rfl ?_
  exact fe_159_12 hd 100000 _ _ _ _ _ h

/-! ZoneSharesModel.at(II)I -/
theorem mx_160 : iv_mx 160 = 2 := by decide +kernel
theorem rt_160 : iv_rt 160 = some .int := by decide +kernel
def fm_160 (x0 : Int32) (x1 : Int32) (σ : fx_S) : Option (Int32 × fx_S) :=
  some ((((9 : Int32) * x0) + x1), σ)
theorem fe_160 {d : Nat} (hd : 0 ≤ d) {x0 : Int32} {x1 : Int32} {σ : fx_S} {q : Int32 × fx_S} (h : fm_160 x0 x1 σ = some q) : fx_E none 160 d 0 [some (.int x0), some (.int x1)] [] σ (some (.int q.1)) q.2 := by
  unfold fm_160 at h
  refine fs_bipush (n := 9) (p := 2) (by decide +kernel) rfl kb_9 ?_
  refine fs_iload_n (k := 0) (p := 3) (by decide +kernel) rfl rfl ?_
  refine fs_imul (p := 4) (by decide +kernel) rfl ?_
  refine fs_iload_n (k := 1) (p := 5) (by decide +kernel) rfl rfl ?_
  refine fs_iadd (p := 6) (by decide +kernel) rfl ?_
  have h := Option.some.inj h
  subst h
  exact fs_iret (by decide +kernel) rt_160

/-! ZoneSharesModel.wholeOf(I)I -/
theorem mx_161 : iv_mx 161 = 4 := by decide +kernel
theorem rt_161 : iv_rt 161 = some .int := by decide +kernel
def fm_161_4 : Nat → Int32 → Int32 → Int32 → fx_S → Option (Int32 × fx_S)
  | 0, _, _, _, _ => none
  | n + 1, x1, x2, x3, σ =>
    if (σ.1 215 18) ≤ x3 then (
      (fx_st σ 223 x1 x2).bind fun t2 =>
      some (x2, t2)) else (
      (fm_160 x1 x3 σ).bind fun q5 =>
      (fx_ld q5.2 222 q5.1).bind fun v6 =>
      fm_161_4 n x1 (x2 + v6) (x3 + (1 : Int32)) q5.2)
theorem fe_161_4 {d : Nat} (hd : 1 ≤ d) : ∀ (n : Nat) (x1 : Int32) (x2 : Int32) (x3 : Int32) (σ : fx_S) (q : Int32 × fx_S), fm_161_4 n x1 x2 x3 σ = some q → fx_E none 161 d 4 [some (.ref 215), some (.int x1), some (.int x2), some (.int x3)] [] σ (some (.int q.1)) q.2 := by
  intro n
  induction n with
  | zero =>
    intro x1 x2 x3 σ q  h
    rw [fm_161_4] at h
    exact fx_no h
  | succ n ih =>
    intro x1 x2 x3 σ q  h
    rw [fm_161_4] at h
    refine fs_iload_n (k := 3) (p := 5) (by decide +kernel) rfl rfl ?_
    refine fs_aload_n (k := 0) (p := 6) (by decide +kernel) rfl rfl ?_
    refine fs_gfi (idx := 211) (ci := 10) (j := 18) (p := 9) (by decide +kernel) rfl (by decide +kernel) fo_215 ?_
    by_cases c1 : (σ.1 215 18) ≤ x3
    · rw [if_pos c1] at h
      refine fs_icmp_ge_t (off := 22) (t := 31) (by decide +kernel) (by decide +kernel) c1 ?_
      refine fs_aload_n (k := 0) (p := 32) (by decide +kernel) rfl rfl ?_
      refine fs_gfr (idx := 33) (ci := 10) (j := 14) (p := 35) (by decide +kernel) rfl (by decide +kernel) fo_215 (fr_a215_14) ?_
      refine fs_iload_n (k := 1) (p := 36) (by decide +kernel) rfl rfl ?_
      refine fs_iload_n (k := 2) (p := 37) (by decide +kernel) rfl rfl ?_
      obtain ⟨t2, e3, h⟩ := fx_bd h
      refine fs_iastore (p := 38) (by decide +kernel) rfl e3 ?_
      refine fs_iload_n (k := 2) (p := 39) (by decide +kernel) rfl rfl ?_
      have h := Option.some.inj h
      subst h
      exact fs_iret (by decide +kernel) rt_161
    · rw [if_neg c1] at h
      refine fs_icmp_ge_f (off := 22) (t := 31) (p := 12) (by decide +kernel) (by decide +kernel) rfl c1 ?_
      refine fs_iload_n (k := 2) (p := 13) (by decide +kernel) rfl rfl ?_
      refine fs_aload_n (k := 0) (p := 14) (by decide +kernel) rfl rfl ?_
      refine fs_gfr (idx := 30) (ci := 10) (j := 13) (p := 17) (by decide +kernel) rfl (by decide +kernel) fo_215 (fr_a215_13) ?_
      refine fs_iload_n (k := 1) (p := 18) (by decide +kernel) rfl rfl ?_
      refine fs_iload_n (k := 3) (p := 19) (by decide +kernel) rfl rfl ?_
      obtain ⟨q5, e4, h⟩ := fx_bd h
      refine fs_callS (idx := 214) (mj := 160) (na := 2) (mx := 2) (p := 22) (args := [.int x1, .int x3]) (rest := [.ref 222, .int x2]) (al2 := [some (.int x1), some (.int x3)]) (by decide +kernel) rfl (by decide +kernel) rfl rfl rfl rfl rfl rfl rfl (by omega) (fun d' hd' => fe_160 (by omega) e4) rfl ?_
      obtain ⟨v6, e7, h⟩ := fx_bd h
      refine fs_iaload (p := 23) (by decide +kernel) rfl e7 ?_
      refine fs_iadd (p := 24) (by decide +kernel) rfl ?_
      refine fs_istore_n (k := 2) (p := 25) (M := 4) (al' := [some (.ref 215), some (.int x1), some (.int (x2 + v6)), some (.int x3)]) (by decide +kernel) rfl mx_161 rfl rfl ?_
      refine fs_iinc (k := 3) (n := 1) (p := 28) (M := 4) (al' := [some (.ref 215), some (.int x1), some (.int (x2 + v6)), some (.int (x3 + (1 : Int32)))]) (by decide +kernel) rfl kc_1 mx_161 rfl rfl rfl ?_
      refine fs_goto (off := -24) (p := 4) (by decide +kernel) (by decide +kernel) ?_
      exact ih _ _ _ _ _ h
def fm_161 (x1 : Int32) (σ : fx_S) : Option (Int32 × fx_S) :=
  fm_161_4 100000 x1 (0 : Int32) (0 : Int32) σ
theorem fe_161 {d : Nat} (hd : 1 ≤ d) {x1 : Int32} {σ : fx_S} {q : Int32 × fx_S} (h : fm_161 x1 σ = some q) : fx_E none 161 d 0 [some (.ref 215), some (.int x1), none, none] [] σ (some (.int q.1)) q.2 := by
  unfold fm_161 at h
  refine fs_iconst (n := 0) (p := 1) (by decide +kernel) rfl kc_0 ?_
  refine fs_istore_n (k := 2) (p := 2) (M := 4) (al' := [some (.ref 215), some (.int x1), some (.int (0 : Int32)), none]) (by decide +kernel) rfl mx_161 rfl rfl ?_
  refine fs_iconst (n := 0) (p := 3) (by decide +kernel) rfl kc_0 ?_
  refine fs_istore_n (k := 3) (p := 4) (M := 4) (al' := [some (.ref 215), some (.int x1), some (.int (0 : Int32)), some (.int (0 : Int32))]) (by decide +kernel) rfl mx_161 rfl rfl ?_
  exact fe_161_4 hd 100000 _ _ _ _ _ h

/-! ZoneSharesModel.cutsOff(I)J -/
theorem mx_162 : iv_mx 162 = 7 := by decide +kernel
theorem rt_162 : iv_rt 162 = some .long := by decide +kernel
def fm_162_107 (k_10 : Int32 → Int64 → Int32 → fx_S → Option (Int64 × fx_S)) (x1 : Int32) (x2 : Int64) (x4 : Int32) (s1 : Int32) (s2 : Int64) (σ : fx_S) : Option (Int64 × fx_S) :=
  (fx_stl σ 225 s1 s2).bind fun t1 =>
  (fm_160 x1 x4 t1).bind fun q4 =>
  (fx_ldl q4.2 224 q4.1).bind fun v5 =>
  k_10 x1 (x2 - v5) (x4 + (1 : Int32)) q4.2
theorem fe_162_107 {d : Nat} (hd : 1 ≤ d) {k_10 : Int32 → Int64 → Int32 → fx_S → Option (Int64 × fx_S)} (hk_10 : ∀ (x1 : Int32) (x2 : Int64) (x4 : Int32) (o5 : Option Value) (σ : fx_S) (q : Int64 × fx_S), k_10 x1 x2 x4 σ = some q → fx_E none 162 d 10 [some (.ref 215), some (.int x1), some (.long x2), none, some (.int x4), o5, none] [] σ (some (.long q.1)) q.2) (x1 : Int32) (x2 : Int64) (x4 : Int32) (s1 : Int32) (s2 : Int64) (o5 : Option Value) (σ : fx_S) (q : Int64 × fx_S) (h : fm_162_107 k_10  x1 x2 x4 s1 s2 σ = some q) : fx_E none 162 d 107 [some (.ref 215), some (.int x1), some (.long x2), none, some (.int x4), o5, none] [.long s2, .int s1, .ref 225] σ (some (.long q.1)) q.2 := by
  unfold fm_162_107 at h
  obtain ⟨t1, e2, h⟩ := fx_bd h
  refine fs_lastore (p := 108) (by decide +kernel) rfl e2 ?_
  refine fs_lload_n (k := 2) (p := 109) (by decide +kernel) rfl rfl ?_
  refine fs_aload_n (k := 0) (p := 110) (by decide +kernel) rfl rfl ?_
  refine fs_gfr (idx := 36) (ci := 10) (j := 15) (p := 113) (by decide +kernel) rfl (by decide +kernel) fo_215 (fr_a215_15) ?_
  refine fs_iload_n (k := 1) (p := 114) (by decide +kernel) rfl rfl ?_
  refine fs_iload (k := 4) (p := 116) (by decide +kernel) rfl rfl ?_
  obtain ⟨q4, e3, h⟩ := fx_bd h
  refine fs_callS (idx := 214) (mj := 160) (na := 2) (mx := 2) (p := 119) (args := [.int x1, .int x4]) (rest := [.ref 224, .long x2]) (al2 := [some (.int x1), some (.int x4)]) (by decide +kernel) rfl (by decide +kernel) rfl rfl rfl rfl rfl rfl rfl (by omega) (fun d' hd' => fe_160 (by omega) e3) rfl ?_
  obtain ⟨v5, e6, h⟩ := fx_bd h
  refine fs_laload (p := 120) (by decide +kernel) rfl e6 ?_
  refine fs_lsub (p := 121) (by decide +kernel) rfl ?_
  refine fs_lstore_n (k := 2) (p := 122) (M := 7) (al' := [some (.ref 215), some (.int x1), some (.long (x2 - v5)), none, some (.int x4), o5, none]) (by decide +kernel) rfl mx_162 rfl rfl ?_
  refine fs_iinc (k := 4) (n := 1) (p := 125) (M := 7) (al' := [some (.ref 215), some (.int x1), some (.long (x2 - v5)), none, some (.int (x4 + (1 : Int32))), o5, none]) (by decide +kernel) rfl kc_1 mx_162 rfl rfl rfl ?_
  refine fs_goto (off := -115) (p := 10) (by decide +kernel) (by decide +kernel) ?_
  exact hk_10 _ _ _ _ _ _ h
def fm_162_73 (k_10 : Int32 → Int64 → Int32 → fx_S → Option (Int64 × fx_S)) (x1 : Int32) (x2 : Int64) (x4 : Int32) (x5 : Int64) (s1 : Int32) (s2 : Int64) (σ : fx_S) : Option (Int64 × fx_S) :=
  (fx_stl σ 224 s1 s2).bind fun t1 =>
  (fm_160 x1 x4 t1).bind fun q4 =>
  (fx_ld q4.2 223 x1).bind fun v5 =>
  if ¬ v5 = 0 then (
    (fx_ld q4.2 223 x1).bind fun v8 =>
    if ¬ (v8).toInt64 = 0 then (
    fm_162_107 k_10 x1 x2 x4 q4.1 (x5 - x5 / (v8).toInt64 * (v8).toInt64) q4.2) else none) else (
    fm_162_107 k_10 x1 x2 x4 q4.1 (0 : Int64) q4.2)
theorem fe_162_73 {d : Nat} (hd : 1 ≤ d) {k_10 : Int32 → Int64 → Int32 → fx_S → Option (Int64 × fx_S)} (hk_10 : ∀ (x1 : Int32) (x2 : Int64) (x4 : Int32) (o5 : Option Value) (σ : fx_S) (q : Int64 × fx_S), k_10 x1 x2 x4 σ = some q → fx_E none 162 d 10 [some (.ref 215), some (.int x1), some (.long x2), none, some (.int x4), o5, none] [] σ (some (.long q.1)) q.2) (x1 : Int32) (x2 : Int64) (x4 : Int32) (x5 : Int64) (s1 : Int32) (s2 : Int64) (σ : fx_S) (q : Int64 × fx_S) (h : fm_162_73 k_10  x1 x2 x4 x5 s1 s2 σ = some q) : fx_E none 162 d 73 [some (.ref 215), some (.int x1), some (.long x2), none, some (.int x4), some (.long x5), none] [.long s2, .int s1, .ref 224] σ (some (.long q.1)) q.2 := by
  unfold fm_162_73 at h
  obtain ⟨t1, e2, h⟩ := fx_bd h
  refine fs_lastore (p := 74) (by decide +kernel) rfl e2 ?_
  refine fs_aload_n (k := 0) (p := 75) (by decide +kernel) rfl rfl ?_
  refine fs_gfr (idx := 39) (ci := 10) (j := 16) (p := 78) (by decide +kernel) rfl (by decide +kernel) fo_215 (fr_a215_16) ?_
  refine fs_iload_n (k := 1) (p := 79) (by decide +kernel) rfl rfl ?_
  refine fs_iload (k := 4) (p := 81) (by decide +kernel) rfl rfl ?_
  obtain ⟨q4, e3, h⟩ := fx_bd h
  refine fs_callS (idx := 214) (mj := 160) (na := 2) (mx := 2) (p := 84) (args := [.int x1, .int x4]) (rest := [.ref 225]) (al2 := [some (.int x1), some (.int x4)]) (by decide +kernel) rfl (by decide +kernel) rfl rfl rfl rfl rfl rfl rfl (by omega) (fun d' hd' => fe_160 (by omega) e3) rfl ?_
  refine fs_aload_n (k := 0) (p := 85) (by decide +kernel) rfl rfl ?_
  refine fs_gfr (idx := 33) (ci := 10) (j := 14) (p := 88) (by decide +kernel) rfl (by decide +kernel) fo_215 (fr_a215_14) ?_
  refine fs_iload_n (k := 1) (p := 89) (by decide +kernel) rfl rfl ?_
  obtain ⟨v5, e6, h⟩ := fx_bd h
  refine fs_iaload (p := 90) (by decide +kernel) rfl e6 ?_
  by_cases c7 : ¬ v5 = 0
  · rw [if_pos c7] at h
    refine fs_if_ne_t (off := 7) (t := 97) (by decide +kernel) (by decide +kernel) c7 ?_
    refine fs_lload (k := 5) (p := 99) (by decide +kernel) rfl rfl ?_
    refine fs_aload_n (k := 0) (p := 100) (by decide +kernel) rfl rfl ?_
    refine fs_gfr (idx := 33) (ci := 10) (j := 14) (p := 103) (by decide +kernel) rfl (by decide +kernel) fo_215 (fr_a215_14) ?_
    refine fs_iload_n (k := 1) (p := 104) (by decide +kernel) rfl rfl ?_
    obtain ⟨v8, e9, h⟩ := fx_bd h
    refine fs_iaload (p := 105) (by decide +kernel) rfl e9 ?_
    refine fs_i2l (p := 106) (by decide +kernel) rfl ?_
    obtain ⟨z10, h⟩ := fx_gd h
    refine fs_lrem (p := 107) (by decide +kernel) rfl z10 ?_
    exact fe_162_107 hd hk_10 _ _ _ _ _ _ _ _ h
  · rw [if_neg c7] at h
    refine fs_if_ne_f (off := 7) (t := 97) (p := 93) (by decide +kernel) (by decide +kernel) rfl c7 ?_
    refine fs_lconst (n := 0) (p := 94) (by decide +kernel) rfl kl_0 ?_
    refine fs_goto (off := 13) (p := 107) (by decide +kernel) (by decide +kernel) ?_
    exact fe_162_107 hd hk_10 _ _ _ _ _ _ _ _ h
def fm_162_10 : Nat → Int32 → Int64 → Int32 → fx_S → Option (Int64 × fx_S)
  | 0, _, _, _, _ => none
  | n + 1, x1, x2, x4, σ =>
    if (σ.1 215 18) ≤ x4 then (
      (fx_ld σ 223 x1).bind fun v2 =>
      if ¬ v2 = 0 then (
        some (x2, σ)) else (
        some ((0 : Int64), σ))) else (
      (fx_ldl σ 221 x1).bind fun v5 =>
      (fm_160 x1 x4 σ).bind fun q8 =>
      (fx_ld q8.2 222 q8.1).bind fun v9 =>
      (fm_160 x1 x4 q8.2).bind fun q12 =>
      (fx_ld q12.2 223 x1).bind fun v13 =>
      if ¬ v13 = 0 then (
        (fx_ld q12.2 223 x1).bind fun v16 =>
        if ¬ (v16).toInt64 = 0 then (
        fm_162_73 (fm_162_10 n) x1 x2 x4 (v5 * (v9).toInt64) q12.1 ((v5 * (v9).toInt64) / (v16).toInt64) q12.2) else none) else (
        fm_162_73 (fm_162_10 n) x1 x2 x4 (v5 * (v9).toInt64) q12.1 (0 : Int64) q12.2))
theorem fe_162_10 {d : Nat} (hd : 1 ≤ d) : ∀ (n : Nat) (x1 : Int32) (x2 : Int64) (x4 : Int32) (o5 : Option Value) (σ : fx_S) (q : Int64 × fx_S), fm_162_10 n x1 x2 x4 σ = some q → fx_E none 162 d 10 [some (.ref 215), some (.int x1), some (.long x2), none, some (.int x4), o5, none] [] σ (some (.long q.1)) q.2 := by
  intro n
  induction n with
  | zero =>
    intro x1 x2 x4 o5 σ q  h
    rw [fm_162_10] at h
    exact fx_no h
  | succ n ih =>
    intro x1 x2 x4 o5 σ q  h
    rw [fm_162_10] at h
    refine fs_iload (k := 4) (p := 12) (by decide +kernel) rfl rfl ?_
    refine fs_aload_n (k := 0) (p := 13) (by decide +kernel) rfl rfl ?_
    refine fs_gfi (idx := 211) (ci := 10) (j := 18) (p := 16) (by decide +kernel) rfl (by decide +kernel) fo_215 ?_
    by_cases c1 : (σ.1 215 18) ≤ x4
    · rw [if_pos c1] at h
      refine fs_icmp_ge_t (off := 112) (t := 128) (by decide +kernel) (by decide +kernel) c1 ?_
      refine fs_aload_n (k := 0) (p := 129) (by decide +kernel) rfl rfl ?_
      refine fs_gfr (idx := 33) (ci := 10) (j := 14) (p := 132) (by decide +kernel) rfl (by decide +kernel) fo_215 (fr_a215_14) ?_
      refine fs_iload_n (k := 1) (p := 133) (by decide +kernel) rfl rfl ?_
      obtain ⟨v2, e3, h⟩ := fx_bd h
      refine fs_iaload (p := 134) (by decide +kernel) rfl e3 ?_
      by_cases c4 : ¬ v2 = 0
      · rw [if_pos c4] at h
        refine fs_if_ne_t (off := 7) (t := 141) (by decide +kernel) (by decide +kernel) c4 ?_
        refine fs_lload_n (k := 2) (p := 142) (by decide +kernel) rfl rfl ?_
        have h := Option.some.inj h
        subst h
        exact fs_lret (by decide +kernel) rt_162
      · rw [if_neg c4] at h
        refine fs_if_ne_f (off := 7) (t := 141) (p := 137) (by decide +kernel) (by decide +kernel) rfl c4 ?_
        refine fs_lconst (n := 0) (p := 138) (by decide +kernel) rfl kl_0 ?_
        refine fs_goto (off := 4) (p := 142) (by decide +kernel) (by decide +kernel) ?_
        have h := Option.some.inj h
        subst h
        exact fs_lret (by decide +kernel) rt_162
    · rw [if_neg c1] at h
      refine fs_icmp_ge_f (off := 112) (t := 128) (p := 19) (by decide +kernel) (by decide +kernel) rfl c1 ?_
      refine fs_aload_n (k := 0) (p := 20) (by decide +kernel) rfl rfl ?_
      refine fs_gfr (idx := 26) (ci := 10) (j := 12) (p := 23) (by decide +kernel) rfl (by decide +kernel) fo_215 (fr_a215_12) ?_
      refine fs_iload_n (k := 1) (p := 24) (by decide +kernel) rfl rfl ?_
      obtain ⟨v5, e6, h⟩ := fx_bd h
      refine fs_laload (p := 25) (by decide +kernel) rfl e6 ?_
      refine fs_aload_n (k := 0) (p := 26) (by decide +kernel) rfl rfl ?_
      refine fs_gfr (idx := 30) (ci := 10) (j := 13) (p := 29) (by decide +kernel) rfl (by decide +kernel) fo_215 (fr_a215_13) ?_
      refine fs_iload_n (k := 1) (p := 30) (by decide +kernel) rfl rfl ?_
      refine fs_iload (k := 4) (p := 32) (by decide +kernel) rfl rfl ?_
      obtain ⟨q8, e7, h⟩ := fx_bd h
      refine fs_callS (idx := 214) (mj := 160) (na := 2) (mx := 2) (p := 35) (args := [.int x1, .int x4]) (rest := [.ref 222, .long v5]) (al2 := [some (.int x1), some (.int x4)]) (by decide +kernel) rfl (by decide +kernel) rfl rfl rfl rfl rfl rfl rfl (by omega) (fun d' hd' => fe_160 (by omega) e7) rfl ?_
      obtain ⟨v9, e10, h⟩ := fx_bd h
      refine fs_iaload (p := 36) (by decide +kernel) rfl e10 ?_
      refine fs_i2l (p := 37) (by decide +kernel) rfl ?_
      refine fs_lmul (p := 38) (by decide +kernel) rfl ?_
      refine fs_lstore (k := 5) (p := 40) (M := 7) (al' := [some (.ref 215), some (.int x1), some (.long x2), none, some (.int x4), some (.long (v5 * (v9).toInt64)), none]) (by decide +kernel) rfl mx_162 rfl rfl ?_
      refine fs_aload_n (k := 0) (p := 41) (by decide +kernel) rfl rfl ?_
      refine fs_gfr (idx := 36) (ci := 10) (j := 15) (p := 44) (by decide +kernel) rfl (by decide +kernel) fo_215 (fr_a215_15) ?_
      refine fs_iload_n (k := 1) (p := 45) (by decide +kernel) rfl rfl ?_
      refine fs_iload (k := 4) (p := 47) (by decide +kernel) rfl rfl ?_
      obtain ⟨q12, e11, h⟩ := fx_bd h
      refine fs_callS (idx := 214) (mj := 160) (na := 2) (mx := 2) (p := 50) (args := [.int x1, .int x4]) (rest := [.ref 224]) (al2 := [some (.int x1), some (.int x4)]) (by decide +kernel) rfl (by decide +kernel) rfl rfl rfl rfl rfl rfl rfl (by omega) (fun d' hd' => fe_160 (by omega) e11) rfl ?_
      refine fs_aload_n (k := 0) (p := 51) (by decide +kernel) rfl rfl ?_
      refine fs_gfr (idx := 33) (ci := 10) (j := 14) (p := 54) (by decide +kernel) rfl (by decide +kernel) fo_215 (fr_a215_14) ?_
      refine fs_iload_n (k := 1) (p := 55) (by decide +kernel) rfl rfl ?_
      obtain ⟨v13, e14, h⟩ := fx_bd h
      refine fs_iaload (p := 56) (by decide +kernel) rfl e14 ?_
      by_cases c15 : ¬ v13 = 0
      · rw [if_pos c15] at h
        refine fs_if_ne_t (off := 7) (t := 63) (by decide +kernel) (by decide +kernel) c15 ?_
        refine fs_lload (k := 5) (p := 65) (by decide +kernel) rfl rfl ?_
        refine fs_aload_n (k := 0) (p := 66) (by decide +kernel) rfl rfl ?_
        refine fs_gfr (idx := 33) (ci := 10) (j := 14) (p := 69) (by decide +kernel) rfl (by decide +kernel) fo_215 (fr_a215_14) ?_
        refine fs_iload_n (k := 1) (p := 70) (by decide +kernel) rfl rfl ?_
        obtain ⟨v16, e17, h⟩ := fx_bd h
        refine fs_iaload (p := 71) (by decide +kernel) rfl e17 ?_
        refine fs_i2l (p := 72) (by decide +kernel) rfl ?_
        obtain ⟨z18, h⟩ := fx_gd h
        refine fs_ldiv (p := 73) (by decide +kernel) rfl z18 ?_
        exact fe_162_73 hd ih _ _ _ _ _ _ _ _ h
      · rw [if_neg c15] at h
        refine fs_if_ne_f (off := 7) (t := 63) (p := 59) (by decide +kernel) (by decide +kernel) rfl c15 ?_
        refine fs_lconst (n := 0) (p := 60) (by decide +kernel) rfl kl_0 ?_
        refine fs_goto (off := 13) (p := 73) (by decide +kernel) (by decide +kernel) ?_
        exact fe_162_73 hd ih _ _ _ _ _ _ _ _ h
def fm_162 (x1 : Int32) (σ : fx_S) : Option (Int64 × fx_S) :=
  (fx_ldl σ 221 x1).bind fun v55 =>
  fm_162_10 100000 x1 v55 (0 : Int32) σ
theorem fe_162 {d : Nat} (hd : 1 ≤ d) {x1 : Int32} {σ : fx_S} {q : Int64 × fx_S} (h : fm_162 x1 σ = some q) : fx_E none 162 d 0 [some (.ref 215), some (.int x1), none, none, none, none, none] [] σ (some (.long q.1)) q.2 := by
  unfold fm_162 at h
  refine fs_aload_n (k := 0) (p := 1) (by decide +kernel) rfl rfl ?_
  refine fs_gfr (idx := 26) (ci := 10) (j := 12) (p := 4) (by decide +kernel) rfl (by decide +kernel) fo_215 (fr_a215_12) ?_
  refine fs_iload_n (k := 1) (p := 5) (by decide +kernel) rfl rfl ?_
  obtain ⟨v55, e56, h⟩ := fx_bd h
  refine fs_laload (p := 6) (by decide +kernel) rfl e56 ?_
  refine fs_lstore_n (k := 2) (p := 7) (M := 7) (al' := [some (.ref 215), some (.int x1), some (.long v55), none, none, none, none]) (by decide +kernel) rfl mx_162 rfl rfl ?_
  refine fs_iconst (n := 0) (p := 8) (by decide +kernel) rfl kc_0 ?_
  refine fs_istore (k := 4) (p := 10) (M := 7) (al' := [some (.ref 215), some (.int x1), some (.long v55), none, some (.int (0 : Int32)), none, none]) (by decide +kernel) rfl mx_162 rfl rfl ?_
  exact fe_162_10 hd 100000 _ _ _ _ _ _ h

/-! ZoneSharesModel.givesByRests(I)V -/
theorem mx_163 : iv_mx 163 = 6 := by decide +kernel
theorem rt_163 : iv_rt 163 = none := by decide +kernel
def fm_163_79 (k_18 : Int32 → Int64 → Int32 → Int32 → fx_S → Option (fx_S)) (x1 : Int32) (x2 : Int64) (x4 : Int32) (x5 : Int32) (σ : fx_S) : Option (fx_S) :=
  k_18 x1 x2 x4 (x5 + (1 : Int32)) σ
theorem fe_163_79 {d : Nat} (hd : 2 ≤ d) {k_18 : Int32 → Int64 → Int32 → Int32 → fx_S → Option (fx_S)} (hk_18 : ∀ (x1 : Int32) (x2 : Int64) (x4 : Int32) (x5 : Int32) (σ : fx_S) (q : fx_S), k_18 x1 x2 x4 x5 σ = some q → fx_E none 163 d 18 [some (.ref 215), some (.int x1), some (.long x2), none, some (.int x4), some (.int x5)] [] σ none q) (x1 : Int32) (x2 : Int64) (x4 : Int32) (x5 : Int32) (σ : fx_S) (q : fx_S) (h : fm_163_79 k_18  x1 x2 x4 x5 σ = some q) : fx_E none 163 d 79 [some (.ref 215), some (.int x1), some (.long x2), none, some (.int x4), some (.int x5)] [] σ none q := by
  unfold fm_163_79 at h
  refine fs_iinc (k := 5) (n := 1) (p := 82) (M := 6) (al' := [some (.ref 215), some (.int x1), some (.long x2), none, some (.int x4), some (.int (x5 + (1 : Int32)))]) (by decide +kernel) rfl kc_1 mx_163 rfl rfl rfl ?_
  refine fs_goto (off := -64) (p := 18) (by decide +kernel) (by decide +kernel) ?_
  exact hk_18 _ _ _ _ _ _ h
def fm_163_75 (k_18 : Int32 → Int64 → Int32 → Int32 → fx_S → Option (fx_S)) (x1 : Int32) (x2 : Int64) (x5 : Int32) (σ : fx_S) : Option (fx_S) :=
  fm_163_79 k_18 x1 x2 x5 x5 σ
theorem fe_163_75 {d : Nat} (hd : 2 ≤ d) {k_18 : Int32 → Int64 → Int32 → Int32 → fx_S → Option (fx_S)} (hk_18 : ∀ (x1 : Int32) (x2 : Int64) (x4 : Int32) (x5 : Int32) (σ : fx_S) (q : fx_S), k_18 x1 x2 x4 x5 σ = some q → fx_E none 163 d 18 [some (.ref 215), some (.int x1), some (.long x2), none, some (.int x4), some (.int x5)] [] σ none q) (x1 : Int32) (x2 : Int64) (x5 : Int32) (o4 : Option Value) (σ : fx_S) (q : fx_S) (h : fm_163_75 k_18  x1 x2 x5 σ = some q) : fx_E none 163 d 75 [some (.ref 215), some (.int x1), some (.long x2), none, o4, some (.int x5)] [] σ none q := by
  unfold fm_163_75 at h
  refine fs_iload (k := 5) (p := 77) (by decide +kernel) rfl rfl ?_
  refine fs_istore (k := 4) (p := 79) (M := 6) (al' := [some (.ref 215), some (.int x1), some (.long x2), none, some (.int x5), some (.int x5)]) (by decide +kernel) rfl mx_163 rfl rfl ?_
  exact fe_163_79 hd hk_18 _ _ _ _ _ _ h
def fm_163_18 (k_6 : Int32 → Int64 → fx_S → Option (fx_S)) : Nat → Int32 → Int64 → Int32 → Int32 → fx_S → Option (fx_S)
  | 0, _, _, _, _, _ => none
  | n + 1, x1, x2, x4, x5, σ =>
    if (σ.1 215 18) ≤ x5 then (
      (fm_160 x1 x4 σ).bind fun q3 =>
      (fx_ldl q3.2 224 q3.1).bind fun v4 =>
      (fx_stl q3.2 224 q3.1 (v4 + (1 : Int64))).bind fun t6 =>
      (fm_160 x1 x4 t6).bind fun q9 =>
      (fx_stl q9.2 225 q9.1 (0 : Int64)).bind fun t10 =>
      k_6 x1 (x2 - (1 : Int64)) t10) else (
      (fm_160 x1 x5 σ).bind fun q13 =>
      (fx_ldl q13.2 225 q13.1).bind fun v14 =>
      if v14 ≤ (0 : Int64) then (
        fm_163_79 (fm_163_18 k_6 n) x1 x2 x4 x5 q13.2) else (
        if x4 = (-1 : Int32) then (
          fm_163_75 (fm_163_18 k_6 n) x1 x2 x5 q13.2) else (
          (fm_160 x1 x5 q13.2).bind fun q19 =>
          (fx_ldl q19.2 225 q19.1).bind fun v20 =>
          (fm_160 x1 x4 q19.2).bind fun q23 =>
          (fx_ldl q23.2 225 q23.1).bind fun v24 =>
          if v20 ≤ v24 then (
            fm_163_79 (fm_163_18 k_6 n) x1 x2 x4 x5 q23.2) else (
            fm_163_75 (fm_163_18 k_6 n) x1 x2 x5 q23.2))))
theorem fe_163_18 {d : Nat} (hd : 2 ≤ d) {k_6 : Int32 → Int64 → fx_S → Option (fx_S)} (hk_6 : ∀ (x1 : Int32) (x2 : Int64) (o4 : Option Value) (o5 : Option Value) (σ : fx_S) (q : fx_S), k_6 x1 x2 σ = some q → fx_E none 163 d 6 [some (.ref 215), some (.int x1), some (.long x2), none, o4, o5] [] σ none q) : ∀ (n : Nat) (x1 : Int32) (x2 : Int64) (x4 : Int32) (x5 : Int32) (σ : fx_S) (q : fx_S), fm_163_18 k_6 n x1 x2 x4 x5 σ = some q → fx_E none 163 d 18 [some (.ref 215), some (.int x1), some (.long x2), none, some (.int x4), some (.int x5)] [] σ none q := by
  intro n
  induction n with
  | zero =>
    intro x1 x2 x4 x5 σ q  h
    rw [fm_163_18] at h
    exact fx_no h
  | succ n ih =>
    intro x1 x2 x4 x5 σ q  h
    rw [fm_163_18] at h
    refine fs_iload (k := 5) (p := 20) (by decide +kernel) rfl rfl ?_
    refine fs_aload_n (k := 0) (p := 21) (by decide +kernel) rfl rfl ?_
    refine fs_gfi (idx := 211) (ci := 10) (j := 18) (p := 24) (by decide +kernel) rfl (by decide +kernel) fo_215 ?_
    by_cases c1 : (σ.1 215 18) ≤ x5
    · rw [if_pos c1] at h
      refine fs_icmp_ge_t (off := 61) (t := 85) (by decide +kernel) (by decide +kernel) c1 ?_
      refine fs_aload_n (k := 0) (p := 86) (by decide +kernel) rfl rfl ?_
      refine fs_gfr (idx := 36) (ci := 10) (j := 15) (p := 89) (by decide +kernel) rfl (by decide +kernel) fo_215 (fr_a215_15) ?_
      refine fs_iload_n (k := 1) (p := 90) (by decide +kernel) rfl rfl ?_
      refine fs_iload (k := 4) (p := 92) (by decide +kernel) rfl rfl ?_
      obtain ⟨q3, e2, h⟩ := fx_bd h
      refine fs_callS (idx := 214) (mj := 160) (na := 2) (mx := 2) (p := 95) (args := [.int x1, .int x4]) (rest := [.ref 224]) (al2 := [some (.int x1), some (.int x4)]) (by decide +kernel) rfl (by decide +kernel) rfl rfl rfl rfl rfl rfl rfl (by omega) (fun d' hd' => fe_160 (by omega) e2) rfl ?_
      refine fs_dup2 (p := 96) (by decide +kernel) rfl rfl rfl ?_
      obtain ⟨v4, e5, h⟩ := fx_bd h
      refine fs_laload (p := 97) (by decide +kernel) rfl e5 ?_
      refine fs_lconst (n := 1) (p := 98) (by decide +kernel) rfl kl_1 ?_
      refine fs_ladd (p := 99) (by decide +kernel) rfl ?_
      obtain ⟨t6, e7, h⟩ := fx_bd h
      refine fs_lastore (p := 100) (by decide +kernel) rfl e7 ?_
      refine fs_aload_n (k := 0) (p := 101) (by decide +kernel) rfl rfl ?_
      refine fs_gfr (idx := 39) (ci := 10) (j := 16) (p := 104) (by decide +kernel) rfl (by decide +kernel) fo_215 (fr_a215_16) ?_
      refine fs_iload_n (k := 1) (p := 105) (by decide +kernel) rfl rfl ?_
      refine fs_iload (k := 4) (p := 107) (by decide +kernel) rfl rfl ?_
      obtain ⟨q9, e8, h⟩ := fx_bd h
      refine fs_callS (idx := 214) (mj := 160) (na := 2) (mx := 2) (p := 110) (args := [.int x1, .int x4]) (rest := [.ref 225]) (al2 := [some (.int x1), some (.int x4)]) (by decide +kernel) rfl (by decide +kernel) rfl rfl rfl rfl rfl rfl rfl (by omega) (fun d' hd' => fe_160 (by omega) e8) rfl ?_
      refine fs_lconst (n := 0) (p := 111) (by decide +kernel) rfl kl_0 ?_
      obtain ⟨t10, e11, h⟩ := fx_bd h
      refine fs_lastore (p := 112) (by decide +kernel) rfl e11 ?_
      refine fs_lload_n (k := 2) (p := 113) (by decide +kernel) rfl rfl ?_
      refine fs_lconst (n := 1) (p := 114) (by decide +kernel) rfl kl_1 ?_
      refine fs_lsub (p := 115) (by decide +kernel) rfl ?_
      refine fs_lstore_n (k := 2) (p := 116) (M := 6) (al' := [some (.ref 215), some (.int x1), some (.long (x2 - (1 : Int64))), none, some (.int x4), some (.int x5)]) (by decide +kernel) rfl mx_163 rfl rfl ?_
      refine fs_goto (off := -110) (p := 6) (by decide +kernel) (by decide +kernel) ?_
      exact hk_6 _ _ _ _ _ _ h
    · rw [if_neg c1] at h
      refine fs_icmp_ge_f (off := 61) (t := 85) (p := 27) (by decide +kernel) (by decide +kernel) rfl c1 ?_
      refine fs_aload_n (k := 0) (p := 28) (by decide +kernel) rfl rfl ?_
      refine fs_gfr (idx := 39) (ci := 10) (j := 16) (p := 31) (by decide +kernel) rfl (by decide +kernel) fo_215 (fr_a215_16) ?_
      refine fs_iload_n (k := 1) (p := 32) (by decide +kernel) rfl rfl ?_
      refine fs_iload (k := 5) (p := 34) (by decide +kernel) rfl rfl ?_
      obtain ⟨q13, e12, h⟩ := fx_bd h
      refine fs_callS (idx := 214) (mj := 160) (na := 2) (mx := 2) (p := 37) (args := [.int x1, .int x5]) (rest := [.ref 225]) (al2 := [some (.int x1), some (.int x5)]) (by decide +kernel) rfl (by decide +kernel) rfl rfl rfl rfl rfl rfl rfl (by omega) (fun d' hd' => fe_160 (by omega) e12) rfl ?_
      obtain ⟨v14, e15, h⟩ := fx_bd h
      refine fs_laload (p := 38) (by decide +kernel) rfl e15 ?_
      refine fs_lconst (n := 0) (p := 39) (by decide +kernel) rfl kl_0 ?_
      by_cases c16 : v14 ≤ (0 : Int64)
      · rw [if_pos c16] at h
        refine fs_lcmp_le_t (off := 39) (t := 79) (by decide +kernel) (by decide +kernel) (by decide +kernel) c16 ?_
        exact fe_163_79 hd ih _ _ _ _ _ _ h
      · rw [if_neg c16] at h
        refine fs_lcmp_le_f (off := 39) (t := 79) (p := 43) (by decide +kernel) (by decide +kernel) (by decide +kernel) rfl c16 ?_
        refine fs_iload (k := 4) (p := 45) (by decide +kernel) rfl rfl ?_
        refine fs_iconst (n := -1) (p := 46) (by decide +kernel) rfl kc_m1 ?_
        by_cases c17 : x4 = (-1 : Int32)
        · rw [if_pos c17] at h
          refine fs_icmp_eq_t (off := 29) (t := 75) (by decide +kernel) (by decide +kernel) c17 ?_
          exact fe_163_75 hd ih _ _ _ _ _ _ h
        · rw [if_neg c17] at h
          refine fs_icmp_eq_f (off := 29) (t := 75) (p := 49) (by decide +kernel) (by decide +kernel) rfl c17 ?_
          refine fs_aload_n (k := 0) (p := 50) (by decide +kernel) rfl rfl ?_
          refine fs_gfr (idx := 39) (ci := 10) (j := 16) (p := 53) (by decide +kernel) rfl (by decide +kernel) fo_215 (fr_a215_16) ?_
          refine fs_iload_n (k := 1) (p := 54) (by decide +kernel) rfl rfl ?_
          refine fs_iload (k := 5) (p := 56) (by decide +kernel) rfl rfl ?_
          obtain ⟨q19, e18, h⟩ := fx_bd h
          refine fs_callS (idx := 214) (mj := 160) (na := 2) (mx := 2) (p := 59) (args := [.int x1, .int x5]) (rest := [.ref 225]) (al2 := [some (.int x1), some (.int x5)]) (by decide +kernel) rfl (by decide +kernel) rfl rfl rfl rfl rfl rfl rfl (by omega) (fun d' hd' => fe_160 (by omega) e18) rfl ?_
          obtain ⟨v20, e21, h⟩ := fx_bd h
          refine fs_laload (p := 60) (by decide +kernel) rfl e21 ?_
          refine fs_aload_n (k := 0) (p := 61) (by decide +kernel) rfl rfl ?_
          refine fs_gfr (idx := 39) (ci := 10) (j := 16) (p := 64) (by decide +kernel) rfl (by decide +kernel) fo_215 (fr_a215_16) ?_
          refine fs_iload_n (k := 1) (p := 65) (by decide +kernel) rfl rfl ?_
          refine fs_iload (k := 4) (p := 67) (by decide +kernel) rfl rfl ?_
          obtain ⟨q23, e22, h⟩ := fx_bd h
          refine fs_callS (idx := 214) (mj := 160) (na := 2) (mx := 2) (p := 70) (args := [.int x1, .int x4]) (rest := [.ref 225, .long v20]) (al2 := [some (.int x1), some (.int x4)]) (by decide +kernel) rfl (by decide +kernel) rfl rfl rfl rfl rfl rfl rfl (by omega) (fun d' hd' => fe_160 (by omega) e22) rfl ?_
          obtain ⟨v24, e25, h⟩ := fx_bd h
          refine fs_laload (p := 71) (by decide +kernel) rfl e25 ?_
          by_cases c26 : v20 ≤ v24
          · rw [if_pos c26] at h
            refine fs_lcmp_le_t (off := 7) (t := 79) (by decide +kernel) (by decide +kernel) (by decide +kernel) c26 ?_
            exact fe_163_79 hd ih _ _ _ _ _ _ h
          · rw [if_neg c26] at h
            refine fs_lcmp_le_f (off := 7) (t := 79) (p := 75) (by decide +kernel) (by decide +kernel) (by decide +kernel) rfl c26 ?_
            exact fe_163_75 hd ih _ _ _ _ _ _ h
def fm_163_6 : Nat → Int32 → Int64 → fx_S → Option (fx_S)
  | 0, _, _, _ => none
  | n + 1, x1, x2, σ =>
    if x2 ≤ (0 : Int64) then (
      some σ) else (
      fm_163_18 (fm_163_6 n) 100000 x1 x2 (-1 : Int32) (0 : Int32) σ)
theorem fe_163_6 {d : Nat} (hd : 2 ≤ d) : ∀ (n : Nat) (x1 : Int32) (x2 : Int64) (o4 : Option Value) (o5 : Option Value) (σ : fx_S) (q : fx_S), fm_163_6 n x1 x2 σ = some q → fx_E none 163 d 6 [some (.ref 215), some (.int x1), some (.long x2), none, o4, o5] [] σ none q := by
  intro n
  induction n with
  | zero =>
    intro x1 x2 o4 o5 σ q  h
    rw [fm_163_6] at h
    exact fx_no h
  | succ n ih =>
    intro x1 x2 o4 o5 σ q  h
    rw [fm_163_6] at h
    refine fs_lload_n (k := 2) (p := 7) (by decide +kernel) rfl rfl ?_
    refine fs_lconst (n := 0) (p := 8) (by decide +kernel) rfl kl_0 ?_
    by_cases c1 : x2 ≤ (0 : Int64)
    · rw [if_pos c1] at h
      refine fs_lcmp_le_t (off := 110) (t := 119) (by decide +kernel) (by decide +kernel) (by decide +kernel) c1 ?_
      have h := Option.some.inj h
      subst h
      exact fs_ret (by decide +kernel) rt_163
    · rw [if_neg c1] at h
      refine fs_lcmp_le_f (off := 110) (t := 119) (p := 12) (by decide +kernel) (by decide +kernel) (by decide +kernel) rfl c1 ?_
      refine fs_iconst (n := -1) (p := 13) (by decide +kernel) rfl kc_m1 ?_
      refine fs_istore (k := 4) (p := 15) (M := 6) (al' := [some (.ref 215), some (.int x1), some (.long x2), none, some (.int (-1 : Int32)), o5]) (by decide +kernel) rfl mx_163 rfl rfl ?_
      refine fs_iconst (n := 0) (p := 16) (by decide +kernel) rfl kc_0 ?_
      refine fs_istore (k := 5) (p := 18) (M := 6) (al' := [some (.ref 215), some (.int x1), some (.long x2), none, some (.int (-1 : Int32)), some (.int (0 : Int32))]) (by decide +kernel) rfl mx_163 rfl rfl ?_
      exact fe_163_18 hd ih 100000 _ _ _ _ _ _ h
def fm_163 (x1 : Int32) (σ : fx_S) : Option (fx_S) :=
  (fm_162 x1 σ).bind fun q32 =>
  fm_163_6 100000 x1 q32.1 q32.2
theorem fe_163 {d : Nat} (hd : 2 ≤ d) {x1 : Int32} {σ : fx_S} {q : fx_S} (h : fm_163 x1 σ = some q) : fx_E none 163 d 0 [some (.ref 215), some (.int x1), none, none, none, none] [] σ none q := by
  unfold fm_163 at h
  refine fs_aload_n (k := 0) (p := 1) (by decide +kernel) rfl rfl ?_
  refine fs_iload_n (k := 1) (p := 2) (by decide +kernel) rfl rfl ?_
  obtain ⟨q32, e31, h⟩ := fx_bd h
  refine fs_callV (idx := 217) (mj := 162) (ci := 10) (na := 1) (mx := 7) (p := 5) (args := [.ref 215, .int x1]) (rest := []) (al2 := [some (.ref 215), some (.int x1), none, none, none, none, none]) (by decide +kernel) rfl (by decide +kernel) fo_215 rfl rfl rfl rfl rfl rfl rfl (by omega) (fun d' hd' => fe_162 (by omega) e31) rfl ?_
  refine fs_lstore_n (k := 2) (p := 6) (M := 6) (al' := [some (.ref 215), some (.int x1), some (.long q32.1), none, none, none]) (by decide +kernel) rfl mx_163 rfl rfl ?_
  exact fe_163_6 hd 100000 _ _ _ _ _ _ h

/-! ZoneSharesModel.divisor(JJ)J -/
theorem mx_164 : iv_mx 164 = 10 := by decide +kernel
theorem rt_164 : iv_rt 164 = some .long := by decide +kernel
def fm_164_6 : Nat → Int64 → Int64 → fx_S → Option (Int64 × fx_S)
  | 0, _, _, _ => none
  | n + 1, x4, x6, σ =>
    if x6 = (0 : Int64) then (
      some (x4, σ)) else (
      if ¬ x6 = 0 then (
      fm_164_6 n x6 (x4 - x4 / x6 * x6) σ) else none)
theorem fe_164_6 {d : Nat} (hd : 0 ≤ d) : ∀ (n : Nat) (x4 : Int64) (x6 : Int64) (o0 : Option Value) (o2 : Option Value) (o8 : Option Value) (σ : fx_S) (q : Int64 × fx_S), fm_164_6 n x4 x6 σ = some q → fx_E none 164 d 6 [o0, none, o2, none, some (.long x4), none, some (.long x6), none, o8, none] [] σ (some (.long q.1)) q.2 := by
  intro n
  induction n with
  | zero =>
    intro x4 x6 o0 o2 o8 σ q  h
    rw [fm_164_6] at h
    exact fx_no h
  | succ n ih =>
    intro x4 x6 o0 o2 o8 σ q  h
    rw [fm_164_6] at h
    refine fs_lload (k := 6) (p := 8) (by decide +kernel) rfl rfl ?_
    refine fs_lconst (n := 0) (p := 9) (by decide +kernel) rfl kl_0 ?_
    by_cases c1 : x6 = (0 : Int64)
    · rw [if_pos c1] at h
      refine fs_lcmp_eq_t (off := 21) (t := 31) (by decide +kernel) (by decide +kernel) (by decide +kernel) c1 ?_
      refine fs_lload (k := 4) (p := 33) (by decide +kernel) rfl rfl ?_
      have h := Option.some.inj h
      subst h
      exact fs_lret (by decide +kernel) rt_164
    · rw [if_neg c1] at h
      refine fs_lcmp_eq_f (off := 21) (t := 31) (p := 13) (by decide +kernel) (by decide +kernel) (by decide +kernel) rfl c1 ?_
      refine fs_lload (k := 4) (p := 15) (by decide +kernel) rfl rfl ?_
      refine fs_lload (k := 6) (p := 17) (by decide +kernel) rfl rfl ?_
      obtain ⟨z2, h⟩ := fx_gd h
      refine fs_lrem (p := 18) (by decide +kernel) rfl z2 ?_
      refine fs_lstore (k := 8) (p := 20) (M := 10) (al' := [o0, none, o2, none, some (.long x4), none, some (.long x6), none, some (.long (x4 - x4 / x6 * x6)), none]) (by decide +kernel) rfl mx_164 rfl rfl ?_
      refine fs_lload (k := 6) (p := 22) (by decide +kernel) rfl rfl ?_
      refine fs_lstore (k := 4) (p := 24) (M := 10) (al' := [o0, none, o2, none, some (.long x6), none, some (.long x6), none, some (.long (x4 - x4 / x6 * x6)), none]) (by decide +kernel) rfl mx_164 rfl rfl ?_
      refine fs_lload (k := 8) (p := 26) (by decide +kernel) rfl rfl ?_
      refine fs_lstore (k := 6) (p := 28) (M := 10) (al' := [o0, none, o2, none, some (.long x6), none, some (.long (x4 - x4 / x6 * x6)), none, some (.long (x4 - x4 / x6 * x6)), none]) (by decide +kernel) rfl mx_164 rfl rfl ?_
      refine fs_goto (off := -22) (p := 6) (by decide +kernel) (by decide +kernel) ?_
      exact ih _ _ _ _ _ _ _ h
def fm_164 (x0 : Int64) (x2 : Int64) (σ : fx_S) : Option (Int64 × fx_S) :=
  fm_164_6 100000 x0 x2 σ
theorem fe_164 {d : Nat} (hd : 0 ≤ d) {x0 : Int64} {x2 : Int64} {σ : fx_S} {q : Int64 × fx_S} (h : fm_164 x0 x2 σ = some q) : fx_E none 164 d 0 [some (.long x0), none, some (.long x2), none, none, none, none, none, none, none] [] σ (some (.long q.1)) q.2 := by
  unfold fm_164 at h
  refine fs_lload_n (k := 0) (p := 1) (by decide +kernel) rfl rfl ?_
  refine fs_lstore (k := 4) (p := 3) (M := 10) (al' := [some (.long x0), none, some (.long x2), none, some (.long x0), none, none, none, none, none]) (by decide +kernel) rfl mx_164 rfl rfl ?_
  refine fs_lload_n (k := 2) (p := 4) (by decide +kernel) rfl rfl ?_
  refine fs_lstore (k := 6) (p := 6) (M := 10) (al' := [some (.long x0), none, some (.long x2), none, some (.long x0), none, some (.long x2), none, none, none]) (by decide +kernel) rfl mx_164 rfl rfl ?_
  exact fe_164_6 hd 100000 _ _ _ _ _ _ _ h

/-! ZoneSharesModel.addsPart(JJ)V -/
theorem mx_165 : iv_mx 165 = 9 := by decide +kernel
theorem rt_165 : iv_rt 165 = none := by decide +kernel
def fm_165 (x1 : Int64) (x3 : Int64) (σ : fx_S) : Option (fx_S) :=
  (fm_164 (σ.2 215 30) x3 σ).bind fun q7 =>
  if ¬ q7.1 = 0 then (
  if ¬ (q7.2.2 215 30) = 0 then (
  if ¬ x3 = 0 then (
  some (fx_w2 (fx_w2 q7.2 215 29 (((q7.2.2 215 29) * ((((q7.2.2 215 30) / q7.1) * x3) / (q7.2.2 215 30))) + (x1 * ((((q7.2.2 215 30) / q7.1) * x3) / x3)))) 215 30 (((q7.2.2 215 30) / q7.1) * x3))) else none) else none) else none
theorem fe_165 {d : Nat} (hd : 1 ≤ d) {x1 : Int64} {x3 : Int64} {σ : fx_S} {q : fx_S} (h : fm_165 x1 x3 σ = some q) : fx_E none 165 d 0 [some (.ref 215), some (.long x1), none, some (.long x3), none, none, none, none, none] [] σ none q := by
  unfold fm_165 at h
  refine fs_aload_n (k := 0) (p := 1) (by decide +kernel) rfl rfl ?_
  refine fs_gfl (idx := 221) (ci := 10) (j := 30) (p := 4) (by decide +kernel) rfl (by decide +kernel) fo_215 ?_
  refine fs_lload_n (k := 3) (p := 5) (by decide +kernel) rfl rfl ?_
  obtain ⟨q7, e6, h⟩ := fx_bd h
  refine fs_callS (idx := 225) (mj := 164) (na := 2) (mx := 10) (p := 8) (args := [.long (σ.2 215 30), .long x3]) (rest := []) (al2 := [some (.long (σ.2 215 30)), none, some (.long x3), none, none, none, none, none, none, none]) (by decide +kernel) rfl (by decide +kernel) rfl rfl rfl rfl rfl rfl rfl (by omega) (fun d' hd' => fe_164 (by omega) e6) rfl ?_
  refine fs_lstore (k := 5) (p := 10) (M := 9) (al' := [some (.ref 215), some (.long x1), none, some (.long x3), none, some (.long q7.1), none, none, none]) (by decide +kernel) rfl mx_165 rfl rfl ?_
  refine fs_aload_n (k := 0) (p := 11) (by decide +kernel) rfl rfl ?_
  refine fs_gfl (idx := 221) (ci := 10) (j := 30) (p := 14) (by decide +kernel) rfl (by decide +kernel) fo_215 ?_
  refine fs_lload (k := 5) (p := 16) (by decide +kernel) rfl rfl ?_
  obtain ⟨z8, h⟩ := fx_gd h
  refine fs_ldiv (p := 17) (by decide +kernel) rfl z8 ?_
  refine fs_lload_n (k := 3) (p := 18) (by decide +kernel) rfl rfl ?_
  refine fs_lmul (p := 19) (by decide +kernel) rfl ?_
  refine fs_lstore (k := 7) (p := 21) (M := 9) (al' := [some (.ref 215), some (.long x1), none, some (.long x3), none, some (.long q7.1), none, some (.long (((q7.2.2 215 30) / q7.1) * x3)), none]) (by decide +kernel) rfl mx_165 rfl rfl ?_
  refine fs_aload_n (k := 0) (p := 22) (by decide +kernel) rfl rfl ?_
  refine fs_aload_n (k := 0) (p := 23) (by decide +kernel) rfl rfl ?_
  refine fs_gfl (idx := 229) (ci := 10) (j := 29) (p := 26) (by decide +kernel) rfl (by decide +kernel) fo_215 ?_
  refine fs_lload (k := 7) (p := 28) (by decide +kernel) rfl rfl ?_
  refine fs_aload_n (k := 0) (p := 29) (by decide +kernel) rfl rfl ?_
  refine fs_gfl (idx := 221) (ci := 10) (j := 30) (p := 32) (by decide +kernel) rfl (by decide +kernel) fo_215 ?_
  obtain ⟨z9, h⟩ := fx_gd h
  refine fs_ldiv (p := 33) (by decide +kernel) rfl z9 ?_
  refine fs_lmul (p := 34) (by decide +kernel) rfl ?_
  refine fs_lload_n (k := 1) (p := 35) (by decide +kernel) rfl rfl ?_
  refine fs_lload (k := 7) (p := 37) (by decide +kernel) rfl rfl ?_
  refine fs_lload_n (k := 3) (p := 38) (by decide +kernel) rfl rfl ?_
  obtain ⟨z10, h⟩ := fx_gd h
  refine fs_ldiv (p := 39) (by decide +kernel) rfl z10 ?_
  refine fs_lmul (p := 40) (by decide +kernel) rfl ?_
  refine fs_ladd (p := 41) (by decide +kernel) rfl ?_
  refine fs_pfl (idx := 229) (ci := 10) (j := 29) (p := 44) (by decide +kernel) rfl (by decide +kernel) (by decide +kernel) fo_215 ?_
  refine fs_aload_n (k := 0) (p := 45) (by decide +kernel) rfl rfl ?_
  refine fs_lload (k := 7) (p := 47) (by decide +kernel) rfl rfl ?_
  refine fs_pfl (idx := 221) (ci := 10) (j := 30) (p := 50) (by decide +kernel) rfl (by decide +kernel) (by decide +kernel) fo_215 ?_
  have h := Option.some.inj h
  subst h
  exact fs_ret (by decide +kernel) rt_165

/-! ZoneSharesModel.laysColumn(I)V -/
theorem mx_166 : iv_mx 166 = 3 := by decide +kernel
theorem rt_166 : iv_rt 166 = none := by decide +kernel
def fm_166_107 (s1 : Int32) (s2 : Int64) (s3 : Int32) (σ : fx_S) : Option (fx_S) :=
  (fm_131 s3 σ).bind fun q2 =>
  (fx_stl q2.2 228 s1 (s2 + (q2.1).toInt64)).bind fun t3 =>
  some t3
theorem fe_166_107 {d : Nat} (hd : 2 ≤ d) (s1 : Int32) (s2 : Int64) (s3 : Int32) (o0 : Option Value) (o1 : Option Value) (o2 : Option Value) (σ : fx_S) (q : fx_S) (h : fm_166_107  s1 s2 s3 σ = some q) : fx_E none 166 d 107 [o0, o1, o2] [.int s3, .long s2, .int s1, .ref 228] σ none q := by
  unfold fm_166_107 at h
  obtain ⟨q2, e1, h⟩ := fx_bd h
  refine fs_callS (idx := 186) (mj := 131) (na := 1) (mx := 1) (p := 110) (args := [.int s3]) (rest := [.long s2, .int s1, .ref 228]) (al2 := [some (.int s3)]) (by decide +kernel) rfl (by decide +kernel) rfl rfl rfl rfl rfl rfl rfl (by omega) (fun d' hd' => fe_131 (by omega) e1) rfl ?_
  refine fs_i2l (p := 111) (by decide +kernel) rfl ?_
  refine fs_ladd (p := 112) (by decide +kernel) rfl ?_
  obtain ⟨t3, e4, h⟩ := fx_bd h
  refine fs_lastore (p := 113) (by decide +kernel) rfl e4 ?_
  have h := Option.some.inj h
  subst h
  exact fs_ret (by decide +kernel) rt_166
def fm_166_56 (k_12 : Int32 → Int32 → fx_S → Option (fx_S)) (x1 : Int32) (x2 : Int32) (σ : fx_S) : Option (fx_S) :=
  k_12 x1 (x2 + (1 : Int32)) σ
theorem fe_166_56 {d : Nat} (hd : 2 ≤ d) {k_12 : Int32 → Int32 → fx_S → Option (fx_S)} (hk_12 : ∀ (x1 : Int32) (x2 : Int32) (σ : fx_S) (q : fx_S), k_12 x1 x2 σ = some q → fx_E none 166 d 12 [some (.ref 215), some (.int x1), some (.int x2)] [] σ none q) (x1 : Int32) (x2 : Int32) (σ : fx_S) (q : fx_S) (h : fm_166_56 k_12  x1 x2 σ = some q) : fx_E none 166 d 56 [some (.ref 215), some (.int x1), some (.int x2)] [] σ none q := by
  unfold fm_166_56 at h
  refine fs_iinc (k := 2) (n := 1) (p := 59) (M := 3) (al' := [some (.ref 215), some (.int x1), some (.int (x2 + (1 : Int32)))]) (by decide +kernel) rfl kc_1 mx_166 rfl rfl rfl ?_
  refine fs_goto (off := -47) (p := 12) (by decide +kernel) (by decide +kernel) ?_
  exact hk_12 _ _ _ _ h
def fm_166_12 : Nat → Int32 → Int32 → fx_S → Option (fx_S)
  | 0, _, _, _ => none
  | n + 1, x1, x2, σ =>
    if (σ.1 215 17) ≤ x2 then (
      if ¬ (σ.2 215 30) = 0 then (
      (fx_stl σ 227 x1 ((σ.2 215 29) / (σ.2 215 30))).bind fun t3 =>
      (fx_ldl t3 227 x1).bind fun v5 =>
      if ¬ (t3.2 215 30) = 0 then (
      fm_166_107 x1 v5 (if ((t3.2 215 29) - (t3.2 215 29) / (t3.2 215 30) * (t3.2 215 30)) ≤ (0 : Int64) then (0 : Int32) else (1 : Int32)) t3) else none) else none) else (
      (fm_160 x2 x1 σ).bind fun q10 =>
      (fx_ldl q10.2 225 q10.1).bind fun v11 =>
      if v11 ≤ (0 : Int64) then (
        fm_166_56 (fm_166_12 n) x1 x2 q10.2) else (
        (fm_160 x2 x1 q10.2).bind fun q15 =>
        (fx_ldl q15.2 225 q15.1).bind fun v16 =>
        (fx_ld q15.2 223 x2).bind fun v18 =>
        (fm_165 v16 (v18).toInt64 q15.2).bind fun q21 =>
        fm_166_56 (fm_166_12 n) x1 x2 q21))
theorem fe_166_12 {d : Nat} (hd : 2 ≤ d) : ∀ (n : Nat) (x1 : Int32) (x2 : Int32) (σ : fx_S) (q : fx_S), fm_166_12 n x1 x2 σ = some q → fx_E none 166 d 12 [some (.ref 215), some (.int x1), some (.int x2)] [] σ none q := by
  intro n
  induction n with
  | zero =>
    intro x1 x2 σ q  h
    rw [fm_166_12] at h
    exact fx_no h
  | succ n ih =>
    intro x1 x2 σ q  h
    rw [fm_166_12] at h
    refine fs_iload_n (k := 2) (p := 13) (by decide +kernel) rfl rfl ?_
    refine fs_aload_n (k := 0) (p := 14) (by decide +kernel) rfl rfl ?_
    refine fs_gfi (idx := 208) (ci := 10) (j := 17) (p := 17) (by decide +kernel) rfl (by decide +kernel) fo_215 ?_
    by_cases c1 : (σ.1 215 17) ≤ x2
    · rw [if_pos c1] at h
      refine fs_icmp_ge_t (off := 45) (t := 62) (by decide +kernel) (by decide +kernel) c1 ?_
      refine fs_aload_n (k := 0) (p := 63) (by decide +kernel) rfl rfl ?_
      refine fs_gfr (idx := 45) (ci := 10) (j := 20) (p := 66) (by decide +kernel) rfl (by decide +kernel) fo_215 (fr_a215_20) ?_
      refine fs_iload_n (k := 1) (p := 67) (by decide +kernel) rfl rfl ?_
      refine fs_aload_n (k := 0) (p := 68) (by decide +kernel) rfl rfl ?_
      refine fs_gfl (idx := 229) (ci := 10) (j := 29) (p := 71) (by decide +kernel) rfl (by decide +kernel) fo_215 ?_
      refine fs_aload_n (k := 0) (p := 72) (by decide +kernel) rfl rfl ?_
      refine fs_gfl (idx := 221) (ci := 10) (j := 30) (p := 75) (by decide +kernel) rfl (by decide +kernel) fo_215 ?_
      obtain ⟨z2, h⟩ := fx_gd h
      refine fs_ldiv (p := 76) (by decide +kernel) rfl z2 ?_
      obtain ⟨t3, e4, h⟩ := fx_bd h
      refine fs_lastore (p := 77) (by decide +kernel) rfl e4 ?_
      refine fs_aload_n (k := 0) (p := 78) (by decide +kernel) rfl rfl ?_
      refine fs_gfr (idx := 48) (ci := 10) (j := 21) (p := 81) (by decide +kernel) rfl (by decide +kernel) fo_215 (fr_a215_21) ?_
      refine fs_iload_n (k := 1) (p := 82) (by decide +kernel) rfl rfl ?_
      refine fs_aload_n (k := 0) (p := 83) (by decide +kernel) rfl rfl ?_
      refine fs_gfr (idx := 45) (ci := 10) (j := 20) (p := 86) (by decide +kernel) rfl (by decide +kernel) fo_215 (fr_a215_20) ?_
      refine fs_iload_n (k := 1) (p := 87) (by decide +kernel) rfl rfl ?_
      obtain ⟨v5, e6, h⟩ := fx_bd h
      refine fs_laload (p := 88) (by decide +kernel) rfl e6 ?_
      refine fs_aload_n (k := 0) (p := 89) (by decide +kernel) rfl rfl ?_
      refine fs_gfl (idx := 229) (ci := 10) (j := 29) (p := 92) (by decide +kernel) rfl (by decide +kernel) fo_215 ?_
      refine fs_aload_n (k := 0) (p := 93) (by decide +kernel) rfl rfl ?_
      refine fs_gfl (idx := 221) (ci := 10) (j := 30) (p := 96) (by decide +kernel) rfl (by decide +kernel) fo_215 ?_
      obtain ⟨z7, h⟩ := fx_gd h
      refine fs_lrem (p := 97) (by decide +kernel) rfl z7 ?_
      refine fs_lconst (n := 0) (p := 98) (by decide +kernel) rfl kl_0 ?_
      by_cases c8 : ((t3.2 215 29) - (t3.2 215 29) / (t3.2 215 30) * (t3.2 215 30)) ≤ (0 : Int64)
      · rw [if_pos c8] at h
        refine fs_lcmp_le_t (off := 7) (t := 106) (by decide +kernel) (by decide +kernel) (by decide +kernel) c8 ?_
        refine fs_iconst (n := 0) (p := 107) (by decide +kernel) rfl kc_0 ?_
        exact fe_166_107 hd _ _ _ _ _ _ _ _ h
      · rw [if_neg c8] at h
        refine fs_lcmp_le_f (off := 7) (t := 106) (p := 102) (by decide +kernel) (by decide +kernel) (by decide +kernel) rfl c8 ?_
        refine fs_iconst (n := 1) (p := 103) (by decide +kernel) rfl kc_1 ?_
        refine fs_goto (off := 4) (p := 107) (by decide +kernel) (by decide +kernel) ?_
        exact fe_166_107 hd _ _ _ _ _ _ _ _ h
    · rw [if_neg c1] at h
      refine fs_icmp_ge_f (off := 45) (t := 62) (p := 20) (by decide +kernel) (by decide +kernel) rfl c1 ?_
      refine fs_aload_n (k := 0) (p := 21) (by decide +kernel) rfl rfl ?_
      refine fs_gfr (idx := 39) (ci := 10) (j := 16) (p := 24) (by decide +kernel) rfl (by decide +kernel) fo_215 (fr_a215_16) ?_
      refine fs_iload_n (k := 2) (p := 25) (by decide +kernel) rfl rfl ?_
      refine fs_iload_n (k := 1) (p := 26) (by decide +kernel) rfl rfl ?_
      obtain ⟨q10, e9, h⟩ := fx_bd h
      refine fs_callS (idx := 214) (mj := 160) (na := 2) (mx := 2) (p := 29) (args := [.int x2, .int x1]) (rest := [.ref 225]) (al2 := [some (.int x2), some (.int x1)]) (by decide +kernel) rfl (by decide +kernel) rfl rfl rfl rfl rfl rfl rfl (by omega) (fun d' hd' => fe_160 (by omega) e9) rfl ?_
      obtain ⟨v11, e12, h⟩ := fx_bd h
      refine fs_laload (p := 30) (by decide +kernel) rfl e12 ?_
      refine fs_lconst (n := 0) (p := 31) (by decide +kernel) rfl kl_0 ?_
      by_cases c13 : v11 ≤ (0 : Int64)
      · rw [if_pos c13] at h
        refine fs_lcmp_le_t (off := 24) (t := 56) (by decide +kernel) (by decide +kernel) (by decide +kernel) c13 ?_
        exact fe_166_56 hd ih _ _ _ _ h
      · rw [if_neg c13] at h
        refine fs_lcmp_le_f (off := 24) (t := 56) (p := 35) (by decide +kernel) (by decide +kernel) (by decide +kernel) rfl c13 ?_
        refine fs_aload_n (k := 0) (p := 36) (by decide +kernel) rfl rfl ?_
        refine fs_aload_n (k := 0) (p := 37) (by decide +kernel) rfl rfl ?_
        refine fs_gfr (idx := 39) (ci := 10) (j := 16) (p := 40) (by decide +kernel) rfl (by decide +kernel) fo_215 (fr_a215_16) ?_
        refine fs_iload_n (k := 2) (p := 41) (by decide +kernel) rfl rfl ?_
        refine fs_iload_n (k := 1) (p := 42) (by decide +kernel) rfl rfl ?_
        obtain ⟨q15, e14, h⟩ := fx_bd h
        refine fs_callS (idx := 214) (mj := 160) (na := 2) (mx := 2) (p := 45) (args := [.int x2, .int x1]) (rest := [.ref 225, .ref 215]) (al2 := [some (.int x2), some (.int x1)]) (by decide +kernel) rfl (by decide +kernel) rfl rfl rfl rfl rfl rfl rfl (by omega) (fun d' hd' => fe_160 (by omega) e14) rfl ?_
        obtain ⟨v16, e17, h⟩ := fx_bd h
        refine fs_laload (p := 46) (by decide +kernel) rfl e17 ?_
        refine fs_aload_n (k := 0) (p := 47) (by decide +kernel) rfl rfl ?_
        refine fs_gfr (idx := 33) (ci := 10) (j := 14) (p := 50) (by decide +kernel) rfl (by decide +kernel) fo_215 (fr_a215_14) ?_
        refine fs_iload_n (k := 2) (p := 51) (by decide +kernel) rfl rfl ?_
        obtain ⟨v18, e19, h⟩ := fx_bd h
        refine fs_iaload (p := 52) (by decide +kernel) rfl e19 ?_
        refine fs_i2l (p := 53) (by decide +kernel) rfl ?_
        obtain ⟨q21, e20, h⟩ := fx_bd h
        refine fs_callV (idx := 232) (mj := 165) (ci := 10) (na := 2) (mx := 9) (p := 56) (args := [.ref 215, .long v16, .long (v18).toInt64]) (rest := []) (al2 := [some (.ref 215), some (.long v16), none, some (.long (v18).toInt64), none, none, none, none, none]) (by decide +kernel) rfl (by decide +kernel) fo_215 rfl rfl rfl rfl rfl rfl rfl (by omega) (fun d' hd' => fe_165 (by omega) e20) rfl ?_
        exact fe_166_56 hd ih _ _ _ _ h
def fm_166 (x1 : Int32) (σ : fx_S) : Option (fx_S) :=
  fm_166_12 100000 x1 (0 : Int32) (fx_w2 (fx_w2 σ 215 29 (0 : Int64)) 215 30 (1 : Int64))
theorem fe_166 {d : Nat} (hd : 2 ≤ d) {x1 : Int32} {σ : fx_S} {q : fx_S} (h : fm_166 x1 σ = some q) : fx_E none 166 d 0 [some (.ref 215), some (.int x1), none] [] σ none q := by
  unfold fm_166 at h
  refine fs_aload_n (k := 0) (p := 1) (by decide +kernel) rfl rfl ?_
  refine fs_lconst (n := 0) (p := 2) (by decide +kernel) rfl kl_0 ?_
  refine fs_pfl (idx := 229) (ci := 10) (j := 29) (p := 5) (by decide +kernel) rfl (by decide +kernel) (by decide +kernel) fo_215 ?_
  refine fs_aload_n (k := 0) (p := 6) (by decide +kernel) rfl rfl ?_
  refine fs_lconst (n := 1) (p := 7) (by decide +kernel) rfl kl_1 ?_
  refine fs_pfl (idx := 221) (ci := 10) (j := 30) (p := 10) (by decide +kernel) rfl (by decide +kernel) (by decide +kernel) fo_215 ?_
  refine fs_iconst (n := 0) (p := 11) (by decide +kernel) rfl kc_0 ?_
  refine fs_istore_n (k := 2) (p := 12) (M := 3) (al' := [some (.ref 215), some (.int x1), some (.int (0 : Int32))]) (by decide +kernel) rfl mx_166 rfl rfl ?_
  exact fe_166_12 hd 100000 _ _ _ _ h

/-! ZoneSharesModel.mayBe(II)Z -/
theorem mx_167 : iv_mx 167 = 3 := by decide +kernel
theorem rt_167 : iv_rt 167 = some .boolean := by decide +kernel
def fm_167 (x1 : Int32) (x2 : Int32) (σ : fx_S) : Option (Bool × fx_S) :=
  (fm_160 x1 x2 σ).bind fun q7 =>
  (fx_ldl q7.2 225 q7.1).bind fun v8 =>
  if v8 ≤ (0 : Int64) then (
    some (false, q7.2)) else (
    some (true, q7.2))
theorem fe_167 {d : Nat} (hd : 1 ≤ d) {x1 : Int32} {x2 : Int32} {σ : fx_S} {q : Bool × fx_S} (h : fm_167 x1 x2 σ = some q) : fx_E none 167 d 0 [some (.ref 215), some (.int x1), some (.int x2)] [] σ (some (.int (fx_b q.1))) q.2 := by
  unfold fm_167 at h
  refine fs_aload_n (k := 0) (p := 1) (by decide +kernel) rfl rfl ?_
  refine fs_gfr (idx := 39) (ci := 10) (j := 16) (p := 4) (by decide +kernel) rfl (by decide +kernel) fo_215 (fr_a215_16) ?_
  refine fs_iload_n (k := 1) (p := 5) (by decide +kernel) rfl rfl ?_
  refine fs_iload_n (k := 2) (p := 6) (by decide +kernel) rfl rfl ?_
  obtain ⟨q7, e6, h⟩ := fx_bd h
  refine fs_callS (idx := 214) (mj := 160) (na := 2) (mx := 2) (p := 9) (args := [.int x1, .int x2]) (rest := [.ref 225]) (al2 := [some (.int x1), some (.int x2)]) (by decide +kernel) rfl (by decide +kernel) rfl rfl rfl rfl rfl rfl rfl (by omega) (fun d' hd' => fe_160 (by omega) e6) rfl ?_
  obtain ⟨v8, e9, h⟩ := fx_bd h
  refine fs_laload (p := 10) (by decide +kernel) rfl e9 ?_
  refine fs_lconst (n := 0) (p := 11) (by decide +kernel) rfl kl_0 ?_
  by_cases c10 : v8 ≤ (0 : Int64)
  · rw [if_pos c10] at h
    refine fs_lcmp_le_t (off := 7) (t := 19) (by decide +kernel) (by decide +kernel) (by decide +kernel) c10 ?_
    refine fs_iconst (n := 0) (p := 20) (by decide +kernel) rfl kc_0 ?_
    have h := Option.some.inj h
    subst h
    exact fs_zret (b := false) (by decide +kernel) rt_167
  · rw [if_neg c10] at h
    refine fs_lcmp_le_f (off := 7) (t := 19) (p := 15) (by decide +kernel) (by decide +kernel) (by decide +kernel) rfl c10 ?_
    refine fs_iconst (n := 1) (p := 16) (by decide +kernel) rfl kc_1 ?_
    refine fs_goto (off := 4) (p := 20) (by decide +kernel) (by decide +kernel) ?_
    have h := Option.some.inj h
    subst h
    exact fs_zret (b := true) (by decide +kernel) rt_167

/-! ZoneSharesModel.unknownOf(I)I -/
theorem mx_174 : iv_mx 174 = 4 := by decide +kernel
theorem rt_174 : iv_rt 174 = some .int := by decide +kernel
def fm_174_36 (k_10 : Int32 → Int32 → Int32 → fx_S → Option (Int32 × fx_S)) (x1 : Int32) (x3 : Int32) (s0 : Int32) (s1 : Int32) (σ : fx_S) : Option (Int32 × fx_S) :=
  k_10 x1 (s0 + s1) (x3 + (1 : Int32)) σ
theorem fe_174_36 {d : Nat} (hd : 2 ≤ d) {k_10 : Int32 → Int32 → Int32 → fx_S → Option (Int32 × fx_S)} (hk_10 : ∀ (x1 : Int32) (x2 : Int32) (x3 : Int32) (σ : fx_S) (q : Int32 × fx_S), k_10 x1 x2 x3 σ = some q → fx_E none 174 d 10 [some (.ref 215), some (.int x1), some (.int x2), some (.int x3)] [] σ (some (.int q.1)) q.2) (x1 : Int32) (x3 : Int32) (s0 : Int32) (s1 : Int32) (o2 : Option Value) (σ : fx_S) (q : Int32 × fx_S) (h : fm_174_36 k_10  x1 x3 s0 s1 σ = some q) : fx_E none 174 d 36 [some (.ref 215), some (.int x1), o2, some (.int x3)] [.int s1, .int s0] σ (some (.int q.1)) q.2 := by
  unfold fm_174_36 at h
  refine fs_iadd (p := 37) (by decide +kernel) rfl ?_
  refine fs_istore_n (k := 2) (p := 38) (M := 4) (al' := [some (.ref 215), some (.int x1), some (.int (s0 + s1)), some (.int x3)]) (by decide +kernel) rfl mx_174 rfl rfl ?_
  refine fs_iinc (k := 3) (n := 1) (p := 41) (M := 4) (al' := [some (.ref 215), some (.int x1), some (.int (s0 + s1)), some (.int (x3 + (1 : Int32)))]) (by decide +kernel) rfl kc_1 mx_174 rfl rfl rfl ?_
  refine fs_goto (off := -31) (p := 10) (by decide +kernel) (by decide +kernel) ?_
  exact hk_10 _ _ _ _ _ h
def fm_174_10 : Nat → Int32 → Int32 → Int32 → fx_S → Option (Int32 × fx_S)
  | 0, _, _, _, _ => none
  | n + 1, x1, x2, x3, σ =>
    if (8 : Int32) ≤ x3 then (
      some (x2, σ)) else (
      (fm_153 (0 : Int32) x3 σ).bind fun q3 =>
      if (fx_b q3.1) = 0 then (
        (fm_155 x1 x3 q3.2).bind fun q6 =>
        fm_174_36 (fm_174_10 n) x1 x3 x2 q6.1 q6.2) else (
        fm_174_36 (fm_174_10 n) x1 x3 x2 (0 : Int32) q3.2))
theorem fe_174_10 {d : Nat} (hd : 2 ≤ d) : ∀ (n : Nat) (x1 : Int32) (x2 : Int32) (x3 : Int32) (σ : fx_S) (q : Int32 × fx_S), fm_174_10 n x1 x2 x3 σ = some q → fx_E none 174 d 10 [some (.ref 215), some (.int x1), some (.int x2), some (.int x3)] [] σ (some (.int q.1)) q.2 := by
  intro n
  induction n with
  | zero =>
    intro x1 x2 x3 σ q  h
    rw [fm_174_10] at h
    exact fx_no h
  | succ n ih =>
    intro x1 x2 x3 σ q  h
    rw [fm_174_10] at h
    refine fs_iload_n (k := 3) (p := 11) (by decide +kernel) rfl rfl ?_
    refine fs_bipush (n := 8) (p := 13) (by decide +kernel) rfl kb_8 ?_
    by_cases c1 : (8 : Int32) ≤ x3
    · rw [if_pos c1] at h
      refine fs_icmp_ge_t (off := 31) (t := 44) (by decide +kernel) (by decide +kernel) c1 ?_
      refine fs_iload_n (k := 2) (p := 45) (by decide +kernel) rfl rfl ?_
      have h := Option.some.inj h
      subst h
      exact fs_iret (by decide +kernel) rt_174
    · rw [if_neg c1] at h
      refine fs_icmp_ge_f (off := 31) (t := 44) (p := 16) (by decide +kernel) (by decide +kernel) rfl c1 ?_
      refine fs_iload_n (k := 2) (p := 17) (by decide +kernel) rfl rfl ?_
      refine fs_aload_n (k := 0) (p := 18) (by decide +kernel) rfl rfl ?_
      refine fs_iconst (n := 0) (p := 19) (by decide +kernel) rfl kc_0 ?_
      refine fs_iload_n (k := 3) (p := 20) (by decide +kernel) rfl rfl ?_
      obtain ⟨q3, e2, h⟩ := fx_bd h
      refine fs_callV (idx := 202) (mj := 153) (ci := 10) (na := 2) (mx := 4) (p := 23) (args := [.ref 215, .int (0 : Int32), .int x3]) (rest := [.int x2]) (al2 := [some (.ref 215), some (.int (0 : Int32)), some (.int x3), none]) (by decide +kernel) rfl (by decide +kernel) fo_215 rfl rfl rfl rfl rfl rfl rfl (by omega) (fun d' hd' => fe_153 (by omega) e2) rfl ?_
      by_cases c4 : (fx_b q3.1) = 0
      · rw [if_pos c4] at h
        refine fs_if_eq_t (off := 7) (t := 30) (by decide +kernel) (by decide +kernel) c4 ?_
        refine fs_aload_n (k := 0) (p := 31) (by decide +kernel) rfl rfl ?_
        refine fs_iload_n (k := 1) (p := 32) (by decide +kernel) rfl rfl ?_
        refine fs_iload_n (k := 3) (p := 33) (by decide +kernel) rfl rfl ?_
        obtain ⟨q6, e5, h⟩ := fx_bd h
        refine fs_callV (idx := 264) (mj := 155) (ci := 10) (na := 2) (mx := 3) (p := 36) (args := [.ref 215, .int x1, .int x3]) (rest := [.int x2]) (al2 := [some (.ref 215), some (.int x1), some (.int x3)]) (by decide +kernel) rfl (by decide +kernel) fo_215 rfl rfl rfl rfl rfl rfl rfl (by omega) (fun d' hd' => fe_155 (by omega) e5) rfl ?_
        exact fe_174_36 hd ih _ _ _ _ _ _ _ h
      · rw [if_neg c4] at h
        refine fs_if_eq_f (off := 7) (t := 30) (p := 26) (by decide +kernel) (by decide +kernel) rfl c4 ?_
        refine fs_iconst (n := 0) (p := 27) (by decide +kernel) rfl kc_0 ?_
        refine fs_goto (off := 9) (p := 36) (by decide +kernel) (by decide +kernel) ?_
        exact fe_174_36 hd ih _ _ _ _ _ _ _ h
def fm_174 (x1 : Int32) (σ : fx_S) : Option (Int32 × fx_S) :=
  (fm_155 x1 (8 : Int32) σ).bind fun q10 =>
  fm_174_10 100000 x1 q10.1 (0 : Int32) q10.2
theorem fe_174 {d : Nat} (hd : 2 ≤ d) {x1 : Int32} {σ : fx_S} {q : Int32 × fx_S} (h : fm_174 x1 σ = some q) : fx_E none 174 d 0 [some (.ref 215), some (.int x1), none, none] [] σ (some (.int q.1)) q.2 := by
  unfold fm_174 at h
  refine fs_aload_n (k := 0) (p := 1) (by decide +kernel) rfl rfl ?_
  refine fs_iload_n (k := 1) (p := 2) (by decide +kernel) rfl rfl ?_
  refine fs_bipush (n := 8) (p := 4) (by decide +kernel) rfl kb_8 ?_
  obtain ⟨q10, e9, h⟩ := fx_bd h
  refine fs_callV (idx := 264) (mj := 155) (ci := 10) (na := 2) (mx := 3) (p := 7) (args := [.ref 215, .int x1, .int (8 : Int32)]) (rest := []) (al2 := [some (.ref 215), some (.int x1), some (.int (8 : Int32))]) (by decide +kernel) rfl (by decide +kernel) fo_215 rfl rfl rfl rfl rfl rfl rfl (by omega) (fun d' hd' => fe_155 (by omega) e9) rfl ?_
  refine fs_istore_n (k := 2) (p := 8) (M := 4) (al' := [some (.ref 215), some (.int x1), some (.int q10.1), none]) (by decide +kernel) rfl mx_174 rfl rfl ?_
  refine fs_iconst (n := 0) (p := 9) (by decide +kernel) rfl kc_0 ?_
  refine fs_istore_n (k := 3) (p := 10) (M := 4) (al' := [some (.ref 215), some (.int x1), some (.int q10.1), some (.int (0 : Int32))]) (by decide +kernel) rfl mx_174 rfl rfl ?_
  exact fe_174_10 hd 100000 _ _ _ _ _ h

/-! ZoneSharesModel.isShared()Z -/
theorem mx_175 : iv_mx 175 = 1 := by decide +kernel
theorem rt_175 : iv_rt 175 = some .boolean := by decide +kernel
def fm_175 (σ : fx_S) : Option (Bool × fx_S) :=
  (fx_ld σ 216 (4 : Int32)).bind fun v7 =>
  if ¬ v7 = (1 : Int32) then (
    some (false, σ)) else (
    (fm_154 (0 : Int32) (8 : Int32) σ).bind fun q11 =>
    if q11.1 ≤ 0 then (
      some (false, q11.2)) else (
      some (true, q11.2)))
theorem fe_175 {d : Nat} (hd : 3 ≤ d) {σ : fx_S} {q : Bool × fx_S} (h : fm_175 σ = some q) : fx_E none 175 d 0 [some (.ref 215)] [] σ (some (.int (fx_b q.1))) q.2 := by
  unfold fm_175 at h
  refine fs_aload_n (k := 0) (p := 1) (by decide +kernel) rfl rfl ?_
  refine fs_gfr (idx := 9) (ci := 10) (j := 0) (p := 4) (by decide +kernel) rfl (by decide +kernel) fo_215 (fr_a215_0) ?_
  refine fs_iconst (n := 4) (p := 5) (by decide +kernel) rfl kc_4 ?_
  obtain ⟨v7, e8, h⟩ := fx_bd h
  refine fs_iaload (p := 6) (by decide +kernel) rfl e8 ?_
  refine fs_iconst (n := 1) (p := 7) (by decide +kernel) rfl kc_1 ?_
  by_cases c9 : ¬ v7 = (1 : Int32)
  · rw [if_pos c9] at h
    refine fs_icmp_ne_t (off := 17) (t := 24) (by decide +kernel) (by decide +kernel) c9 ?_
    refine fs_iconst (n := 0) (p := 25) (by decide +kernel) rfl kc_0 ?_
    have h := Option.some.inj h
    subst h
    exact fs_zret (b := false) (by decide +kernel) rt_175
  · rw [if_neg c9] at h
    refine fs_icmp_ne_f (off := 17) (t := 24) (p := 10) (by decide +kernel) (by decide +kernel) rfl c9 ?_
    refine fs_aload_n (k := 0) (p := 11) (by decide +kernel) rfl rfl ?_
    refine fs_iconst (n := 0) (p := 12) (by decide +kernel) rfl kc_0 ?_
    refine fs_bipush (n := 8) (p := 14) (by decide +kernel) rfl kb_8 ?_
    obtain ⟨q11, e10, h⟩ := fx_bd h
    refine fs_callV (idx := 267) (mj := 154) (ci := 10) (na := 2) (mx := 5) (p := 17) (args := [.ref 215, .int (0 : Int32), .int (8 : Int32)]) (rest := []) (al2 := [some (.ref 215), some (.int (0 : Int32)), some (.int (8 : Int32)), none, none]) (by decide +kernel) rfl (by decide +kernel) fo_215 rfl rfl rfl rfl rfl rfl rfl (by omega) (fun d' hd' => fe_154 (by omega) e10) rfl ?_
    by_cases c12 : q11.1 ≤ 0
    · rw [if_pos c12] at h
      refine fs_if_le_t (off := 7) (t := 24) (by decide +kernel) (by decide +kernel) c12 ?_
      refine fs_iconst (n := 0) (p := 25) (by decide +kernel) rfl kc_0 ?_
      have h := Option.some.inj h
      subst h
      exact fs_zret (b := false) (by decide +kernel) rt_175
    · rw [if_neg c12] at h
      refine fs_if_le_f (off := 7) (t := 24) (p := 20) (by decide +kernel) (by decide +kernel) rfl c12 ?_
      refine fs_iconst (n := 1) (p := 21) (by decide +kernel) rfl kc_1 ?_
      refine fs_goto (off := 4) (p := 25) (by decide +kernel) (by decide +kernel) ?_
      have h := Option.some.inj h
      subst h
      exact fs_zret (b := true) (by decide +kernel) rt_175

/-! ZoneSharesModel.asideOf(I)I -/
theorem mx_176 : iv_mx 176 = 2 := by decide +kernel
theorem rt_176 : iv_rt 176 = some .int := by decide +kernel
def fm_176 (x1 : Int32) (σ : fx_S) : Option (Int32 × fx_S) :=
  (fm_175 σ).bind fun q7 =>
  if (fx_b q7.1) = 0 then (
    (fm_174 x1 q7.2).bind fun q10 =>
    some (q10.1, q10.2)) else (
    some ((0 : Int32), q7.2))
theorem fe_176 {d : Nat} (hd : 4 ≤ d) {x1 : Int32} {σ : fx_S} {q : Int32 × fx_S} (h : fm_176 x1 σ = some q) : fx_E none 176 d 0 [some (.ref 215), some (.int x1)] [] σ (some (.int q.1)) q.2 := by
  unfold fm_176 at h
  refine fs_aload_n (k := 0) (p := 1) (by decide +kernel) rfl rfl ?_
  obtain ⟨q7, e6, h⟩ := fx_bd h
  refine fs_callV (idx := 270) (mj := 175) (ci := 10) (na := 0) (mx := 1) (p := 4) (args := [.ref 215]) (rest := []) (al2 := [some (.ref 215)]) (by decide +kernel) rfl (by decide +kernel) fo_215 rfl rfl rfl rfl rfl rfl rfl (by omega) (fun d' hd' => fe_175 (by omega) e6) rfl ?_
  by_cases c8 : (fx_b q7.1) = 0
  · rw [if_pos c8] at h
    refine fs_if_eq_t (off := 7) (t := 11) (by decide +kernel) (by decide +kernel) c8 ?_
    refine fs_aload_n (k := 0) (p := 12) (by decide +kernel) rfl rfl ?_
    refine fs_iload_n (k := 1) (p := 13) (by decide +kernel) rfl rfl ?_
    obtain ⟨q10, e9, h⟩ := fx_bd h
    refine fs_callV (idx := 273) (mj := 174) (ci := 10) (na := 1) (mx := 4) (p := 16) (args := [.ref 215, .int x1]) (rest := []) (al2 := [some (.ref 215), some (.int x1), none, none]) (by decide +kernel) rfl (by decide +kernel) fo_215 rfl rfl rfl rfl rfl rfl rfl (by omega) (fun d' hd' => fe_174 (by omega) e9) rfl ?_
    have h := Option.some.inj h
    subst h
    exact fs_iret (by decide +kernel) rt_176
  · rw [if_neg c8] at h
    refine fs_if_eq_f (off := 7) (t := 11) (p := 7) (by decide +kernel) (by decide +kernel) rfl c8 ?_
    refine fs_iconst (n := 0) (p := 8) (by decide +kernel) rfl kc_0 ?_
    refine fs_goto (off := 8) (p := 16) (by decide +kernel) (by decide +kernel) ?_
    have h := Option.some.inj h
    subst h
    exact fs_iret (by decide +kernel) rt_176

/-! ZoneSharesModel.laysLiving(I)V -/
theorem mx_177 : iv_mx 177 = 3 := by decide +kernel
theorem rt_177 : iv_rt 177 = none := by decide +kernel
def fm_177_124 : Nat → Int32 → fx_S → Option (fx_S)
  | 0, _, _ => none
  | n + 1, x2, σ =>
    if (8 : Int32) ≤ x2 then (
      some σ) else (
      (fx_ld σ 236 x2).bind fun v2 =>
      (fx_ldl σ 224 x2).bind fun v4 =>
      (fx_st σ 236 x2 (v2 + (v4).toInt32)).bind fun t6 =>
      fm_177_124 n (x2 + (1 : Int32)) t6)
theorem fe_177_124 {d : Nat} (hd : 4 ≤ d) : ∀ (n : Nat) (x2 : Int32) (o1 : Option Value) (σ : fx_S) (q : fx_S), fm_177_124 n x2 σ = some q → fx_E none 177 d 124 [some (.ref 215), o1, some (.int x2)] [] σ none q := by
  intro n
  induction n with
  | zero =>
    intro x2 o1 σ q  h
    rw [fm_177_124] at h
    exact fx_no h
  | succ n ih =>
    intro x2 o1 σ q  h
    rw [fm_177_124] at h
    refine fs_iload_n (k := 2) (p := 125) (by decide +kernel) rfl rfl ?_
    refine fs_bipush (n := 8) (p := 127) (by decide +kernel) rfl kb_8 ?_
    by_cases c1 : (8 : Int32) ≤ x2
    · rw [if_pos c1] at h
      refine fs_icmp_ge_t (off := 25) (t := 152) (by decide +kernel) (by decide +kernel) c1 ?_
      have h := Option.some.inj h
      subst h
      exact fs_ret (by decide +kernel) rt_177
    · rw [if_neg c1] at h
      refine fs_icmp_ge_f (off := 25) (t := 152) (p := 130) (by decide +kernel) (by decide +kernel) rfl c1 ?_
      refine fs_aload_n (k := 0) (p := 131) (by decide +kernel) rfl rfl ?_
      refine fs_gfr (idx := 73) (ci := 10) (j := 31) (p := 134) (by decide +kernel) rfl (by decide +kernel) fo_215 (fr_a215_31) ?_
      refine fs_iload_n (k := 2) (p := 135) (by decide +kernel) rfl rfl ?_
      refine fs_dup2 (p := 136) (by decide +kernel) rfl rfl rfl ?_
      obtain ⟨v2, e3, h⟩ := fx_bd h
      refine fs_iaload (p := 137) (by decide +kernel) rfl e3 ?_
      refine fs_aload_n (k := 0) (p := 138) (by decide +kernel) rfl rfl ?_
      refine fs_gfr (idx := 36) (ci := 10) (j := 15) (p := 141) (by decide +kernel) rfl (by decide +kernel) fo_215 (fr_a215_15) ?_
      refine fs_iload_n (k := 2) (p := 142) (by decide +kernel) rfl rfl ?_
      obtain ⟨v4, e5, h⟩ := fx_bd h
      refine fs_laload (p := 143) (by decide +kernel) rfl e5 ?_
      refine fs_l2i (p := 144) (by decide +kernel) rfl ?_
      refine fs_iadd (p := 145) (by decide +kernel) rfl ?_
      obtain ⟨t6, e7, h⟩ := fx_bd h
      refine fs_iastore (p := 146) (by decide +kernel) rfl e7 ?_
      refine fs_iinc (k := 2) (n := 1) (p := 149) (M := 3) (al' := [some (.ref 215), (fx_kl o1), some (.int (x2 + (1 : Int32)))]) (by decide +kernel) rfl kc_1 mx_177 rfl rfl rfl ?_
      refine fs_goto (off := -25) (p := 124) (by decide +kernel) (by decide +kernel) ?_
      exact ih _ _ _ _ h
def fm_177_117 (σ : fx_S) : Option (fx_S) :=
  (fm_163 (0 : Int32) σ).bind fun q2 =>
  fm_177_124 100000 (0 : Int32) q2
theorem fe_177_117 {d : Nat} (hd : 4 ≤ d) (o1 : Option Value) (o2 : Option Value) (σ : fx_S) (q : fx_S) (h : fm_177_117  σ = some q) : fx_E none 177 d 117 [some (.ref 215), o1, o2] [] σ none q := by
  unfold fm_177_117 at h
  refine fs_aload_n (k := 0) (p := 118) (by decide +kernel) rfl rfl ?_
  refine fs_iconst (n := 0) (p := 119) (by decide +kernel) rfl kc_0 ?_
  obtain ⟨q2, e1, h⟩ := fx_bd h
  refine fs_callV (idx := 261) (mj := 163) (ci := 10) (na := 1) (mx := 6) (p := 122) (args := [.ref 215, .int (0 : Int32)]) (rest := []) (al2 := [some (.ref 215), some (.int (0 : Int32)), none, none, none, none]) (by decide +kernel) rfl (by decide +kernel) fo_215 rfl rfl rfl rfl rfl rfl rfl (by omega) (fun d' hd' => fe_163 (by omega) e1) rfl ?_
  refine fs_iconst (n := 0) (p := 123) (by decide +kernel) rfl kc_0 ?_
  refine fs_istore_n (k := 2) (p := 124) (M := 3) (al' := [some (.ref 215), (fx_kl o1), some (.int (0 : Int32))]) (by decide +kernel) rfl mx_177 rfl rfl ?_
  exact fe_177_124 hd 100000 _ _ _ _ h
def fm_177_88 : Nat → Int32 → fx_S → Option (fx_S)
  | 0, _, _ => none
  | n + 1, x2, σ =>
    if (8 : Int32) ≤ x2 then (
      (fm_161 (0 : Int32) σ).bind fun q3 =>
      fm_177_117 q3.2) else (
      (fm_158 x2 σ).bind fun q5 =>
      (fx_st q5.2 222 x2 q5.1).bind fun t6 =>
      fm_177_88 n (x2 + (1 : Int32)) t6)
theorem fe_177_88 {d : Nat} (hd : 4 ≤ d) : ∀ (n : Nat) (x2 : Int32) (o1 : Option Value) (σ : fx_S) (q : fx_S), fm_177_88 n x2 σ = some q → fx_E none 177 d 88 [some (.ref 215), o1, some (.int x2)] [] σ none q := by
  intro n
  induction n with
  | zero =>
    intro x2 o1 σ q  h
    rw [fm_177_88] at h
    exact fx_no h
  | succ n ih =>
    intro x2 o1 σ q  h
    rw [fm_177_88] at h
    refine fs_iload_n (k := 2) (p := 89) (by decide +kernel) rfl rfl ?_
    refine fs_bipush (n := 8) (p := 91) (by decide +kernel) rfl kb_8 ?_
    by_cases c1 : (8 : Int32) ≤ x2
    · rw [if_pos c1] at h
      refine fs_icmp_ge_t (off := 20) (t := 111) (by decide +kernel) (by decide +kernel) c1 ?_
      refine fs_aload_n (k := 0) (p := 112) (by decide +kernel) rfl rfl ?_
      refine fs_iconst (n := 0) (p := 113) (by decide +kernel) rfl kc_0 ?_
      obtain ⟨q3, e2, h⟩ := fx_bd h
      refine fs_callV (idx := 254) (mj := 161) (ci := 10) (na := 1) (mx := 4) (p := 116) (args := [.ref 215, .int (0 : Int32)]) (rest := []) (al2 := [some (.ref 215), some (.int (0 : Int32)), none, none]) (by decide +kernel) rfl (by decide +kernel) fo_215 rfl rfl rfl rfl rfl rfl rfl (by omega) (fun d' hd' => fe_161 (by omega) e2) rfl ?_
      refine fs_pop (p := 117) (by decide +kernel) rfl rfl ?_
      exact fe_177_117 hd _ _ _ _ h
    · rw [if_neg c1] at h
      refine fs_icmp_ge_f (off := 20) (t := 111) (p := 94) (by decide +kernel) (by decide +kernel) rfl c1 ?_
      refine fs_aload_n (k := 0) (p := 95) (by decide +kernel) rfl rfl ?_
      refine fs_gfr (idx := 30) (ci := 10) (j := 13) (p := 98) (by decide +kernel) rfl (by decide +kernel) fo_215 (fr_a215_13) ?_
      refine fs_iload_n (k := 2) (p := 99) (by decide +kernel) rfl rfl ?_
      refine fs_aload_n (k := 0) (p := 100) (by decide +kernel) rfl rfl ?_
      refine fs_iload_n (k := 2) (p := 101) (by decide +kernel) rfl rfl ?_
      obtain ⟨q5, e4, h⟩ := fx_bd h
      refine fs_callV (idx := 279) (mj := 158) (ci := 10) (na := 1) (mx := 4) (p := 104) (args := [.ref 215, .int x2]) (rest := [.int x2, .ref 222]) (al2 := [some (.ref 215), some (.int x2), none, none]) (by decide +kernel) rfl (by decide +kernel) fo_215 rfl rfl rfl rfl rfl rfl rfl (by omega) (fun d' hd' => fe_158 (by omega) e4) rfl ?_
      obtain ⟨t6, e7, h⟩ := fx_bd h
      refine fs_iastore (p := 105) (by decide +kernel) rfl e7 ?_
      refine fs_iinc (k := 2) (n := 1) (p := 108) (M := 3) (al' := [some (.ref 215), (fx_kl o1), some (.int (x2 + (1 : Int32)))]) (by decide +kernel) rfl kc_1 mx_177 rfl rfl rfl ?_
      refine fs_goto (off := -20) (p := 88) (by decide +kernel) (by decide +kernel) ?_
      exact ih _ _ _ _ h
def fm_177_51 (k_21 : Int32 → Int32 → fx_S → Option (fx_S)) (x1 : Int32) (x2 : Int32) (s1 : Int32) (s2 : Int32) (σ : fx_S) : Option (fx_S) :=
  (fx_st σ 236 s1 s2).bind fun t1 =>
  (fx_ld t1 236 x2).bind fun v3 =>
  (fx_st t1 222 x2 v3).bind fun t5 =>
  k_21 x1 (x2 + (1 : Int32)) t5
theorem fe_177_51 {d : Nat} (hd : 4 ≤ d) {k_21 : Int32 → Int32 → fx_S → Option (fx_S)} (hk_21 : ∀ (x1 : Int32) (x2 : Int32) (σ : fx_S) (q : fx_S), k_21 x1 x2 σ = some q → fx_E none 177 d 21 [some (.ref 215), some (.int x1), some (.int x2)] [] σ none q) (x1 : Int32) (x2 : Int32) (s1 : Int32) (s2 : Int32) (σ : fx_S) (q : fx_S) (h : fm_177_51 k_21  x1 x2 s1 s2 σ = some q) : fx_E none 177 d 51 [some (.ref 215), some (.int x1), some (.int x2)] [.int s2, .int s1, .ref 236] σ none q := by
  unfold fm_177_51 at h
  obtain ⟨t1, e2, h⟩ := fx_bd h
  refine fs_iastore (p := 52) (by decide +kernel) rfl e2 ?_
  refine fs_aload_n (k := 0) (p := 53) (by decide +kernel) rfl rfl ?_
  refine fs_gfr (idx := 30) (ci := 10) (j := 13) (p := 56) (by decide +kernel) rfl (by decide +kernel) fo_215 (fr_a215_13) ?_
  refine fs_iload_n (k := 2) (p := 57) (by decide +kernel) rfl rfl ?_
  refine fs_aload_n (k := 0) (p := 58) (by decide +kernel) rfl rfl ?_
  refine fs_gfr (idx := 73) (ci := 10) (j := 31) (p := 61) (by decide +kernel) rfl (by decide +kernel) fo_215 (fr_a215_31) ?_
  refine fs_iload_n (k := 2) (p := 62) (by decide +kernel) rfl rfl ?_
  obtain ⟨v3, e4, h⟩ := fx_bd h
  refine fs_iaload (p := 63) (by decide +kernel) rfl e4 ?_
  obtain ⟨t5, e6, h⟩ := fx_bd h
  refine fs_iastore (p := 64) (by decide +kernel) rfl e6 ?_
  refine fs_iinc (k := 2) (n := 1) (p := 67) (M := 3) (al' := [some (.ref 215), some (.int x1), some (.int (x2 + (1 : Int32)))]) (by decide +kernel) rfl kc_1 mx_177 rfl rfl rfl ?_
  refine fs_goto (off := -46) (p := 21) (by decide +kernel) (by decide +kernel) ?_
  exact hk_21 _ _ _ _ h
def fm_177_21 : Nat → Int32 → Int32 → fx_S → Option (fx_S)
  | 0, _, _, _ => none
  | n + 1, x1, x2, σ =>
    if (8 : Int32) ≤ x2 then (
      (fm_175 σ).bind fun q3 =>
      if ¬ (fx_b q3.1) = 0 then (
        (fm_161 (0 : Int32) q3.2).bind fun q6 =>
        if ¬ q6.1 = 0 then (
          fm_177_117 q6.2) else (
          fm_177_88 100000 (0 : Int32) q6.2)) else (
        some q3.2)) else (
      (fm_153 (0 : Int32) x2 σ).bind fun q9 =>
      if (fx_b q9.1) = 0 then (
        fm_177_51 (fm_177_21 n) x1 x2 x2 (0 : Int32) q9.2) else (
        (fm_155 x1 x2 q9.2).bind fun q12 =>
        fm_177_51 (fm_177_21 n) x1 x2 x2 q12.1 q12.2))
theorem fe_177_21 {d : Nat} (hd : 4 ≤ d) : ∀ (n : Nat) (x1 : Int32) (x2 : Int32) (σ : fx_S) (q : fx_S), fm_177_21 n x1 x2 σ = some q → fx_E none 177 d 21 [some (.ref 215), some (.int x1), some (.int x2)] [] σ none q := by
  intro n
  induction n with
  | zero =>
    intro x1 x2 σ q  h
    rw [fm_177_21] at h
    exact fx_no h
  | succ n ih =>
    intro x1 x2 σ q  h
    rw [fm_177_21] at h
    refine fs_iload_n (k := 2) (p := 22) (by decide +kernel) rfl rfl ?_
    refine fs_bipush (n := 8) (p := 24) (by decide +kernel) rfl kb_8 ?_
    by_cases c1 : (8 : Int32) ≤ x2
    · rw [if_pos c1] at h
      refine fs_icmp_ge_t (off := 46) (t := 70) (by decide +kernel) (by decide +kernel) c1 ?_
      refine fs_aload_n (k := 0) (p := 71) (by decide +kernel) rfl rfl ?_
      obtain ⟨q3, e2, h⟩ := fx_bd h
      refine fs_callV (idx := 270) (mj := 175) (ci := 10) (na := 0) (mx := 1) (p := 74) (args := [.ref 215]) (rest := []) (al2 := [some (.ref 215)]) (by decide +kernel) rfl (by decide +kernel) fo_215 rfl rfl rfl rfl rfl rfl rfl (by omega) (fun d' hd' => fe_175 (by omega) e2) rfl ?_
      by_cases c4 : ¬ (fx_b q3.1) = 0
      · rw [if_pos c4] at h
        refine fs_if_ne_t (off := 4) (t := 78) (by decide +kernel) (by decide +kernel) c4 ?_
        refine fs_aload_n (k := 0) (p := 79) (by decide +kernel) rfl rfl ?_
        refine fs_iconst (n := 0) (p := 80) (by decide +kernel) rfl kc_0 ?_
        obtain ⟨q6, e5, h⟩ := fx_bd h
        refine fs_callV (idx := 254) (mj := 161) (ci := 10) (na := 1) (mx := 4) (p := 83) (args := [.ref 215, .int (0 : Int32)]) (rest := []) (al2 := [some (.ref 215), some (.int (0 : Int32)), none, none]) (by decide +kernel) rfl (by decide +kernel) fo_215 rfl rfl rfl rfl rfl rfl rfl (by omega) (fun d' hd' => fe_161 (by omega) e5) rfl ?_
        by_cases c7 : ¬ q6.1 = 0
        · rw [if_pos c7] at h
          refine fs_if_ne_t (off := 34) (t := 117) (by decide +kernel) (by decide +kernel) c7 ?_
          exact fe_177_117 hd _ _ _ _ h
        · rw [if_neg c7] at h
          refine fs_if_ne_f (off := 34) (t := 117) (p := 86) (by decide +kernel) (by decide +kernel) rfl c7 ?_
          refine fs_iconst (n := 0) (p := 87) (by decide +kernel) rfl kc_0 ?_
          refine fs_istore_n (k := 2) (p := 88) (M := 3) (al' := [some (.ref 215), some (.int x1), some (.int (0 : Int32))]) (by decide +kernel) rfl mx_177 rfl rfl ?_
          exact fe_177_88 hd 100000 _ _ _ _ h
      · rw [if_neg c4] at h
        refine fs_if_ne_f (off := 4) (t := 78) (p := 77) (by decide +kernel) (by decide +kernel) rfl c4 ?_
        have h := Option.some.inj h
        subst h
        exact fs_ret (by decide +kernel) rt_177
    · rw [if_neg c1] at h
      refine fs_icmp_ge_f (off := 46) (t := 70) (p := 27) (by decide +kernel) (by decide +kernel) rfl c1 ?_
      refine fs_aload_n (k := 0) (p := 28) (by decide +kernel) rfl rfl ?_
      refine fs_gfr (idx := 73) (ci := 10) (j := 31) (p := 31) (by decide +kernel) rfl (by decide +kernel) fo_215 (fr_a215_31) ?_
      refine fs_iload_n (k := 2) (p := 32) (by decide +kernel) rfl rfl ?_
      refine fs_aload_n (k := 0) (p := 33) (by decide +kernel) rfl rfl ?_
      refine fs_iconst (n := 0) (p := 34) (by decide +kernel) rfl kc_0 ?_
      refine fs_iload_n (k := 2) (p := 35) (by decide +kernel) rfl rfl ?_
      obtain ⟨q9, e8, h⟩ := fx_bd h
      refine fs_callV (idx := 202) (mj := 153) (ci := 10) (na := 2) (mx := 4) (p := 38) (args := [.ref 215, .int (0 : Int32), .int x2]) (rest := [.int x2, .ref 236]) (al2 := [some (.ref 215), some (.int (0 : Int32)), some (.int x2), none]) (by decide +kernel) rfl (by decide +kernel) fo_215 rfl rfl rfl rfl rfl rfl rfl (by omega) (fun d' hd' => fe_153 (by omega) e8) rfl ?_
      by_cases c10 : (fx_b q9.1) = 0
      · rw [if_pos c10] at h
        refine fs_if_eq_t (off := 12) (t := 50) (by decide +kernel) (by decide +kernel) c10 ?_
        refine fs_iconst (n := 0) (p := 51) (by decide +kernel) rfl kc_0 ?_
        exact fe_177_51 hd ih _ _ _ _ _ _ h
      · rw [if_neg c10] at h
        refine fs_if_eq_f (off := 12) (t := 50) (p := 41) (by decide +kernel) (by decide +kernel) rfl c10 ?_
        refine fs_aload_n (k := 0) (p := 42) (by decide +kernel) rfl rfl ?_
        refine fs_iload_n (k := 1) (p := 43) (by decide +kernel) rfl rfl ?_
        refine fs_iload_n (k := 2) (p := 44) (by decide +kernel) rfl rfl ?_
        obtain ⟨q12, e11, h⟩ := fx_bd h
        refine fs_callV (idx := 264) (mj := 155) (ci := 10) (na := 2) (mx := 3) (p := 47) (args := [.ref 215, .int x1, .int x2]) (rest := [.int x2, .ref 236]) (al2 := [some (.ref 215), some (.int x1), some (.int x2)]) (by decide +kernel) rfl (by decide +kernel) fo_215 rfl rfl rfl rfl rfl rfl rfl (by omega) (fun d' hd' => fe_155 (by omega) e11) rfl ?_
        refine fs_goto (off := 4) (p := 51) (by decide +kernel) (by decide +kernel) ?_
        exact fe_177_51 hd ih _ _ _ _ _ _ h
def fm_177 (x1 : Int32) (σ : fx_S) : Option (fx_S) :=
  (fm_159 (1 : Int32) (8 : Int32) σ).bind fun q42 =>
  (fm_174 x1 q42).bind fun q44 =>
  (fx_stl q44.2 221 (0 : Int32) (q44.1).toInt64).bind fun t45 =>
  fm_177_21 100000 x1 (0 : Int32) t45
theorem fe_177 {d : Nat} (hd : 4 ≤ d) {x1 : Int32} {σ : fx_S} {q : fx_S} (h : fm_177 x1 σ = some q) : fx_E none 177 d 0 [some (.ref 215), some (.int x1), none] [] σ none q := by
  unfold fm_177 at h
  refine fs_aload_n (k := 0) (p := 1) (by decide +kernel) rfl rfl ?_
  refine fs_iconst (n := 1) (p := 2) (by decide +kernel) rfl kc_1 ?_
  refine fs_bipush (n := 8) (p := 4) (by decide +kernel) rfl kb_8 ?_
  obtain ⟨q42, e41, h⟩ := fx_bd h
  refine fs_callV (idx := 276) (mj := 159) (ci := 10) (na := 2) (mx := 4) (p := 7) (args := [.ref 215, .int (1 : Int32), .int (8 : Int32)]) (rest := []) (al2 := [some (.ref 215), some (.int (1 : Int32)), some (.int (8 : Int32)), none]) (by decide +kernel) rfl (by decide +kernel) fo_215 rfl rfl rfl rfl rfl rfl rfl (by omega) (fun d' hd' => fe_159 (by omega) e41) rfl ?_
  refine fs_aload_n (k := 0) (p := 8) (by decide +kernel) rfl rfl ?_
  refine fs_gfr (idx := 26) (ci := 10) (j := 12) (p := 11) (by decide +kernel) rfl (by decide +kernel) fo_215 (fr_a215_12) ?_
  refine fs_iconst (n := 0) (p := 12) (by decide +kernel) rfl kc_0 ?_
  refine fs_aload_n (k := 0) (p := 13) (by decide +kernel) rfl rfl ?_
  refine fs_iload_n (k := 1) (p := 14) (by decide +kernel) rfl rfl ?_
  obtain ⟨q44, e43, h⟩ := fx_bd h
  refine fs_callV (idx := 273) (mj := 174) (ci := 10) (na := 1) (mx := 4) (p := 17) (args := [.ref 215, .int x1]) (rest := [.int (0 : Int32), .ref 221]) (al2 := [some (.ref 215), some (.int x1), none, none]) (by decide +kernel) rfl (by decide +kernel) fo_215 rfl rfl rfl rfl rfl rfl rfl (by omega) (fun d' hd' => fe_174 (by omega) e43) rfl ?_
  refine fs_i2l (p := 18) (by decide +kernel) rfl ?_
  obtain ⟨t45, e46, h⟩ := fx_bd h
  refine fs_lastore (p := 19) (by decide +kernel) rfl e46 ?_
  refine fs_iconst (n := 0) (p := 20) (by decide +kernel) rfl kc_0 ?_
  refine fs_istore_n (k := 2) (p := 21) (M := 3) (al' := [some (.ref 215), some (.int x1), some (.int (0 : Int32))]) (by decide +kernel) rfl mx_177 rfl rfl ?_
  exact fe_177_21 hd 100000 _ _ _ _ h

/-! ZoneSharesModel.allTold(I)I -/
theorem mx_178 : iv_mx 178 = 4 := by decide +kernel
theorem rt_178 : iv_rt 178 = some .int := by decide +kernel
def fm_178_4 : Nat → Int32 → Int32 → Int32 → fx_S → Option (Int32 × fx_S)
  | 0, _, _, _, _ => none
  | n + 1, x1, x2, x3, σ =>
    if (9 : Int32) ≤ x3 then (
      some (x2, σ)) else (
      (fm_155 x1 x3 σ).bind fun q3 =>
      fm_178_4 n x1 (x2 + q3.1) (x3 + (1 : Int32)) q3.2)
theorem fe_178_4 {d : Nat} (hd : 1 ≤ d) : ∀ (n : Nat) (x1 : Int32) (x2 : Int32) (x3 : Int32) (σ : fx_S) (q : Int32 × fx_S), fm_178_4 n x1 x2 x3 σ = some q → fx_E none 178 d 4 [some (.ref 215), some (.int x1), some (.int x2), some (.int x3)] [] σ (some (.int q.1)) q.2 := by
  intro n
  induction n with
  | zero =>
    intro x1 x2 x3 σ q  h
    rw [fm_178_4] at h
    exact fx_no h
  | succ n ih =>
    intro x1 x2 x3 σ q  h
    rw [fm_178_4] at h
    refine fs_iload_n (k := 3) (p := 5) (by decide +kernel) rfl rfl ?_
    refine fs_bipush (n := 9) (p := 7) (by decide +kernel) rfl kb_9 ?_
    by_cases c1 : (9 : Int32) ≤ x3
    · rw [if_pos c1] at h
      refine fs_icmp_ge_t (off := 18) (t := 25) (by decide +kernel) (by decide +kernel) c1 ?_
      refine fs_iload_n (k := 2) (p := 26) (by decide +kernel) rfl rfl ?_
      have h := Option.some.inj h
      subst h
      exact fs_iret (by decide +kernel) rt_178
    · rw [if_neg c1] at h
      refine fs_icmp_ge_f (off := 18) (t := 25) (p := 10) (by decide +kernel) (by decide +kernel) rfl c1 ?_
      refine fs_iload_n (k := 2) (p := 11) (by decide +kernel) rfl rfl ?_
      refine fs_aload_n (k := 0) (p := 12) (by decide +kernel) rfl rfl ?_
      refine fs_iload_n (k := 1) (p := 13) (by decide +kernel) rfl rfl ?_
      refine fs_iload_n (k := 3) (p := 14) (by decide +kernel) rfl rfl ?_
      obtain ⟨q3, e2, h⟩ := fx_bd h
      refine fs_callV (idx := 264) (mj := 155) (ci := 10) (na := 2) (mx := 3) (p := 17) (args := [.ref 215, .int x1, .int x3]) (rest := [.int x2]) (al2 := [some (.ref 215), some (.int x1), some (.int x3)]) (by decide +kernel) rfl (by decide +kernel) fo_215 rfl rfl rfl rfl rfl rfl rfl (by omega) (fun d' hd' => fe_155 (by omega) e2) rfl ?_
      refine fs_iadd (p := 18) (by decide +kernel) rfl ?_
      refine fs_istore_n (k := 2) (p := 19) (M := 4) (al' := [some (.ref 215), some (.int x1), some (.int (x2 + q3.1)), some (.int x3)]) (by decide +kernel) rfl mx_178 rfl rfl ?_
      refine fs_iinc (k := 3) (n := 1) (p := 22) (M := 4) (al' := [some (.ref 215), some (.int x1), some (.int (x2 + q3.1)), some (.int (x3 + (1 : Int32)))]) (by decide +kernel) rfl kc_1 mx_178 rfl rfl rfl ?_
      refine fs_goto (off := -18) (p := 4) (by decide +kernel) (by decide +kernel) ?_
      exact ih _ _ _ _ _ h
def fm_178 (x1 : Int32) (σ : fx_S) : Option (Int32 × fx_S) :=
  fm_178_4 100000 x1 (0 : Int32) (0 : Int32) σ
theorem fe_178 {d : Nat} (hd : 1 ≤ d) {x1 : Int32} {σ : fx_S} {q : Int32 × fx_S} (h : fm_178 x1 σ = some q) : fx_E none 178 d 0 [some (.ref 215), some (.int x1), none, none] [] σ (some (.int q.1)) q.2 := by
  unfold fm_178 at h
  refine fs_iconst (n := 0) (p := 1) (by decide +kernel) rfl kc_0 ?_
  refine fs_istore_n (k := 2) (p := 2) (M := 4) (al' := [some (.ref 215), some (.int x1), some (.int (0 : Int32)), none]) (by decide +kernel) rfl mx_178 rfl rfl ?_
  refine fs_iconst (n := 0) (p := 3) (by decide +kernel) rfl kc_0 ?_
  refine fs_istore_n (k := 3) (p := 4) (M := 4) (al' := [some (.ref 215), some (.int x1), some (.int (0 : Int32)), some (.int (0 : Int32))]) (by decide +kernel) rfl mx_178 rfl rfl ?_
  exact fe_178_4 hd 100000 _ _ _ _ _ h

/-! ZoneSharesModel.people(II)I -/
theorem mx_179 : iv_mx 179 = 3 := by decide +kernel
theorem rt_179 : iv_rt 179 = some .int := by decide +kernel
def fm_179 (x1 : Int32) (x2 : Int32) (σ : fx_S) : Option (Int32 × fx_S) :=
  (fm_148 x1 σ).bind fun q21 =>
  if (fx_b q21.1) = 0 then (
    some ((-1 : Int32), q21.2)) else (
    (fm_130 (x2).toInt64 (0 : Int64) (10 : Int64) q21.2).bind fun q24 =>
    if ¬ (fx_b q24.1) = 0 then (
      if x2 = (8 : Int32) then (
        (fm_174 x1 q24.2).bind fun q38 =>
        some (q38.1, q38.2)) else (
        if x2 = (9 : Int32) then (
          (fm_176 x1 q24.2).bind fun q36 =>
          some (q36.1, q36.2)) else (
          if x2 = (10 : Int32) then (
            (fm_178 x1 q24.2).bind fun q34 =>
            some (q34.1, q34.2)) else (
            (fm_177 x1 q24.2).bind fun q30 =>
            (fx_ld q30 236 x2).bind fun v31 =>
            some (v31, q30))))) else (
      some ((-1 : Int32), q24.2)))
theorem fe_179 {d : Nat} (hd : 5 ≤ d) {x1 : Int32} {x2 : Int32} {σ : fx_S} {q : Int32 × fx_S} (h : fm_179 x1 x2 σ = some q) : fx_E none 179 d 0 [some (.ref 215), some (.int x1), some (.int x2)] [] σ (some (.int q.1)) q.2 := by
  unfold fm_179 at h
  refine fs_iload_n (k := 1) (p := 1) (by decide +kernel) rfl rfl ?_
  obtain ⟨q21, e20, h⟩ := fx_bd h
  refine fs_callS (idx := 190) (mj := 148) (na := 1) (mx := 1) (p := 4) (args := [.int x1]) (rest := []) (al2 := [some (.int x1)]) (by decide +kernel) rfl (by decide +kernel) rfl rfl rfl rfl rfl rfl rfl (by omega) (fun d' hd' => fe_148 (by omega) e20) rfl ?_
  by_cases c22 : (fx_b q21.1) = 0
  · rw [if_pos c22] at h
    refine fs_if_eq_t (off := 15) (t := 19) (by decide +kernel) (by decide +kernel) c22 ?_
    refine fs_iconst (n := -1) (p := 20) (by decide +kernel) rfl kc_m1 ?_
    have h := Option.some.inj h
    subst h
    exact fs_iret (by decide +kernel) rt_179
  · rw [if_neg c22] at h
    refine fs_if_eq_f (off := 15) (t := 19) (p := 7) (by decide +kernel) (by decide +kernel) rfl c22 ?_
    refine fs_iload_n (k := 2) (p := 8) (by decide +kernel) rfl rfl ?_
    refine fs_i2l (p := 9) (by decide +kernel) rfl ?_
    refine fs_lconst (n := 0) (p := 10) (by decide +kernel) rfl kl_0 ?_
    refine fs_ldc2 (idx := 282) (p := 13) (x := 10) (by decide +kernel) rfl (by decide +kernel) ?_
    obtain ⟨q24, e23, h⟩ := fx_bd h
    refine fs_callS (idx := 128) (mj := 130) (na := 3) (mx := 6) (p := 16) (args := [.long (x2).toInt64, .long (0 : Int64), .long (10 : Int64)]) (rest := []) (al2 := [some (.long (x2).toInt64), none, some (.long (0 : Int64)), none, some (.long (10 : Int64)), none]) (by decide +kernel) rfl (by decide +kernel) rfl rfl rfl rfl rfl rfl rfl (by omega) (fun d' hd' => fe_130 (by omega) e23) rfl ?_
    by_cases c25 : ¬ (fx_b q24.1) = 0
    · rw [if_pos c25] at h
      refine fs_if_ne_t (off := 5) (t := 21) (by decide +kernel) (by decide +kernel) c25 ?_
      refine fs_iload_n (k := 2) (p := 22) (by decide +kernel) rfl rfl ?_
      by_cases c26 : x2 = (8 : Int32)
      · rw [if_pos c26] at h
        refine fs_tsw_h (dflt := 44) (lo := 8) (hi := 10) (offs := #[26, 32, 38]) (x := x2) (j := 0) (t := 48) (by decide +kernel) (by decide +kernel) (by decide) (c26.trans (by decide)) ?_
        refine fs_aload_n (k := 0) (p := 49) (by decide +kernel) rfl rfl ?_
        refine fs_iload_n (k := 1) (p := 50) (by decide +kernel) rfl rfl ?_
        obtain ⟨q38, e37, h⟩ := fx_bd h
        refine fs_callV (idx := 273) (mj := 174) (ci := 10) (na := 1) (mx := 4) (p := 53) (args := [.ref 215, .int x1]) (rest := []) (al2 := [some (.ref 215), some (.int x1), none, none]) (by decide +kernel) rfl (by decide +kernel) fo_215 rfl rfl rfl rfl rfl rfl rfl (by omega) (fun d' hd' => fe_174 (by omega) e37) rfl ?_
        have h := Option.some.inj h
        subst h
        exact fs_iret (by decide +kernel) rt_179
      · rw [if_neg c26] at h
        by_cases c27 : x2 = (9 : Int32)
        · rw [if_pos c27] at h
          refine fs_tsw_h (dflt := 44) (lo := 8) (hi := 10) (offs := #[26, 32, 38]) (x := x2) (j := 1) (t := 54) (by decide +kernel) (by decide +kernel) (by decide) (c27.trans (by decide)) ?_
          refine fs_aload_n (k := 0) (p := 55) (by decide +kernel) rfl rfl ?_
          refine fs_iload_n (k := 1) (p := 56) (by decide +kernel) rfl rfl ?_
          obtain ⟨q36, e35, h⟩ := fx_bd h
          refine fs_callV (idx := 284) (mj := 176) (ci := 10) (na := 1) (mx := 2) (p := 59) (args := [.ref 215, .int x1]) (rest := []) (al2 := [some (.ref 215), some (.int x1)]) (by decide +kernel) rfl (by decide +kernel) fo_215 rfl rfl rfl rfl rfl rfl rfl (by omega) (fun d' hd' => fe_176 (by omega) e35) rfl ?_
          have h := Option.some.inj h
          subst h
          exact fs_iret (by decide +kernel) rt_179
        · rw [if_neg c27] at h
          by_cases c28 : x2 = (10 : Int32)
          · rw [if_pos c28] at h
            refine fs_tsw_h (dflt := 44) (lo := 8) (hi := 10) (offs := #[26, 32, 38]) (x := x2) (j := 2) (t := 60) (by decide +kernel) (by decide +kernel) (by decide) (c28.trans (by decide)) ?_
            refine fs_aload_n (k := 0) (p := 61) (by decide +kernel) rfl rfl ?_
            refine fs_iload_n (k := 1) (p := 62) (by decide +kernel) rfl rfl ?_
            obtain ⟨q34, e33, h⟩ := fx_bd h
            refine fs_callV (idx := 287) (mj := 178) (ci := 10) (na := 1) (mx := 4) (p := 65) (args := [.ref 215, .int x1]) (rest := []) (al2 := [some (.ref 215), some (.int x1), none, none]) (by decide +kernel) rfl (by decide +kernel) fo_215 rfl rfl rfl rfl rfl rfl rfl (by omega) (fun d' hd' => fe_178 (by omega) e33) rfl ?_
            have h := Option.some.inj h
            subst h
            exact fs_iret (by decide +kernel) rt_179
          · rw [if_neg c28] at h
            refine fs_tsw_d (dflt := 44) (lo := 8) (hi := 10) (offs := #[26, 32, 38]) (x := x2) (t := 66) (by decide +kernel) (by decide +kernel) (by decide) (by decide) (fun j hj => by match j, hj with | 0, _ => exact c26 | 1, _ => exact c27 | 2, _ => exact c28) ?_
            refine fs_aload_n (k := 0) (p := 67) (by decide +kernel) rfl rfl ?_
            refine fs_iload_n (k := 1) (p := 68) (by decide +kernel) rfl rfl ?_
            obtain ⟨q30, e29, h⟩ := fx_bd h
            refine fs_callV (idx := 290) (mj := 177) (ci := 10) (na := 1) (mx := 3) (p := 71) (args := [.ref 215, .int x1]) (rest := []) (al2 := [some (.ref 215), some (.int x1), none]) (by decide +kernel) rfl (by decide +kernel) fo_215 rfl rfl rfl rfl rfl rfl rfl (by omega) (fun d' hd' => fe_177 (by omega) e29) rfl ?_
            refine fs_aload_n (k := 0) (p := 72) (by decide +kernel) rfl rfl ?_
            refine fs_gfr (idx := 73) (ci := 10) (j := 31) (p := 75) (by decide +kernel) rfl (by decide +kernel) fo_215 (fr_a215_31) ?_
            refine fs_iload_n (k := 2) (p := 76) (by decide +kernel) rfl rfl ?_
            obtain ⟨v31, e32, h⟩ := fx_bd h
            refine fs_iaload (p := 77) (by decide +kernel) rfl e32 ?_
            have h := Option.some.inj h
            subst h
            exact fs_iret (by decide +kernel) rt_179
    · rw [if_neg c25] at h
      refine fs_if_ne_f (off := 5) (t := 21) (p := 19) (by decide +kernel) (by decide +kernel) rfl c25 ?_
      refine fs_iconst (n := -1) (p := 20) (by decide +kernel) rfl kc_m1 ?_
      have h := Option.some.inj h
      subst h
      exact fs_iret (by decide +kernel) rt_179

/-! ZoneSharesModel.byCells(II)Z -/
theorem mx_180 : iv_mx 180 = 3 := by decide +kernel
theorem rt_180 : iv_rt 180 = some .boolean := by decide +kernel
def fm_180 (x1 : Int32) (x2 : Int32) (σ : fx_S) : Option (Bool × fx_S) :=
  (fm_157 x1 x2 (-1 : Int32) (0 : Int32) σ).bind fun q5 =>
  if ¬ q5.1 = 0 then (
    some (false, q5.2)) else (
    some (true, q5.2))
theorem fe_180 {d : Nat} (hd : 3 ≤ d) {x1 : Int32} {x2 : Int32} {σ : fx_S} {q : Bool × fx_S} (h : fm_180 x1 x2 σ = some q) : fx_E none 180 d 0 [some (.ref 215), some (.int x1), some (.int x2)] [] σ (some (.int (fx_b q.1))) q.2 := by
  unfold fm_180 at h
  refine fs_aload_n (k := 0) (p := 1) (by decide +kernel) rfl rfl ?_
  refine fs_iload_n (k := 1) (p := 2) (by decide +kernel) rfl rfl ?_
  refine fs_iload_n (k := 2) (p := 3) (by decide +kernel) rfl rfl ?_
  refine fs_iconst (n := -1) (p := 4) (by decide +kernel) rfl kc_m1 ?_
  refine fs_iconst (n := 0) (p := 5) (by decide +kernel) rfl kc_0 ?_
  obtain ⟨q5, e4, h⟩ := fx_bd h
  refine fs_callV (idx := 293) (mj := 157) (ci := 10) (na := 4) (mx := 8) (p := 8) (args := [.ref 215, .int x1, .int x2, .int (-1 : Int32), .int (0 : Int32)]) (rest := []) (al2 := [some (.ref 215), some (.int x1), some (.int x2), some (.int (-1 : Int32)), some (.int (0 : Int32)), none, none, none]) (by decide +kernel) rfl (by decide +kernel) fo_215 rfl rfl rfl rfl rfl rfl rfl (by omega) (fun d' hd' => fe_157 (by omega) e4) rfl ?_
  by_cases c6 : ¬ q5.1 = 0
  · rw [if_pos c6] at h
    refine fs_if_ne_t (off := 7) (t := 15) (by decide +kernel) (by decide +kernel) c6 ?_
    refine fs_iconst (n := 0) (p := 16) (by decide +kernel) rfl kc_0 ?_
    have h := Option.some.inj h
    subst h
    exact fs_zret (b := false) (by decide +kernel) rt_180
  · rw [if_neg c6] at h
    refine fs_if_ne_f (off := 7) (t := 15) (p := 11) (by decide +kernel) (by decide +kernel) rfl c6 ?_
    refine fs_iconst (n := 1) (p := 12) (by decide +kernel) rfl kc_1 ?_
    refine fs_goto (off := 4) (p := 16) (by decide +kernel) (by decide +kernel) ?_
    have h := Option.some.inj h
    subst h
    exact fs_zret (b := true) (by decide +kernel) rt_180

/-! ZoneSharesModel.laysMoved(I)V -/
theorem mx_181 : iv_mx 181 = 5 := by decide +kernel
theorem rt_181 : iv_rt 181 = none := by decide +kernel
def fm_181_44 (k_15 : Int32 → Int32 → fx_S → Option (fx_S)) : Nat → Int32 → Int32 → Int32 → Int32 → fx_S → Option (fx_S)
  | 0, _, _, _, _, _ => none
  | n + 1, x1, x2, x3, x4, σ =>
    if (9 : Int32) ≤ x4 then (
      k_15 x1 (x2 + (1 : Int32)) σ) else (
      (fm_160 x2 x4 σ).bind fun q3 =>
      (fm_157 x1 x2 x4 x3 q3.2).bind fun q5 =>
      (fx_st q5.2 222 q3.1 q5.1).bind fun t6 =>
      fm_181_44 k_15 n x1 x2 x3 (x4 + (1 : Int32)) t6)
theorem fe_181_44 {d : Nat} (hd : 5 ≤ d) {k_15 : Int32 → Int32 → fx_S → Option (fx_S)} (hk_15 : ∀ (x1 : Int32) (x2 : Int32) (o3 : Option Value) (o4 : Option Value) (σ : fx_S) (q : fx_S), k_15 x1 x2 σ = some q → fx_E none 181 d 15 [some (.ref 215), some (.int x1), some (.int x2), o3, o4] [] σ none q) : ∀ (n : Nat) (x1 : Int32) (x2 : Int32) (x3 : Int32) (x4 : Int32) (σ : fx_S) (q : fx_S), fm_181_44 k_15 n x1 x2 x3 x4 σ = some q → fx_E none 181 d 44 [some (.ref 215), some (.int x1), some (.int x2), some (.int x3), some (.int x4)] [] σ none q := by
  intro n
  induction n with
  | zero =>
    intro x1 x2 x3 x4 σ q  h
    rw [fm_181_44] at h
    exact fx_no h
  | succ n ih =>
    intro x1 x2 x3 x4 σ q  h
    rw [fm_181_44] at h
    refine fs_iload (k := 4) (p := 46) (by decide +kernel) rfl rfl ?_
    refine fs_bipush (n := 9) (p := 48) (by decide +kernel) rfl kb_9 ?_
    by_cases c1 : (9 : Int32) ≤ x4
    · rw [if_pos c1] at h
      refine fs_icmp_ge_t (off := 29) (t := 77) (by decide +kernel) (by decide +kernel) c1 ?_
      refine fs_iinc (k := 2) (n := 1) (p := 80) (M := 5) (al' := [some (.ref 215), some (.int x1), some (.int (x2 + (1 : Int32))), some (.int x3), some (.int x4)]) (by decide +kernel) rfl kc_1 mx_181 rfl rfl rfl ?_
      refine fs_goto (off := -65) (p := 15) (by decide +kernel) (by decide +kernel) ?_
      exact hk_15 _ _ _ _ _ _ h
    · rw [if_neg c1] at h
      refine fs_icmp_ge_f (off := 29) (t := 77) (p := 51) (by decide +kernel) (by decide +kernel) rfl c1 ?_
      refine fs_aload_n (k := 0) (p := 52) (by decide +kernel) rfl rfl ?_
      refine fs_gfr (idx := 30) (ci := 10) (j := 13) (p := 55) (by decide +kernel) rfl (by decide +kernel) fo_215 (fr_a215_13) ?_
      refine fs_iload_n (k := 2) (p := 56) (by decide +kernel) rfl rfl ?_
      refine fs_iload (k := 4) (p := 58) (by decide +kernel) rfl rfl ?_
      obtain ⟨q3, e2, h⟩ := fx_bd h
      refine fs_callS (idx := 214) (mj := 160) (na := 2) (mx := 2) (p := 61) (args := [.int x2, .int x4]) (rest := [.ref 222]) (al2 := [some (.int x2), some (.int x4)]) (by decide +kernel) rfl (by decide +kernel) rfl rfl rfl rfl rfl rfl rfl (by omega) (fun d' hd' => fe_160 (by omega) e2) rfl ?_
      refine fs_aload_n (k := 0) (p := 62) (by decide +kernel) rfl rfl ?_
      refine fs_iload_n (k := 1) (p := 63) (by decide +kernel) rfl rfl ?_
      refine fs_iload_n (k := 2) (p := 64) (by decide +kernel) rfl rfl ?_
      refine fs_iload (k := 4) (p := 66) (by decide +kernel) rfl rfl ?_
      refine fs_iload_n (k := 3) (p := 67) (by decide +kernel) rfl rfl ?_
      obtain ⟨q5, e4, h⟩ := fx_bd h
      refine fs_callV (idx := 293) (mj := 157) (ci := 10) (na := 4) (mx := 8) (p := 70) (args := [.ref 215, .int x1, .int x2, .int x4, .int x3]) (rest := [.int q3.1, .ref 222]) (al2 := [some (.ref 215), some (.int x1), some (.int x2), some (.int x4), some (.int x3), none, none, none]) (by decide +kernel) rfl (by decide +kernel) fo_215 rfl rfl rfl rfl rfl rfl rfl (by omega) (fun d' hd' => fe_157 (by omega) e4) rfl ?_
      obtain ⟨t6, e7, h⟩ := fx_bd h
      refine fs_iastore (p := 71) (by decide +kernel) rfl e7 ?_
      refine fs_iinc (k := 4) (n := 1) (p := 74) (M := 5) (al' := [some (.ref 215), some (.int x1), some (.int x2), some (.int x3), some (.int (x4 + (1 : Int32)))]) (by decide +kernel) rfl kc_1 mx_181 rfl rfl rfl ?_
      refine fs_goto (off := -30) (p := 44) (by decide +kernel) (by decide +kernel) ?_
      exact ih _ _ _ _ _ _ h
def fm_181_15 : Nat → Int32 → Int32 → fx_S → Option (fx_S)
  | 0, _, _, _ => none
  | n + 1, x1, x2, σ =>
    if (8 : Int32) ≤ x2 then (
      some σ) else (
      (fx_ld σ 236 x2).bind fun v2 =>
      (fx_stl σ 221 x2 (v2).toInt64).bind fun t4 =>
      (fm_180 x1 x2 t4).bind fun q7 =>
      fm_181_44 (fm_181_15 n) 100000 x1 x2 (fx_b q7.1) (0 : Int32) q7.2)
theorem fe_181_15 {d : Nat} (hd : 5 ≤ d) : ∀ (n : Nat) (x1 : Int32) (x2 : Int32) (o3 : Option Value) (o4 : Option Value) (σ : fx_S) (q : fx_S), fm_181_15 n x1 x2 σ = some q → fx_E none 181 d 15 [some (.ref 215), some (.int x1), some (.int x2), o3, o4] [] σ none q := by
  intro n
  induction n with
  | zero =>
    intro x1 x2 o3 o4 σ q  h
    rw [fm_181_15] at h
    exact fx_no h
  | succ n ih =>
    intro x1 x2 o3 o4 σ q  h
    rw [fm_181_15] at h
    refine fs_iload_n (k := 2) (p := 16) (by decide +kernel) rfl rfl ?_
    refine fs_bipush (n := 8) (p := 18) (by decide +kernel) rfl kb_8 ?_
    by_cases c1 : (8 : Int32) ≤ x2
    · rw [if_pos c1] at h
      refine fs_icmp_ge_t (off := 65) (t := 83) (by decide +kernel) (by decide +kernel) c1 ?_
      have h := Option.some.inj h
      subst h
      exact fs_ret (by decide +kernel) rt_181
    · rw [if_neg c1] at h
      refine fs_icmp_ge_f (off := 65) (t := 83) (p := 21) (by decide +kernel) (by decide +kernel) rfl c1 ?_
      refine fs_aload_n (k := 0) (p := 22) (by decide +kernel) rfl rfl ?_
      refine fs_gfr (idx := 26) (ci := 10) (j := 12) (p := 25) (by decide +kernel) rfl (by decide +kernel) fo_215 (fr_a215_12) ?_
      refine fs_iload_n (k := 2) (p := 26) (by decide +kernel) rfl rfl ?_
      refine fs_aload_n (k := 0) (p := 27) (by decide +kernel) rfl rfl ?_
      refine fs_gfr (idx := 73) (ci := 10) (j := 31) (p := 30) (by decide +kernel) rfl (by decide +kernel) fo_215 (fr_a215_31) ?_
      refine fs_iload_n (k := 2) (p := 31) (by decide +kernel) rfl rfl ?_
      obtain ⟨v2, e3, h⟩ := fx_bd h
      refine fs_iaload (p := 32) (by decide +kernel) rfl e3 ?_
      refine fs_i2l (p := 33) (by decide +kernel) rfl ?_
      obtain ⟨t4, e5, h⟩ := fx_bd h
      refine fs_lastore (p := 34) (by decide +kernel) rfl e5 ?_
      refine fs_aload_n (k := 0) (p := 35) (by decide +kernel) rfl rfl ?_
      refine fs_iload_n (k := 1) (p := 36) (by decide +kernel) rfl rfl ?_
      refine fs_iload_n (k := 2) (p := 37) (by decide +kernel) rfl rfl ?_
      obtain ⟨q7, e6, h⟩ := fx_bd h
      refine fs_callV (idx := 297) (mj := 180) (ci := 10) (na := 2) (mx := 3) (p := 40) (args := [.ref 215, .int x1, .int x2]) (rest := []) (al2 := [some (.ref 215), some (.int x1), some (.int x2)]) (by decide +kernel) rfl (by decide +kernel) fo_215 rfl rfl rfl rfl rfl rfl rfl (by omega) (fun d' hd' => fe_180 (by omega) e6) rfl ?_
      refine fs_istore_n (k := 3) (p := 41) (M := 5) (al' := [some (.ref 215), some (.int x1), some (.int x2), some (.int (fx_b q7.1)), o4]) (by decide +kernel) rfl mx_181 rfl rfl ?_
      refine fs_iconst (n := 0) (p := 42) (by decide +kernel) rfl kc_0 ?_
      refine fs_istore (k := 4) (p := 44) (M := 5) (al' := [some (.ref 215), some (.int x1), some (.int x2), some (.int (fx_b q7.1)), some (.int (0 : Int32))]) (by decide +kernel) rfl mx_181 rfl rfl ?_
      exact fe_181_44 hd ih 100000 _ _ _ _ _ _ h
def fm_181 (x1 : Int32) (σ : fx_S) : Option (fx_S) :=
  (fm_177 x1 σ).bind fun q27 =>
  (fm_159 (8 : Int32) (9 : Int32) q27).bind fun q29 =>
  fm_181_15 100000 x1 (0 : Int32) q29
theorem fe_181 {d : Nat} (hd : 5 ≤ d) {x1 : Int32} {σ : fx_S} {q : fx_S} (h : fm_181 x1 σ = some q) : fx_E none 181 d 0 [some (.ref 215), some (.int x1), none, none, none] [] σ none q := by
  unfold fm_181 at h
  refine fs_aload_n (k := 0) (p := 1) (by decide +kernel) rfl rfl ?_
  refine fs_iload_n (k := 1) (p := 2) (by decide +kernel) rfl rfl ?_
  obtain ⟨q27, e26, h⟩ := fx_bd h
  refine fs_callV (idx := 290) (mj := 177) (ci := 10) (na := 1) (mx := 3) (p := 5) (args := [.ref 215, .int x1]) (rest := []) (al2 := [some (.ref 215), some (.int x1), none]) (by decide +kernel) rfl (by decide +kernel) fo_215 rfl rfl rfl rfl rfl rfl rfl (by omega) (fun d' hd' => fe_177 (by omega) e26) rfl ?_
  refine fs_aload_n (k := 0) (p := 6) (by decide +kernel) rfl rfl ?_
  refine fs_bipush (n := 8) (p := 8) (by decide +kernel) rfl kb_8 ?_
  refine fs_bipush (n := 9) (p := 10) (by decide +kernel) rfl kb_9 ?_
  obtain ⟨q29, e28, h⟩ := fx_bd h
  refine fs_callV (idx := 276) (mj := 159) (ci := 10) (na := 2) (mx := 4) (p := 13) (args := [.ref 215, .int (8 : Int32), .int (9 : Int32)]) (rest := []) (al2 := [some (.ref 215), some (.int (8 : Int32)), some (.int (9 : Int32)), none]) (by decide +kernel) rfl (by decide +kernel) fo_215 rfl rfl rfl rfl rfl rfl rfl (by omega) (fun d' hd' => fe_159 (by omega) e28) rfl ?_
  refine fs_iconst (n := 0) (p := 14) (by decide +kernel) rfl kc_0 ?_
  refine fs_istore_n (k := 2) (p := 15) (M := 5) (al' := [some (.ref 215), some (.int x1), some (.int (0 : Int32)), none, none]) (by decide +kernel) rfl mx_181 rfl rfl ?_
  exact fe_181_15 hd 100000 _ _ _ _ _ _ h

/-! ZoneSharesModel.rowSum(I)I -/
theorem mx_182 : iv_mx 182 = 4 := by decide +kernel
theorem rt_182 : iv_rt 182 = some .int := by decide +kernel
def fm_182_4 : Nat → Int32 → Int32 → Int32 → fx_S → Option (Int32 × fx_S)
  | 0, _, _, _, _ => none
  | n + 1, x1, x2, x3, σ =>
    if (σ.1 215 18) ≤ x3 then (
      some (x2, σ)) else (
      (fm_160 x1 x3 σ).bind fun q3 =>
      (fx_ldl q3.2 224 q3.1).bind fun v4 =>
      fm_182_4 n x1 (x2 + (v4).toInt32) (x3 + (1 : Int32)) q3.2)
theorem fe_182_4 {d : Nat} (hd : 1 ≤ d) : ∀ (n : Nat) (x1 : Int32) (x2 : Int32) (x3 : Int32) (σ : fx_S) (q : Int32 × fx_S), fm_182_4 n x1 x2 x3 σ = some q → fx_E none 182 d 4 [some (.ref 215), some (.int x1), some (.int x2), some (.int x3)] [] σ (some (.int q.1)) q.2 := by
  intro n
  induction n with
  | zero =>
    intro x1 x2 x3 σ q  h
    rw [fm_182_4] at h
    exact fx_no h
  | succ n ih =>
    intro x1 x2 x3 σ q  h
    rw [fm_182_4] at h
    refine fs_iload_n (k := 3) (p := 5) (by decide +kernel) rfl rfl ?_
    refine fs_aload_n (k := 0) (p := 6) (by decide +kernel) rfl rfl ?_
    refine fs_gfi (idx := 211) (ci := 10) (j := 18) (p := 9) (by decide +kernel) rfl (by decide +kernel) fo_215 ?_
    by_cases c1 : (σ.1 215 18) ≤ x3
    · rw [if_pos c1] at h
      refine fs_icmp_ge_t (off := 23) (t := 32) (by decide +kernel) (by decide +kernel) c1 ?_
      refine fs_iload_n (k := 2) (p := 33) (by decide +kernel) rfl rfl ?_
      have h := Option.some.inj h
      subst h
      exact fs_iret (by decide +kernel) rt_182
    · rw [if_neg c1] at h
      refine fs_icmp_ge_f (off := 23) (t := 32) (p := 12) (by decide +kernel) (by decide +kernel) rfl c1 ?_
      refine fs_iload_n (k := 2) (p := 13) (by decide +kernel) rfl rfl ?_
      refine fs_aload_n (k := 0) (p := 14) (by decide +kernel) rfl rfl ?_
      refine fs_gfr (idx := 36) (ci := 10) (j := 15) (p := 17) (by decide +kernel) rfl (by decide +kernel) fo_215 (fr_a215_15) ?_
      refine fs_iload_n (k := 1) (p := 18) (by decide +kernel) rfl rfl ?_
      refine fs_iload_n (k := 3) (p := 19) (by decide +kernel) rfl rfl ?_
      obtain ⟨q3, e2, h⟩ := fx_bd h
      refine fs_callS (idx := 214) (mj := 160) (na := 2) (mx := 2) (p := 22) (args := [.int x1, .int x3]) (rest := [.ref 224, .int x2]) (al2 := [some (.int x1), some (.int x3)]) (by decide +kernel) rfl (by decide +kernel) rfl rfl rfl rfl rfl rfl rfl (by omega) (fun d' hd' => fe_160 (by omega) e2) rfl ?_
      obtain ⟨v4, e5, h⟩ := fx_bd h
      refine fs_laload (p := 23) (by decide +kernel) rfl e5 ?_
      refine fs_l2i (p := 24) (by decide +kernel) rfl ?_
      refine fs_iadd (p := 25) (by decide +kernel) rfl ?_
      refine fs_istore_n (k := 2) (p := 26) (M := 4) (al' := [some (.ref 215), some (.int x1), some (.int (x2 + (v4).toInt32)), some (.int x3)]) (by decide +kernel) rfl mx_182 rfl rfl ?_
      refine fs_iinc (k := 3) (n := 1) (p := 29) (M := 4) (al' := [some (.ref 215), some (.int x1), some (.int (x2 + (v4).toInt32)), some (.int (x3 + (1 : Int32)))]) (by decide +kernel) rfl kc_1 mx_182 rfl rfl rfl ?_
      refine fs_goto (off := -25) (p := 4) (by decide +kernel) (by decide +kernel) ?_
      exact ih _ _ _ _ _ h
def fm_182 (x1 : Int32) (σ : fx_S) : Option (Int32 × fx_S) :=
  fm_182_4 100000 x1 (0 : Int32) (0 : Int32) σ
theorem fe_182 {d : Nat} (hd : 1 ≤ d) {x1 : Int32} {σ : fx_S} {q : Int32 × fx_S} (h : fm_182 x1 σ = some q) : fx_E none 182 d 0 [some (.ref 215), some (.int x1), none, none] [] σ (some (.int q.1)) q.2 := by
  unfold fm_182 at h
  refine fs_iconst (n := 0) (p := 1) (by decide +kernel) rfl kc_0 ?_
  refine fs_istore_n (k := 2) (p := 2) (M := 4) (al' := [some (.ref 215), some (.int x1), some (.int (0 : Int32)), none]) (by decide +kernel) rfl mx_182 rfl rfl ?_
  refine fs_iconst (n := 0) (p := 3) (by decide +kernel) rfl kc_0 ?_
  refine fs_istore_n (k := 3) (p := 4) (M := 4) (al' := [some (.ref 215), some (.int x1), some (.int (0 : Int32)), some (.int (0 : Int32))]) (by decide +kernel) rfl mx_182 rfl rfl ?_
  exact fe_182_4 hd 100000 _ _ _ _ _ h
