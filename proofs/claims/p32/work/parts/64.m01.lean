/-! ZoneShares$Table.leftOver(I)I -/
theorem mx_73 : iv_mx 73 = 2 := by decide +kernel
theorem rt_73 : iv_rt 73 = some .int := by decide +kernel
def fm_73 (x0 : Nat) (x1 : Int32) (σ : fx_S) : Option (Int32 × fx_S) :=
  if fx_oc x0 7 = true then (
  (fx_ld σ (x0 + 2) x1).bind fun v10 =>
  if v10 ≤ 0 then (
    some ((0 : Int32), σ)) else (
    (fx_ld σ (x0 + 1) x1).bind fun v15 =>
    (fm_72 (x0 + 6) x1 σ).bind fun q18 =>
    some ((v15 - q18.1), q18.2))) else none
theorem fe_73 {z : iv_Z} {d : Nat} (hd : 1 ≤ d) {x0 : Nat} {x1 : Int32} {σ : fx_S} {q : Int32 × fx_S} (h : fm_73 x0 x1 σ = some q) : fx_E z 73 d 0 [some (.ref x0), some (.int x1)] [] σ (some (.int q.1)) q.2 := by
  unfold fm_73 at h
  obtain ⟨g0, h⟩ := fx_gd h
  refine fs_aload_n (k := 0) (p := 1) (by decide +kernel) rfl rfl ?_
  refine fs_gfr (idx := 15) (ci := 7) (j := 1) (p := 4) (by decide +kernel) rfl (by decide +kernel) g0 (fr_7_1 g0) ?_
  refine fs_iload_n (k := 1) (p := 5) (by decide +kernel) rfl rfl ?_
  obtain ⟨v10, w11, h⟩ := fx_bd h
  refine fs_iaload (p := 6) (by decide +kernel) rfl w11 ?_
  by_cases c14 : v10 ≤ 0
  · rw [if_pos c14] at h
    refine fs_if_le_t (off := 21) (t := 27) (by decide +kernel) (by decide +kernel) c14 ?_
    refine fs_iconst (n := 0) (p := 28) (by decide +kernel) rfl kc_0 ?_
    have h := Option.some.inj h
    subst h
    exact fs_iret (by decide +kernel) rt_73
  · rw [if_neg c14] at h
    refine fs_if_le_f (off := 21) (t := 27) (p := 9) (by decide +kernel) (by decide +kernel) rfl c14 ?_
    refine fs_aload_n (k := 0) (p := 10) (by decide +kernel) rfl rfl ?_
    refine fs_gfr (idx := 9) (ci := 7) (j := 0) (p := 13) (by decide +kernel) rfl (by decide +kernel) g0 (fr_7_0 g0) ?_
    refine fs_iload_n (k := 1) (p := 14) (by decide +kernel) rfl rfl ?_
    obtain ⟨v15, w16, h⟩ := fx_bd h
    refine fs_iaload (p := 15) (by decide +kernel) rfl w16 ?_
    refine fs_aload_n (k := 0) (p := 16) (by decide +kernel) rfl rfl ?_
    refine fs_gfr (idx := 27) (ci := 7) (j := 5) (p := 19) (by decide +kernel) rfl (by decide +kernel) g0 (fr_7_5 g0) ?_
    refine fs_iload_n (k := 1) (p := 20) (by decide +kernel) rfl rfl ?_
    obtain ⟨q18, w17, h⟩ := fx_bd h
    refine fs_callS (idx := 42) (mj := 72) (na := 2) (mx := 4) (p := 23) (args := [.ref (x0 + 6), .int x1]) (rest := [.int v15]) (al2 := [some (.ref (x0 + 6)), some (.int x1), none, none]) (by decide +kernel) rfl (by decide +kernel) rfl rfl rfl rfl rfl rfl rfl (by omega) (fun d' hd' => fe_72 (by omega) w17) rfl ?_
    refine fs_isub (p := 24) (by decide +kernel) rfl ?_
    refine fs_goto (off := 4) (p := 28) (by decide +kernel) (by decide +kernel) ?_
    have h := Option.some.inj h
    subst h
    exact fs_iret (by decide +kernel) rt_73

/-! ZoneShares$Table.giveToGreatest(I)V -/
theorem mx_75 : iv_mx 75 = 5 := by decide +kernel
theorem rt_75 : iv_rt 75 = none := by decide +kernel
def fm_75_61 (k_10 : Nat → Int32 → Int32 → Int32 → Int32 → fx_S → Option (fx_S)) (x0 : Nat) (x1 : Int32) (x2 : Int32) (x3 : Int32) (x4 : Int32) (σ : fx_S) : Option (fx_S) :=
  k_10 x0 x1 x2 x3 (x4 + (1 : Int32)) σ
theorem fe_75_61 {z : iv_Z} {d : Nat} (hd : 0 ≤ d) {k_10 : Nat → Int32 → Int32 → Int32 → Int32 → fx_S → Option (fx_S)} (hk_10 : ∀ (x0 : Nat) (x1 : Int32) (x2 : Int32) (x3 : Int32) (x4 : Int32) (σ : fx_S) (q : fx_S) (g0 : fx_oc x0 7 = true), k_10 x0 x1 x2 x3 x4 σ = some q → fx_E z 75 d 10 [some (.ref x0), some (.int x1), some (.int x2), some (.int x3), some (.int x4)] [] σ none q) (x0 : Nat) (x1 : Int32) (x2 : Int32) (x3 : Int32) (x4 : Int32) (σ : fx_S) (q : fx_S) (g0 : fx_oc x0 7 = true) (h : fm_75_61 k_10  x0 x1 x2 x3 x4 σ = some q) : fx_E z 75 d 61 [some (.ref x0), some (.int x1), some (.int x2), some (.int x3), some (.int x4)] [] σ none q := by
  unfold fm_75_61 at h
  refine fs_iinc (k := 4) (n := 1) (p := 64) (M := 5) (al' := [some (.ref x0), some (.int x1), some (.int x2), some (.int x3), some (.int (x4 + (1 : Int32)))]) (by decide +kernel) rfl kc_1 mx_75 rfl rfl rfl ?_
  refine fs_goto (off := -54) (p := 10) (by decide +kernel) (by decide +kernel) ?_
  exact hk_10 _ _ _ _ _ _ _ g0 h
def fm_75_10 : Nat → Nat → Int32 → Int32 → Int32 → Int32 → fx_S → Option (fx_S)
  | 0, _, _, _, _, _, _ => none
  | n + 1, x0, x1, x2, x3, x4, σ =>
    if ((x1 * (9 : Int32)) + (9 : Int32)) ≤ x4 then (
      if x2 = (-1 : Int32) then (
        some σ) else (
        (fx_ld σ (x0 + 8) x2).bind fun v6 =>
        (fx_st σ (x0 + 8) x2 (v6 + (1 : Int32))).bind fun t9 =>
        some t9)) else (
      (fx_ld σ (x0 + 7) x4).bind fun v11 =>
      if v11 ≤ x3 then (
        fm_75_61 (fm_75_10 n) x0 x1 x2 x3 x4 σ) else (
        (fx_ld σ (x0 + 8) x4).bind fun v17 =>
        (fx_ld σ (x0 + 6) x4).bind fun v19 =>
        if ¬ v17 = v19 then (
          fm_75_61 (fm_75_10 n) x0 x1 x2 x3 x4 σ) else (
          (fx_ld σ (x0 + 7) x4).bind fun v24 =>
          fm_75_61 (fm_75_10 n) x0 x1 x4 v24 x4 σ)))
theorem fe_75_10 {z : iv_Z} {d : Nat} (hd : 0 ≤ d) : ∀ (n : Nat) (x0 : Nat) (x1 : Int32) (x2 : Int32) (x3 : Int32) (x4 : Int32) (σ : fx_S) (q : fx_S) (g0 : fx_oc x0 7 = true), fm_75_10 n x0 x1 x2 x3 x4 σ = some q → fx_E z 75 d 10 [some (.ref x0), some (.int x1), some (.int x2), some (.int x3), some (.int x4)] [] σ none q := by
  intro n
  induction n with
  | zero =>
    intro x0 x1 x2 x3 x4 σ q g0 h
    rw [fm_75_10] at h
    exact fx_no h
  | succ n ih =>
    intro x0 x1 x2 x3 x4 σ q g0 h
    rw [fm_75_10] at h
    refine fs_iload (k := 4) (p := 12) (by decide +kernel) rfl rfl ?_
    refine fs_iload_n (k := 1) (p := 13) (by decide +kernel) rfl rfl ?_
    refine fs_bipush (n := 9) (p := 15) (by decide +kernel) rfl kb_9 ?_
    refine fs_imul (p := 16) (by decide +kernel) rfl ?_
    refine fs_bipush (n := 9) (p := 18) (by decide +kernel) rfl kb_9 ?_
    refine fs_iadd (p := 19) (by decide +kernel) rfl ?_
    by_cases c3 : ((x1 * (9 : Int32)) + (9 : Int32)) ≤ x4
    · rw [if_pos c3] at h
      refine fs_icmp_ge_t (off := 48) (t := 67) (by decide +kernel) (by decide +kernel) c3 ?_
      refine fs_iload_n (k := 2) (p := 68) (by decide +kernel) rfl rfl ?_
      refine fs_iconst (n := -1) (p := 69) (by decide +kernel) rfl kc_m1 ?_
      by_cases c5 : x2 = (-1 : Int32)
      · rw [if_pos c5] at h
        refine fs_icmp_eq_t (off := 13) (t := 82) (by decide +kernel) (by decide +kernel) c5 ?_
        have h := Option.some.inj h
        subst h
        exact fs_ret (by decide +kernel) rt_75
      · rw [if_neg c5] at h
        refine fs_icmp_eq_f (off := 13) (t := 82) (p := 72) (by decide +kernel) (by decide +kernel) rfl c5 ?_
        refine fs_aload_n (k := 0) (p := 73) (by decide +kernel) rfl rfl ?_
        refine fs_gfr (idx := 33) (ci := 7) (j := 7) (p := 76) (by decide +kernel) rfl (by decide +kernel) g0 (fr_7_7 g0) ?_
        refine fs_iload_n (k := 2) (p := 77) (by decide +kernel) rfl rfl ?_
        refine fs_dup2 (p := 78) (by decide +kernel) rfl rfl rfl ?_
        obtain ⟨v6, w7, h⟩ := fx_bd h
        refine fs_iaload (p := 79) (by decide +kernel) rfl w7 ?_
        refine fs_iconst (n := 1) (p := 80) (by decide +kernel) rfl kc_1 ?_
        refine fs_iadd (p := 81) (by decide +kernel) rfl ?_
        obtain ⟨t9, w10, h⟩ := fx_bd h
        refine fs_iastore (p := 82) (by decide +kernel) rfl w10 ?_
        have h := Option.some.inj h
        subst h
        exact fs_ret (by decide +kernel) rt_75
    · rw [if_neg c3] at h
      refine fs_icmp_ge_f (off := 48) (t := 67) (p := 22) (by decide +kernel) (by decide +kernel) rfl c3 ?_
      refine fs_aload_n (k := 0) (p := 23) (by decide +kernel) rfl rfl ?_
      refine fs_gfr (idx := 30) (ci := 7) (j := 6) (p := 26) (by decide +kernel) rfl (by decide +kernel) g0 (fr_7_6 g0) ?_
      refine fs_iload (k := 4) (p := 28) (by decide +kernel) rfl rfl ?_
      obtain ⟨v11, w12, h⟩ := fx_bd h
      refine fs_iaload (p := 29) (by decide +kernel) rfl w12 ?_
      refine fs_iload_n (k := 3) (p := 30) (by decide +kernel) rfl rfl ?_
      by_cases c16 : v11 ≤ x3
      · rw [if_pos c16] at h
        refine fs_icmp_le_t (off := 31) (t := 61) (by decide +kernel) (by decide +kernel) c16 ?_
        exact fe_75_61 hd ih _ _ _ _ _ _ _ g0 h
      · rw [if_neg c16] at h
        refine fs_icmp_le_f (off := 31) (t := 61) (p := 33) (by decide +kernel) (by decide +kernel) rfl c16 ?_
        refine fs_aload_n (k := 0) (p := 34) (by decide +kernel) rfl rfl ?_
        refine fs_gfr (idx := 33) (ci := 7) (j := 7) (p := 37) (by decide +kernel) rfl (by decide +kernel) g0 (fr_7_7 g0) ?_
        refine fs_iload (k := 4) (p := 39) (by decide +kernel) rfl rfl ?_
        obtain ⟨v17, w18, h⟩ := fx_bd h
        refine fs_iaload (p := 40) (by decide +kernel) rfl w18 ?_
        refine fs_aload_n (k := 0) (p := 41) (by decide +kernel) rfl rfl ?_
        refine fs_gfr (idx := 27) (ci := 7) (j := 5) (p := 44) (by decide +kernel) rfl (by decide +kernel) g0 (fr_7_5 g0) ?_
        refine fs_iload (k := 4) (p := 46) (by decide +kernel) rfl rfl ?_
        obtain ⟨v19, w20, h⟩ := fx_bd h
        refine fs_iaload (p := 47) (by decide +kernel) rfl w20 ?_
        by_cases c23 : ¬ v17 = v19
        · rw [if_pos c23] at h
          refine fs_icmp_ne_t (off := 14) (t := 61) (by decide +kernel) (by decide +kernel) c23 ?_
          exact fe_75_61 hd ih _ _ _ _ _ _ _ g0 h
        · rw [if_neg c23] at h
          refine fs_icmp_ne_f (off := 14) (t := 61) (p := 50) (by decide +kernel) (by decide +kernel) rfl c23 ?_
          refine fs_iload (k := 4) (p := 52) (by decide +kernel) rfl rfl ?_
          refine fs_istore_n (k := 2) (p := 53) (M := 5) (al' := [some (.ref x0), some (.int x1), some (.int x4), some (.int x3), some (.int x4)]) (by decide +kernel) rfl mx_75 rfl rfl ?_
          refine fs_aload_n (k := 0) (p := 54) (by decide +kernel) rfl rfl ?_
          refine fs_gfr (idx := 30) (ci := 7) (j := 6) (p := 57) (by decide +kernel) rfl (by decide +kernel) g0 (fr_7_6 g0) ?_
          refine fs_iload (k := 4) (p := 59) (by decide +kernel) rfl rfl ?_
          obtain ⟨v24, w25, h⟩ := fx_bd h
          refine fs_iaload (p := 60) (by decide +kernel) rfl w25 ?_
          refine fs_istore_n (k := 3) (p := 61) (M := 5) (al' := [some (.ref x0), some (.int x1), some (.int x4), some (.int v24), some (.int x4)]) (by decide +kernel) rfl mx_75 rfl rfl ?_
          exact fe_75_61 hd ih _ _ _ _ _ _ _ g0 h
def fm_75 (x0 : Nat) (x1 : Int32) (σ : fx_S) : Option (fx_S) :=
  if fx_oc x0 7 = true then (
  fm_75_10 100000 x0 x1 (-1 : Int32) (0 : Int32) (x1 * (9 : Int32)) σ) else none
theorem fe_75 {z : iv_Z} {d : Nat} (hd : 0 ≤ d) {x0 : Nat} {x1 : Int32} {σ : fx_S} {q : fx_S} (h : fm_75 x0 x1 σ = some q) : fx_E z 75 d 0 [some (.ref x0), some (.int x1), none, none, none] [] σ none q := by
  unfold fm_75 at h
  obtain ⟨g0, h⟩ := fx_gd h
  refine fs_iconst (n := -1) (p := 1) (by decide +kernel) rfl kc_m1 ?_
  refine fs_istore_n (k := 2) (p := 2) (M := 5) (al' := [some (.ref x0), some (.int x1), some (.int (-1 : Int32)), none, none]) (by decide +kernel) rfl mx_75 rfl rfl ?_
  refine fs_iconst (n := 0) (p := 3) (by decide +kernel) rfl kc_0 ?_
  refine fs_istore_n (k := 3) (p := 4) (M := 5) (al' := [some (.ref x0), some (.int x1), some (.int (-1 : Int32)), some (.int (0 : Int32)), none]) (by decide +kernel) rfl mx_75 rfl rfl ?_
  refine fs_iload_n (k := 1) (p := 5) (by decide +kernel) rfl rfl ?_
  refine fs_bipush (n := 9) (p := 7) (by decide +kernel) rfl kb_9 ?_
  refine fs_imul (p := 8) (by decide +kernel) rfl ?_
  refine fs_istore (k := 4) (p := 10) (M := 5) (al' := [some (.ref x0), some (.int x1), some (.int (-1 : Int32)), some (.int (0 : Int32)), some (.int (x1 * (9 : Int32)))]) (by decide +kernel) rfl mx_75 rfl rfl ?_
  exact fe_75_10 hd 100000 _ _ _ _ _ _ _ g0 h

/-! ZoneShares$Table.column(I)I -/
theorem mx_76 : iv_mx 76 = 4 := by decide +kernel
theorem rt_76 : iv_rt 76 = some .int := by decide +kernel
def fm_76_4 : Nat → Nat → Int32 → Int32 → Int32 → fx_S → Option (Int32 × fx_S)
  | 0, _, _, _, _, _ => none
  | n + 1, x0, x1, x2, x3, σ =>
    if (8 : Int32) ≤ x3 then (
      some (x2, σ)) else (
      (fx_ld σ (x0 + 8) ((x3 * (9 : Int32)) + x1)).bind fun v3 =>
      fm_76_4 n x0 x1 (x2 + v3) (x3 + (1 : Int32)) σ)
theorem fe_76_4 {z : iv_Z} {d : Nat} (hd : 0 ≤ d) : ∀ (n : Nat) (x0 : Nat) (x1 : Int32) (x2 : Int32) (x3 : Int32) (σ : fx_S) (q : Int32 × fx_S) (g0 : fx_oc x0 7 = true), fm_76_4 n x0 x1 x2 x3 σ = some q → fx_E z 76 d 4 [some (.ref x0), some (.int x1), some (.int x2), some (.int x3)] [] σ (some (.int q.1)) q.2 := by
  intro n
  induction n with
  | zero =>
    intro x0 x1 x2 x3 σ q g0 h
    rw [fm_76_4] at h
    exact fx_no h
  | succ n ih =>
    intro x0 x1 x2 x3 σ q g0 h
    rw [fm_76_4] at h
    refine fs_iload_n (k := 3) (p := 5) (by decide +kernel) rfl rfl ?_
    refine fs_bipush (n := 8) (p := 7) (by decide +kernel) rfl kb_8 ?_
    by_cases c2 : (8 : Int32) ≤ x3
    · rw [if_pos c2] at h
      refine fs_icmp_ge_t (off := 23) (t := 30) (by decide +kernel) (by decide +kernel) c2 ?_
      refine fs_iload_n (k := 2) (p := 31) (by decide +kernel) rfl rfl ?_
      have h := Option.some.inj h
      subst h
      exact fs_iret (by decide +kernel) rt_76
    · rw [if_neg c2] at h
      refine fs_icmp_ge_f (off := 23) (t := 30) (p := 10) (by decide +kernel) (by decide +kernel) rfl c2 ?_
      refine fs_iload_n (k := 2) (p := 11) (by decide +kernel) rfl rfl ?_
      refine fs_aload_n (k := 0) (p := 12) (by decide +kernel) rfl rfl ?_
      refine fs_gfr (idx := 33) (ci := 7) (j := 7) (p := 15) (by decide +kernel) rfl (by decide +kernel) g0 (fr_7_7 g0) ?_
      refine fs_iload_n (k := 3) (p := 16) (by decide +kernel) rfl rfl ?_
      refine fs_bipush (n := 9) (p := 18) (by decide +kernel) rfl kb_9 ?_
      refine fs_imul (p := 19) (by decide +kernel) rfl ?_
      refine fs_iload_n (k := 1) (p := 20) (by decide +kernel) rfl rfl ?_
      refine fs_iadd (p := 21) (by decide +kernel) rfl ?_
      obtain ⟨v3, w4, h⟩ := fx_bd h
      refine fs_iaload (p := 22) (by decide +kernel) rfl w4 ?_
      refine fs_iadd (p := 23) (by decide +kernel) rfl ?_
      refine fs_istore_n (k := 2) (p := 24) (M := 4) (al' := [some (.ref x0), some (.int x1), some (.int (x2 + v3)), some (.int x3)]) (by decide +kernel) rfl mx_76 rfl rfl ?_
      refine fs_iinc (k := 3) (n := 1) (p := 27) (M := 4) (al' := [some (.ref x0), some (.int x1), some (.int (x2 + v3)), some (.int (x3 + (1 : Int32)))]) (by decide +kernel) rfl kc_1 mx_76 rfl rfl rfl ?_
      refine fs_goto (off := -23) (p := 4) (by decide +kernel) (by decide +kernel) ?_
      exact ih _ _ _ _ _ _ g0 h
def fm_76 (x0 : Nat) (x1 : Int32) (σ : fx_S) : Option (Int32 × fx_S) :=
  if fx_oc x0 7 = true then (
  fm_76_4 100000 x0 x1 (0 : Int32) (0 : Int32) σ) else none
theorem fe_76 {z : iv_Z} {d : Nat} (hd : 0 ≤ d) {x0 : Nat} {x1 : Int32} {σ : fx_S} {q : Int32 × fx_S} (h : fm_76 x0 x1 σ = some q) : fx_E z 76 d 0 [some (.ref x0), some (.int x1), none, none] [] σ (some (.int q.1)) q.2 := by
  unfold fm_76 at h
  obtain ⟨g0, h⟩ := fx_gd h
  refine fs_iconst (n := 0) (p := 1) (by decide +kernel) rfl kc_0 ?_
  refine fs_istore_n (k := 2) (p := 2) (M := 4) (al' := [some (.ref x0), some (.int x1), some (.int (0 : Int32)), none]) (by decide +kernel) rfl mx_76 rfl rfl ?_
  refine fs_iconst (n := 0) (p := 3) (by decide +kernel) rfl kc_0 ?_
  refine fs_istore_n (k := 3) (p := 4) (M := 4) (al' := [some (.ref x0), some (.int x1), some (.int (0 : Int32)), some (.int (0 : Int32))]) (by decide +kernel) rfl mx_76 rfl rfl ?_
  exact fe_76_4 hd 100000 _ _ _ _ _ _ g0 h

/-! ZoneShares$Table.floorsOf(I)I -/
theorem mx_77 : iv_mx 77 = 4 := by decide +kernel
theorem rt_77 : iv_rt 77 = some .int := by decide +kernel
def fm_77_4 : Nat → Nat → Int32 → Int32 → Int32 → fx_S → Option (Int32 × fx_S)
  | 0, _, _, _, _, _ => none
  | n + 1, x0, x1, x2, x3, σ =>
    if (8 : Int32) ≤ x3 then (
      some (x2, σ)) else (
      (fx_ld σ (x0 + 6) ((x3 * (9 : Int32)) + x1)).bind fun v3 =>
      fm_77_4 n x0 x1 (x2 + v3) (x3 + (1 : Int32)) σ)
theorem fe_77_4 {z : iv_Z} {d : Nat} (hd : 0 ≤ d) : ∀ (n : Nat) (x0 : Nat) (x1 : Int32) (x2 : Int32) (x3 : Int32) (σ : fx_S) (q : Int32 × fx_S) (g0 : fx_oc x0 7 = true), fm_77_4 n x0 x1 x2 x3 σ = some q → fx_E z 77 d 4 [some (.ref x0), some (.int x1), some (.int x2), some (.int x3)] [] σ (some (.int q.1)) q.2 := by
  intro n
  induction n with
  | zero =>
    intro x0 x1 x2 x3 σ q g0 h
    rw [fm_77_4] at h
    exact fx_no h
  | succ n ih =>
    intro x0 x1 x2 x3 σ q g0 h
    rw [fm_77_4] at h
    refine fs_iload_n (k := 3) (p := 5) (by decide +kernel) rfl rfl ?_
    refine fs_bipush (n := 8) (p := 7) (by decide +kernel) rfl kb_8 ?_
    by_cases c2 : (8 : Int32) ≤ x3
    · rw [if_pos c2] at h
      refine fs_icmp_ge_t (off := 23) (t := 30) (by decide +kernel) (by decide +kernel) c2 ?_
      refine fs_iload_n (k := 2) (p := 31) (by decide +kernel) rfl rfl ?_
      have h := Option.some.inj h
      subst h
      exact fs_iret (by decide +kernel) rt_77
    · rw [if_neg c2] at h
      refine fs_icmp_ge_f (off := 23) (t := 30) (p := 10) (by decide +kernel) (by decide +kernel) rfl c2 ?_
      refine fs_iload_n (k := 2) (p := 11) (by decide +kernel) rfl rfl ?_
      refine fs_aload_n (k := 0) (p := 12) (by decide +kernel) rfl rfl ?_
      refine fs_gfr (idx := 27) (ci := 7) (j := 5) (p := 15) (by decide +kernel) rfl (by decide +kernel) g0 (fr_7_5 g0) ?_
      refine fs_iload_n (k := 3) (p := 16) (by decide +kernel) rfl rfl ?_
      refine fs_bipush (n := 9) (p := 18) (by decide +kernel) rfl kb_9 ?_
      refine fs_imul (p := 19) (by decide +kernel) rfl ?_
      refine fs_iload_n (k := 1) (p := 20) (by decide +kernel) rfl rfl ?_
      refine fs_iadd (p := 21) (by decide +kernel) rfl ?_
      obtain ⟨v3, w4, h⟩ := fx_bd h
      refine fs_iaload (p := 22) (by decide +kernel) rfl w4 ?_
      refine fs_iadd (p := 23) (by decide +kernel) rfl ?_
      refine fs_istore_n (k := 2) (p := 24) (M := 4) (al' := [some (.ref x0), some (.int x1), some (.int (x2 + v3)), some (.int x3)]) (by decide +kernel) rfl mx_77 rfl rfl ?_
      refine fs_iinc (k := 3) (n := 1) (p := 27) (M := 4) (al' := [some (.ref x0), some (.int x1), some (.int (x2 + v3)), some (.int (x3 + (1 : Int32)))]) (by decide +kernel) rfl kc_1 mx_77 rfl rfl rfl ?_
      refine fs_goto (off := -23) (p := 4) (by decide +kernel) (by decide +kernel) ?_
      exact ih _ _ _ _ _ _ g0 h
def fm_77 (x0 : Nat) (x1 : Int32) (σ : fx_S) : Option (Int32 × fx_S) :=
  if fx_oc x0 7 = true then (
  fm_77_4 100000 x0 x1 (0 : Int32) (0 : Int32) σ) else none
theorem fe_77 {z : iv_Z} {d : Nat} (hd : 0 ≤ d) {x0 : Nat} {x1 : Int32} {σ : fx_S} {q : Int32 × fx_S} (h : fm_77 x0 x1 σ = some q) : fx_E z 77 d 0 [some (.ref x0), some (.int x1), none, none] [] σ (some (.int q.1)) q.2 := by
  unfold fm_77 at h
  obtain ⟨g0, h⟩ := fx_gd h
  refine fs_iconst (n := 0) (p := 1) (by decide +kernel) rfl kc_0 ?_
  refine fs_istore_n (k := 2) (p := 2) (M := 4) (al' := [some (.ref x0), some (.int x1), some (.int (0 : Int32)), none]) (by decide +kernel) rfl mx_77 rfl rfl ?_
  refine fs_iconst (n := 0) (p := 3) (by decide +kernel) rfl kc_0 ?_
  refine fs_istore_n (k := 3) (p := 4) (M := 4) (al' := [some (.ref x0), some (.int x1), some (.int (0 : Int32)), some (.int (0 : Int32))]) (by decide +kernel) rfl mx_77 rfl rfl ?_
  exact fe_77_4 hd 100000 _ _ _ _ _ _ g0 h

/-! ZoneShares$Table.restsOf(IJ)J -/
theorem mx_79 : iv_mx 79 = 7 := by decide +kernel
theorem rt_79 : iv_rt 79 = some .long := by decide +kernel
def fm_79_52 (k_6 : Nat → Int32 → Int64 → Int64 → Int32 → fx_S → Option (Int64 × fx_S)) (x0 : Nat) (x1 : Int32) (x2 : Int64) (x4 : Int64) (x6 : Int32) (σ : fx_S) : Option (Int64 × fx_S) :=
  k_6 x0 x1 x2 x4 (x6 + (1 : Int32)) σ
theorem fe_79_52 {z : iv_Z} {d : Nat} (hd : 0 ≤ d) {k_6 : Nat → Int32 → Int64 → Int64 → Int32 → fx_S → Option (Int64 × fx_S)} (hk_6 : ∀ (x0 : Nat) (x1 : Int32) (x2 : Int64) (x4 : Int64) (x6 : Int32) (σ : fx_S) (q : Int64 × fx_S) (g0 : fx_oc x0 7 = true), k_6 x0 x1 x2 x4 x6 σ = some q → fx_E z 79 d 6 [some (.ref x0), some (.int x1), some (.long x2), none, some (.long x4), none, some (.int x6)] [] σ (some (.long q.1)) q.2) (x0 : Nat) (x1 : Int32) (x2 : Int64) (x4 : Int64) (x6 : Int32) (σ : fx_S) (q : Int64 × fx_S) (g0 : fx_oc x0 7 = true) (h : fm_79_52 k_6  x0 x1 x2 x4 x6 σ = some q) : fx_E z 79 d 52 [some (.ref x0), some (.int x1), some (.long x2), none, some (.long x4), none, some (.int x6)] [] σ (some (.long q.1)) q.2 := by
  unfold fm_79_52 at h
  refine fs_iinc (k := 6) (n := 1) (p := 55) (M := 7) (al' := [some (.ref x0), some (.int x1), some (.long x2), none, some (.long x4), none, some (.int (x6 + (1 : Int32)))]) (by decide +kernel) rfl kc_1 mx_79 rfl rfl rfl ?_
  refine fs_goto (off := -49) (p := 6) (by decide +kernel) (by decide +kernel) ?_
  exact hk_6 _ _ _ _ _ _ _ g0 h
def fm_79_6 : Nat → Nat → Int32 → Int64 → Int64 → Int32 → fx_S → Option (Int64 × fx_S)
  | 0, _, _, _, _, _, _ => none
  | n + 1, x0, x1, x2, x4, x6, σ =>
    if (8 : Int32) ≤ x6 then (
      some (x4, σ)) else (
      (fx_ld σ (x0 + 2) x6).bind fun v3 =>
      if v3 ≤ 0 then (
        fm_79_52 (fm_79_6 n) x0 x1 x2 x4 x6 σ) else (
        (fx_ld σ (x0 + 7) ((x6 * (9 : Int32)) + x1)).bind fun v8 =>
        (fx_ld σ (x0 + 2) x6).bind fun v12 =>
        if ¬ (v12).toInt64 = 0 then (
        fm_79_52 (fm_79_6 n) x0 x1 x2 (x4 + ((v8).toInt64 * (x2 / (v12).toInt64))) x6 σ) else none))
theorem fe_79_6 {z : iv_Z} {d : Nat} (hd : 0 ≤ d) : ∀ (n : Nat) (x0 : Nat) (x1 : Int32) (x2 : Int64) (x4 : Int64) (x6 : Int32) (σ : fx_S) (q : Int64 × fx_S) (g0 : fx_oc x0 7 = true), fm_79_6 n x0 x1 x2 x4 x6 σ = some q → fx_E z 79 d 6 [some (.ref x0), some (.int x1), some (.long x2), none, some (.long x4), none, some (.int x6)] [] σ (some (.long q.1)) q.2 := by
  intro n
  induction n with
  | zero =>
    intro x0 x1 x2 x4 x6 σ q g0 h
    rw [fm_79_6] at h
    exact fx_no h
  | succ n ih =>
    intro x0 x1 x2 x4 x6 σ q g0 h
    rw [fm_79_6] at h
    refine fs_iload (k := 6) (p := 8) (by decide +kernel) rfl rfl ?_
    refine fs_bipush (n := 8) (p := 10) (by decide +kernel) rfl kb_8 ?_
    by_cases c2 : (8 : Int32) ≤ x6
    · rw [if_pos c2] at h
      refine fs_icmp_ge_t (off := 48) (t := 58) (by decide +kernel) (by decide +kernel) c2 ?_
      refine fs_lload (k := 4) (p := 60) (by decide +kernel) rfl rfl ?_
      have h := Option.some.inj h
      subst h
      exact fs_lret (by decide +kernel) rt_79
    · rw [if_neg c2] at h
      refine fs_icmp_ge_f (off := 48) (t := 58) (p := 13) (by decide +kernel) (by decide +kernel) rfl c2 ?_
      refine fs_aload_n (k := 0) (p := 14) (by decide +kernel) rfl rfl ?_
      refine fs_gfr (idx := 15) (ci := 7) (j := 1) (p := 17) (by decide +kernel) rfl (by decide +kernel) g0 (fr_7_1 g0) ?_
      refine fs_iload (k := 6) (p := 19) (by decide +kernel) rfl rfl ?_
      obtain ⟨v3, w4, h⟩ := fx_bd h
      refine fs_iaload (p := 20) (by decide +kernel) rfl w4 ?_
      by_cases c7 : v3 ≤ 0
      · rw [if_pos c7] at h
        refine fs_if_le_t (off := 32) (t := 52) (by decide +kernel) (by decide +kernel) c7 ?_
        exact fe_79_52 hd ih _ _ _ _ _ _ _ g0 h
      · rw [if_neg c7] at h
        refine fs_if_le_f (off := 32) (t := 52) (p := 23) (by decide +kernel) (by decide +kernel) rfl c7 ?_
        refine fs_lload (k := 4) (p := 25) (by decide +kernel) rfl rfl ?_
        refine fs_aload_n (k := 0) (p := 26) (by decide +kernel) rfl rfl ?_
        refine fs_gfr (idx := 30) (ci := 7) (j := 6) (p := 29) (by decide +kernel) rfl (by decide +kernel) g0 (fr_7_6 g0) ?_
        refine fs_iload (k := 6) (p := 31) (by decide +kernel) rfl rfl ?_
        refine fs_bipush (n := 9) (p := 33) (by decide +kernel) rfl kb_9 ?_
        refine fs_imul (p := 34) (by decide +kernel) rfl ?_
        refine fs_iload_n (k := 1) (p := 35) (by decide +kernel) rfl rfl ?_
        refine fs_iadd (p := 36) (by decide +kernel) rfl ?_
        obtain ⟨v8, w9, h⟩ := fx_bd h
        refine fs_iaload (p := 37) (by decide +kernel) rfl w9 ?_
        refine fs_i2l (p := 38) (by decide +kernel) rfl ?_
        refine fs_lload_n (k := 2) (p := 39) (by decide +kernel) rfl rfl ?_
        refine fs_aload_n (k := 0) (p := 40) (by decide +kernel) rfl rfl ?_
        refine fs_gfr (idx := 15) (ci := 7) (j := 1) (p := 43) (by decide +kernel) rfl (by decide +kernel) g0 (fr_7_1 g0) ?_
        refine fs_iload (k := 6) (p := 45) (by decide +kernel) rfl rfl ?_
        obtain ⟨v12, w13, h⟩ := fx_bd h
        refine fs_iaload (p := 46) (by decide +kernel) rfl w13 ?_
        refine fs_i2l (p := 47) (by decide +kernel) rfl ?_
        obtain ⟨z15, h⟩ := fx_gd h
        refine fs_ldiv (p := 48) (by decide +kernel) rfl z15 ?_
        refine fs_lmul (p := 49) (by decide +kernel) rfl ?_
        refine fs_ladd (p := 50) (by decide +kernel) rfl ?_
        refine fs_lstore (k := 4) (p := 52) (M := 7) (al' := [some (.ref x0), some (.int x1), some (.long x2), none, some (.long (x4 + ((v8).toInt64 * (x2 / (v12).toInt64)))), none, some (.int x6)]) (by decide +kernel) rfl mx_79 rfl rfl ?_
        exact fe_79_52 hd ih _ _ _ _ _ _ _ g0 h
def fm_79 (x0 : Nat) (x1 : Int32) (x2 : Int64) (σ : fx_S) : Option (Int64 × fx_S) :=
  if fx_oc x0 7 = true then (
  fm_79_6 100000 x0 x1 x2 (0 : Int64) (0 : Int32) σ) else none
theorem fe_79 {z : iv_Z} {d : Nat} (hd : 0 ≤ d) {x0 : Nat} {x1 : Int32} {x2 : Int64} {σ : fx_S} {q : Int64 × fx_S} (h : fm_79 x0 x1 x2 σ = some q) : fx_E z 79 d 0 [some (.ref x0), some (.int x1), some (.long x2), none, none, none, none] [] σ (some (.long q.1)) q.2 := by
  unfold fm_79 at h
  obtain ⟨g0, h⟩ := fx_gd h
  refine fs_lconst (n := 0) (p := 1) (by decide +kernel) rfl kl_0 ?_
  refine fs_lstore (k := 4) (p := 3) (M := 7) (al' := [some (.ref x0), some (.int x1), some (.long x2), none, some (.long (0 : Int64)), none, none]) (by decide +kernel) rfl mx_79 rfl rfl ?_
  refine fs_iconst (n := 0) (p := 4) (by decide +kernel) rfl kc_0 ?_
  refine fs_istore (k := 6) (p := 6) (M := 7) (al' := [some (.ref x0), some (.int x1), some (.long x2), none, some (.long (0 : Int64)), none, some (.int (0 : Int32))]) (by decide +kernel) rfl mx_79 rfl rfl ?_
  exact fe_79_6 hd 100000 _ _ _ _ _ _ _ g0 h

/-! ZoneShares$Tape.put(I)V -/
theorem mx_82 : iv_mx 82 = 3 := by decide +kernel
theorem rt_82 : iv_rt 82 = none := by decide +kernel
def fm_82_3 : Nat → Int32 → Int32 → fx_S → Option (fx_S)
  | 0, _, _, _ => none
  | n + 1, x1, x2, σ =>
    if x2 < 0 then (
      some σ) else (
      if (200 : Int32) ≤ (σ.1 14 1) then (
        some σ) else (
        (fx_st σ 15 (σ.1 14 1) (((x1).toUInt32 >>> ((x2).toUInt32 &&& Int32.toUInt32 31)).toInt32 &&& (255 : Int32))).bind fun t5 =>
        fm_82_3 n x1 (x2 + (-8 : Int32)) (fx_w1 t5 14 1 ((t5.1 14 1) + (1 : Int32)))))
theorem fe_82_3 {z : iv_Z} {d : Nat} (hd : 0 ≤ d) : ∀ (n : Nat) (x1 : Int32) (x2 : Int32) (σ : fx_S) (q : fx_S), fm_82_3 n x1 x2 σ = some q → fx_E z 82 d 3 [some (.ref 14), some (.int x1), some (.int x2)] [] σ none q := by
  intro n
  induction n with
  | zero =>
    intro x1 x2 σ q  h
    rw [fm_82_3] at h
    exact fx_no h
  | succ n ih =>
    intro x1 x2 σ q  h
    rw [fm_82_3] at h
    refine fs_iload_n (k := 2) (p := 4) (by decide +kernel) rfl rfl ?_
    by_cases c2 : x2 < 0
    · rw [if_pos c2] at h
      refine fs_if_lt_t (off := 45) (t := 49) (by decide +kernel) (by decide +kernel) c2 ?_
      have h := Option.some.inj h
      subst h
      exact fs_ret (by decide +kernel) rt_82
    · rw [if_neg c2] at h
      refine fs_if_lt_f (off := 45) (t := 49) (p := 7) (by decide +kernel) (by decide +kernel) rfl c2 ?_
      refine fs_aload_n (k := 0) (p := 8) (by decide +kernel) rfl rfl ?_
      refine fs_gfi (idx := 15) (ci := 8) (j := 1) (p := 11) (by decide +kernel) rfl (by decide +kernel) fo_14 ?_
      refine fs_sipush (n := 200) (p := 14) (by decide +kernel) rfl ks_200 ?_
      by_cases c4 : (200 : Int32) ≤ (σ.1 14 1)
      · rw [if_pos c4] at h
        refine fs_icmp_ge_t (off := 35) (t := 49) (by decide +kernel) (by decide +kernel) c4 ?_
        have h := Option.some.inj h
        subst h
        exact fs_ret (by decide +kernel) rt_82
      · rw [if_neg c4] at h
        refine fs_icmp_ge_f (off := 35) (t := 49) (p := 17) (by decide +kernel) (by decide +kernel) rfl c4 ?_
        refine fs_aload_n (k := 0) (p := 18) (by decide +kernel) rfl rfl ?_
        refine fs_gfr (idx := 9) (ci := 8) (j := 0) (p := 21) (by decide +kernel) rfl (by decide +kernel) fo_14 (fr_a14_0) ?_
        refine fs_aload_n (k := 0) (p := 22) (by decide +kernel) rfl rfl ?_
        refine fs_gfi (idx := 15) (ci := 8) (j := 1) (p := 25) (by decide +kernel) rfl (by decide +kernel) fo_14 ?_
        refine fs_iload_n (k := 1) (p := 26) (by decide +kernel) rfl rfl ?_
        refine fs_iload_n (k := 2) (p := 27) (by decide +kernel) rfl rfl ?_
        refine fs_iushr (p := 28) (by decide +kernel) rfl ?_
        refine fs_sipush (n := 255) (p := 31) (by decide +kernel) rfl ks_255 ?_
        refine fs_iand (p := 32) (by decide +kernel) rfl ?_
        obtain ⟨t5, w6, h⟩ := fx_bd h
        refine fs_iastore (p := 33) (by decide +kernel) rfl w6 ?_
        refine fs_aload_n (k := 0) (p := 34) (by decide +kernel) rfl rfl ?_
        refine fs_dup (p := 35) (by decide +kernel) rfl rfl ?_
        refine fs_gfi (idx := 15) (ci := 8) (j := 1) (p := 38) (by decide +kernel) rfl (by decide +kernel) fo_14 ?_
        refine fs_iconst (n := 1) (p := 39) (by decide +kernel) rfl kc_1 ?_
        refine fs_iadd (p := 40) (by decide +kernel) rfl ?_
        refine fs_pfi (idx := 15) (ci := 8) (j := 1) (p := 43) (by decide +kernel) rfl (by decide +kernel) (by decide +kernel) fo_14 (fx_oki _ (by decide +kernel)) ?_
        refine fs_iinc (k := 2) (n := -8) (p := 46) (M := 3) (al' := [some (.ref 14), some (.int x1), some (.int (x2 + (-8 : Int32)))]) (by decide +kernel) rfl kc_m8 mx_82 rfl rfl rfl ?_
        refine fs_goto (off := -43) (p := 3) (by decide +kernel) (by decide +kernel) ?_
        exact ih _ _ _ _ h
def fm_82 (x1 : Int32) (σ : fx_S) : Option (fx_S) :=
  fm_82_3 100000 x1 (24 : Int32) σ
theorem fe_82 {z : iv_Z} {d : Nat} (hd : 0 ≤ d) {x1 : Int32} {σ : fx_S} {q : fx_S} (h : fm_82 x1 σ = some q) : fx_E z 82 d 0 [some (.ref 14), some (.int x1), none] [] σ none q := by
  unfold fm_82 at h
  refine fs_bipush (n := 24) (p := 2) (by decide +kernel) rfl kb_24 ?_
  refine fs_istore_n (k := 2) (p := 3) (M := 3) (al' := [some (.ref 14), some (.int x1), some (.int (24 : Int32))]) (by decide +kernel) rfl mx_82 rfl rfl ?_
  exact fe_82_3 hd 100000 _ _ _ _ h

/-! ZoneShares$Tape.at(I)I -/
theorem mx_83 : iv_mx 83 = 2 := by decide +kernel
theorem rt_83 : iv_rt 83 = some .int := by decide +kernel
def fm_83 (x1 : Int32) (σ : fx_S) : Option (Int32 × fx_S) :=
  if x1 < 0 then (
    some ((-1 : Int32), σ)) else (
    if (σ.1 14 1) ≤ x1 then (
      some ((-1 : Int32), σ)) else (
      (fx_ld σ 15 x1).bind fun v12 =>
      some (v12, σ)))
theorem fe_83 {z : iv_Z} {d : Nat} (hd : 0 ≤ d) {x1 : Int32} {σ : fx_S} {q : Int32 × fx_S} (h : fm_83 x1 σ = some q) : fx_E z 83 d 0 [some (.ref 14), some (.int x1)] [] σ (some (.int q.1)) q.2 := by
  unfold fm_83 at h
  refine fs_iload_n (k := 1) (p := 1) (by decide +kernel) rfl rfl ?_
  by_cases c9 : x1 < 0
  · rw [if_pos c9] at h
    refine fs_if_lt_t (off := 20) (t := 21) (by decide +kernel) (by decide +kernel) c9 ?_
    refine fs_iconst (n := -1) (p := 22) (by decide +kernel) rfl kc_m1 ?_
    have h := Option.some.inj h
    subst h
    exact fs_iret (by decide +kernel) rt_83
  · rw [if_neg c9] at h
    refine fs_if_lt_f (off := 20) (t := 21) (p := 4) (by decide +kernel) (by decide +kernel) rfl c9 ?_
    refine fs_iload_n (k := 1) (p := 5) (by decide +kernel) rfl rfl ?_
    refine fs_aload_n (k := 0) (p := 6) (by decide +kernel) rfl rfl ?_
    refine fs_gfi (idx := 15) (ci := 8) (j := 1) (p := 9) (by decide +kernel) rfl (by decide +kernel) fo_14 ?_
    by_cases c11 : (σ.1 14 1) ≤ x1
    · rw [if_pos c11] at h
      refine fs_icmp_ge_t (off := 12) (t := 21) (by decide +kernel) (by decide +kernel) c11 ?_
      refine fs_iconst (n := -1) (p := 22) (by decide +kernel) rfl kc_m1 ?_
      have h := Option.some.inj h
      subst h
      exact fs_iret (by decide +kernel) rt_83
    · rw [if_neg c11] at h
      refine fs_icmp_ge_f (off := 12) (t := 21) (p := 12) (by decide +kernel) (by decide +kernel) rfl c11 ?_
      refine fs_aload_n (k := 0) (p := 13) (by decide +kernel) rfl rfl ?_
      refine fs_gfr (idx := 9) (ci := 8) (j := 0) (p := 16) (by decide +kernel) rfl (by decide +kernel) fo_14 (fr_a14_0) ?_
      refine fs_iload_n (k := 1) (p := 17) (by decide +kernel) rfl rfl ?_
      obtain ⟨v12, w13, h⟩ := fx_bd h
      refine fs_iaload (p := 18) (by decide +kernel) rfl w13 ?_
      refine fs_goto (off := 4) (p := 22) (by decide +kernel) (by decide +kernel) ?_
      have h := Option.some.inj h
      subst h
      exact fs_iret (by decide +kernel) rt_83

/-! ZoneShares.feed(IIIII)I -/
theorem mx_85 : iv_mx 85 = 6 := by decide +kernel
theorem rt_85 : iv_rt 85 = some .int := by decide +kernel
def fm_85 (x1 : Int32) (x2 : Int32) (x3 : Int32) (x4 : Int32) (x5 : Int32) (σ : fx_S) : Option (Int32 × fx_S) :=
  if ((σ.1 14 1) + (20 : Int32)) ≤ (200 : Int32) then (
    (fm_82 x1 σ).bind fun q16 =>
    (fm_82 x2 q16).bind fun q18 =>
    (fm_82 x3 q18).bind fun q20 =>
    (fm_82 x4 q20).bind fun q22 =>
    (fm_82 x5 q22).bind fun q24 =>
    some ((q24.1 14 1), q24)) else (
    some ((-1 : Int32), σ))
theorem fe_85 {z : iv_Z} {d : Nat} (hd : 1 ≤ d) {x1 : Int32} {x2 : Int32} {x3 : Int32} {x4 : Int32} {x5 : Int32} {σ : fx_S} {q : Int32 × fx_S} (h : fm_85 x1 x2 x3 x4 x5 σ = some q) : fx_E z 85 d 0 [some (.ref 0), some (.int x1), some (.int x2), some (.int x3), some (.int x4), some (.int x5)] [] σ (some (.int q.1)) q.2 := by
  unfold fm_85 at h
  refine fs_aload_n (k := 0) (p := 1) (by decide +kernel) rfl rfl ?_
  refine fs_gfr (idx := 22) (ci := 9) (j := 0) (p := 4) (by decide +kernel) rfl (by decide +kernel) fo_0 (fr_a0_0) ?_
  refine fs_gfi (idx := 67) (ci := 8) (j := 1) (p := 7) (by decide +kernel) rfl (by decide +kernel) fo_14 ?_
  refine fs_bipush (n := 20) (p := 9) (by decide +kernel) rfl kb_20 ?_
  refine fs_iadd (p := 10) (by decide +kernel) rfl ?_
  refine fs_sipush (n := 200) (p := 13) (by decide +kernel) rfl ks_200 ?_
  by_cases c14 : ((σ.1 14 1) + (20 : Int32)) ≤ (200 : Int32)
  · rw [if_pos c14] at h
    refine fs_icmp_le_t (off := 5) (t := 18) (by decide +kernel) (by decide +kernel) c14 ?_
    refine fs_aload_n (k := 0) (p := 19) (by decide +kernel) rfl rfl ?_
    refine fs_gfr (idx := 22) (ci := 9) (j := 0) (p := 22) (by decide +kernel) rfl (by decide +kernel) fo_0 (fr_a0_0) ?_
    refine fs_iload_n (k := 1) (p := 23) (by decide +kernel) rfl rfl ?_
    obtain ⟨q16, w15, h⟩ := fx_bd h
    refine fs_callV (idx := 71) (mj := 82) (ci := 8) (na := 1) (mx := 3) (p := 26) (args := [.ref 14, .int x1]) (rest := []) (al2 := [some (.ref 14), some (.int x1), none]) (by decide +kernel) rfl (by decide +kernel) fo_14 rfl rfl rfl rfl rfl rfl rfl (by omega) (fun d' hd' => fe_82 (by omega) w15) rfl ?_
    refine fs_aload_n (k := 0) (p := 27) (by decide +kernel) rfl rfl ?_
    refine fs_gfr (idx := 22) (ci := 9) (j := 0) (p := 30) (by decide +kernel) rfl (by decide +kernel) fo_0 (fr_a0_0) ?_
    refine fs_iload_n (k := 2) (p := 31) (by decide +kernel) rfl rfl ?_
    obtain ⟨q18, w17, h⟩ := fx_bd h
    refine fs_callV (idx := 71) (mj := 82) (ci := 8) (na := 1) (mx := 3) (p := 34) (args := [.ref 14, .int x2]) (rest := []) (al2 := [some (.ref 14), some (.int x2), none]) (by decide +kernel) rfl (by decide +kernel) fo_14 rfl rfl rfl rfl rfl rfl rfl (by omega) (fun d' hd' => fe_82 (by omega) w17) rfl ?_
    refine fs_aload_n (k := 0) (p := 35) (by decide +kernel) rfl rfl ?_
    refine fs_gfr (idx := 22) (ci := 9) (j := 0) (p := 38) (by decide +kernel) rfl (by decide +kernel) fo_0 (fr_a0_0) ?_
    refine fs_iload_n (k := 3) (p := 39) (by decide +kernel) rfl rfl ?_
    obtain ⟨q20, w19, h⟩ := fx_bd h
    refine fs_callV (idx := 71) (mj := 82) (ci := 8) (na := 1) (mx := 3) (p := 42) (args := [.ref 14, .int x3]) (rest := []) (al2 := [some (.ref 14), some (.int x3), none]) (by decide +kernel) rfl (by decide +kernel) fo_14 rfl rfl rfl rfl rfl rfl rfl (by omega) (fun d' hd' => fe_82 (by omega) w19) rfl ?_
    refine fs_aload_n (k := 0) (p := 43) (by decide +kernel) rfl rfl ?_
    refine fs_gfr (idx := 22) (ci := 9) (j := 0) (p := 46) (by decide +kernel) rfl (by decide +kernel) fo_0 (fr_a0_0) ?_
    refine fs_iload (k := 4) (p := 48) (by decide +kernel) rfl rfl ?_
    obtain ⟨q22, w21, h⟩ := fx_bd h
    refine fs_callV (idx := 71) (mj := 82) (ci := 8) (na := 1) (mx := 3) (p := 51) (args := [.ref 14, .int x4]) (rest := []) (al2 := [some (.ref 14), some (.int x4), none]) (by decide +kernel) rfl (by decide +kernel) fo_14 rfl rfl rfl rfl rfl rfl rfl (by omega) (fun d' hd' => fe_82 (by omega) w21) rfl ?_
    refine fs_aload_n (k := 0) (p := 52) (by decide +kernel) rfl rfl ?_
    refine fs_gfr (idx := 22) (ci := 9) (j := 0) (p := 55) (by decide +kernel) rfl (by decide +kernel) fo_0 (fr_a0_0) ?_
    refine fs_iload (k := 5) (p := 57) (by decide +kernel) rfl rfl ?_
    obtain ⟨q24, w23, h⟩ := fx_bd h
    refine fs_callV (idx := 71) (mj := 82) (ci := 8) (na := 1) (mx := 3) (p := 60) (args := [.ref 14, .int x5]) (rest := []) (al2 := [some (.ref 14), some (.int x5), none]) (by decide +kernel) rfl (by decide +kernel) fo_14 rfl rfl rfl rfl rfl rfl rfl (by omega) (fun d' hd' => fe_82 (by omega) w23) rfl ?_
    refine fs_aload_n (k := 0) (p := 61) (by decide +kernel) rfl rfl ?_
    refine fs_gfr (idx := 22) (ci := 9) (j := 0) (p := 64) (by decide +kernel) rfl (by decide +kernel) fo_0 (fr_a0_0) ?_
    refine fs_gfi (idx := 67) (ci := 8) (j := 1) (p := 67) (by decide +kernel) rfl (by decide +kernel) fo_14 ?_
    have h := Option.some.inj h
    subst h
    exact fs_iret (by decide +kernel) rt_85
  · rw [if_neg c14] at h
    refine fs_icmp_le_f (off := 5) (t := 18) (p := 16) (by decide +kernel) (by decide +kernel) rfl c14 ?_
    refine fs_iconst (n := -1) (p := 17) (by decide +kernel) rfl kc_m1 ?_
    have h := Option.some.inj h
    subst h
    exact fs_iret (by decide +kernel) rt_85

/-! ZoneShares.end(I)I -/
theorem mx_86 : iv_mx 86 = 2 := by decide +kernel
theorem rt_86 : iv_rt 86 = some .int := by decide +kernel
def fm_86 (x1 : Int32) (σ : fx_S) : Option (Int32 × fx_S) :=
  if x1 < 0 then (
    some ((-1 : Int32), σ)) else (
    if x1 ≤ (σ.1 14 1) then (
      some (x1, (fx_w1 σ 14 1 x1))) else (
      some ((-1 : Int32), σ)))
theorem fe_86 {z : iv_Z} {d : Nat} (hd : 0 ≤ d) {x1 : Int32} {σ : fx_S} {q : Int32 × fx_S} (h : fm_86 x1 σ = some q) : fx_E z 86 d 0 [some (.ref 0), some (.int x1)] [] σ (some (.int q.1)) q.2 := by
  unfold fm_86 at h
  refine fs_iload_n (k := 1) (p := 1) (by decide +kernel) rfl rfl ?_
  by_cases c6 : x1 < 0
  · rw [if_pos c6] at h
    refine fs_if_lt_t (off := 14) (t := 15) (by decide +kernel) (by decide +kernel) c6 ?_
    refine fs_iconst (n := -1) (p := 16) (by decide +kernel) rfl kc_m1 ?_
    have h := Option.some.inj h
    subst h
    exact fs_iret (by decide +kernel) rt_86
  · rw [if_neg c6] at h
    refine fs_if_lt_f (off := 14) (t := 15) (p := 4) (by decide +kernel) (by decide +kernel) rfl c6 ?_
    refine fs_iload_n (k := 1) (p := 5) (by decide +kernel) rfl rfl ?_
    refine fs_aload_n (k := 0) (p := 6) (by decide +kernel) rfl rfl ?_
    refine fs_gfr (idx := 22) (ci := 9) (j := 0) (p := 9) (by decide +kernel) rfl (by decide +kernel) fo_0 (fr_a0_0) ?_
    refine fs_gfi (idx := 67) (ci := 8) (j := 1) (p := 12) (by decide +kernel) rfl (by decide +kernel) fo_14 ?_
    by_cases c8 : x1 ≤ (σ.1 14 1)
    · rw [if_pos c8] at h
      refine fs_icmp_le_t (off := 5) (t := 17) (by decide +kernel) (by decide +kernel) c8 ?_
      refine fs_aload_n (k := 0) (p := 18) (by decide +kernel) rfl rfl ?_
      refine fs_gfr (idx := 22) (ci := 9) (j := 0) (p := 21) (by decide +kernel) rfl (by decide +kernel) fo_0 (fr_a0_0) ?_
      refine fs_iload_n (k := 1) (p := 22) (by decide +kernel) rfl rfl ?_
      refine fs_pfi (idx := 67) (ci := 8) (j := 1) (p := 25) (by decide +kernel) rfl (by decide +kernel) (by decide +kernel) fo_14 (fx_oki _ (by decide +kernel)) ?_
      refine fs_iload_n (k := 1) (p := 26) (by decide +kernel) rfl rfl ?_
      have h := Option.some.inj h
      subst h
      exact fs_iret (by decide +kernel) rt_86
    · rw [if_neg c8] at h
      refine fs_icmp_le_f (off := 5) (t := 17) (p := 15) (by decide +kernel) (by decide +kernel) rfl c8 ?_
      refine fs_iconst (n := -1) (p := 16) (by decide +kernel) rfl kc_m1 ?_
      have h := Option.some.inj h
      subst h
      exact fs_iret (by decide +kernel) rt_86

/-! ZoneShares.cell(III)I -/
theorem mx_95 : iv_mx 95 = 5 := by decide +kernel
theorem rt_95 : iv_rt 95 = some .int := by decide +kernel
def fm_95 (x1 : Int32) (x2 : Int32) (x3 : Int32) (σ : fx_S) : Option (Int32 × fx_S) :=
  if x1 < 0 then (
    some ((-1 : Int32), σ)) else (
    if (2 : Int32) < x1 then (
      some ((-1 : Int32), σ)) else (
      (fm_56 1 x1 σ).bind fun q19 =>
      if (fx_b q19.1) = 0 then (
        some ((-1 : Int32), q19.2)) else (
        (fm_59 1 x2 x3 q19.2).bind fun q22 =>
        if ¬ (fx_b q22.1) = 0 then (
          (fm_60 1 x1 ((x2 * (q22.2.1 1 5)) + x3) q22.2).bind fun q25 =>
          if ¬ x1 = (2 : Int32) then (
            if ¬ q25.1 = (8 : Int32) then (
              some (((97 : Int32) + q25.1), q25.2)) else (
              some ((46 : Int32), q25.2))) else (
            some (((48 : Int32) + q25.1), q25.2))) else (
          some ((-1 : Int32), q22.2)))))
theorem fe_95 {z : iv_Z} {d : Nat} (hd : 1 ≤ d) {x1 : Int32} {x2 : Int32} {x3 : Int32} {σ : fx_S} {q : Int32 × fx_S} (h : fm_95 x1 x2 x3 σ = some q) : fx_E z 95 d 0 [some (.ref 0), some (.int x1), some (.int x2), some (.int x3), none] [] σ (some (.int q.1)) q.2 := by
  unfold fm_95 at h
  refine fs_iload_n (k := 1) (p := 1) (by decide +kernel) rfl rfl ?_
  by_cases c16 : x1 < 0
  · rw [if_pos c16] at h
    refine fs_if_lt_t (off := 31) (t := 32) (by decide +kernel) (by decide +kernel) c16 ?_
    refine fs_iconst (n := -1) (p := 33) (by decide +kernel) rfl kc_m1 ?_
    have h := Option.some.inj h
    subst h
    exact fs_iret (by decide +kernel) rt_95
  · rw [if_neg c16] at h
    refine fs_if_lt_f (off := 31) (t := 32) (p := 4) (by decide +kernel) (by decide +kernel) rfl c16 ?_
    refine fs_iload_n (k := 1) (p := 5) (by decide +kernel) rfl rfl ?_
    refine fs_iconst (n := 2) (p := 6) (by decide +kernel) rfl kc_2 ?_
    by_cases c17 : (2 : Int32) < x1
    · rw [if_pos c17] at h
      refine fs_icmp_gt_t (off := 26) (t := 32) (by decide +kernel) (by decide +kernel) c17 ?_
      refine fs_iconst (n := -1) (p := 33) (by decide +kernel) rfl kc_m1 ?_
      have h := Option.some.inj h
      subst h
      exact fs_iret (by decide +kernel) rt_95
    · rw [if_neg c17] at h
      refine fs_icmp_gt_f (off := 26) (t := 32) (p := 9) (by decide +kernel) (by decide +kernel) rfl c17 ?_
      refine fs_aload_n (k := 0) (p := 10) (by decide +kernel) rfl rfl ?_
      refine fs_gfr (idx := 13) (ci := 9) (j := 1) (p := 13) (by decide +kernel) rfl (by decide +kernel) fo_0 (fr_a0_1) ?_
      refine fs_iload_n (k := 1) (p := 14) (by decide +kernel) rfl rfl ?_
      obtain ⟨q19, w18, h⟩ := fx_bd h
      refine fs_callV (idx := 75) (mj := 56) (ci := 6) (na := 1) (mx := 2) (p := 17) (args := [.ref 1, .int x1]) (rest := []) (al2 := [some (.ref 1), some (.int x1)]) (by decide +kernel) rfl (by decide +kernel) fo_1 rfl rfl rfl rfl rfl rfl rfl (by omega) (fun d' hd' => fe_56 (by omega) w18) rfl ?_
      by_cases c20 : (fx_b q19.1) = 0
      · rw [if_pos c20] at h
        refine fs_if_eq_t (off := 15) (t := 32) (by decide +kernel) (by decide +kernel) c20 ?_
        refine fs_iconst (n := -1) (p := 33) (by decide +kernel) rfl kc_m1 ?_
        have h := Option.some.inj h
        subst h
        exact fs_iret (by decide +kernel) rt_95
      · rw [if_neg c20] at h
        refine fs_if_eq_f (off := 15) (t := 32) (p := 20) (by decide +kernel) (by decide +kernel) rfl c20 ?_
        refine fs_aload_n (k := 0) (p := 21) (by decide +kernel) rfl rfl ?_
        refine fs_gfr (idx := 13) (ci := 9) (j := 1) (p := 24) (by decide +kernel) rfl (by decide +kernel) fo_0 (fr_a0_1) ?_
        refine fs_iload_n (k := 2) (p := 25) (by decide +kernel) rfl rfl ?_
        refine fs_iload_n (k := 3) (p := 26) (by decide +kernel) rfl rfl ?_
        obtain ⟨q22, w21, h⟩ := fx_bd h
        refine fs_callV (idx := 170) (mj := 59) (ci := 6) (na := 2) (mx := 3) (p := 29) (args := [.ref 1, .int x2, .int x3]) (rest := []) (al2 := [some (.ref 1), some (.int x2), some (.int x3)]) (by decide +kernel) rfl (by decide +kernel) fo_1 rfl rfl rfl rfl rfl rfl rfl (by omega) (fun d' hd' => fe_59 (by omega) w21) rfl ?_
        by_cases c23 : ¬ (fx_b q22.1) = 0
        · rw [if_pos c23] at h
          refine fs_if_ne_t (off := 5) (t := 34) (by decide +kernel) (by decide +kernel) c23 ?_
          refine fs_aload_n (k := 0) (p := 35) (by decide +kernel) rfl rfl ?_
          refine fs_gfr (idx := 13) (ci := 9) (j := 1) (p := 38) (by decide +kernel) rfl (by decide +kernel) fo_0 (fr_a0_1) ?_
          refine fs_iload_n (k := 1) (p := 39) (by decide +kernel) rfl rfl ?_
          refine fs_iload_n (k := 2) (p := 40) (by decide +kernel) rfl rfl ?_
          refine fs_aload_n (k := 0) (p := 41) (by decide +kernel) rfl rfl ?_
          refine fs_gfr (idx := 13) (ci := 9) (j := 1) (p := 44) (by decide +kernel) rfl (by decide +kernel) fo_0 (fr_a0_1) ?_
          refine fs_gfi (idx := 174) (ci := 6) (j := 5) (p := 47) (by decide +kernel) rfl (by decide +kernel) fo_1 ?_
          refine fs_imul (p := 48) (by decide +kernel) rfl ?_
          refine fs_iload_n (k := 3) (p := 49) (by decide +kernel) rfl rfl ?_
          refine fs_iadd (p := 50) (by decide +kernel) rfl ?_
          obtain ⟨q25, w24, h⟩ := fx_bd h
          refine fs_callV (idx := 177) (mj := 60) (ci := 6) (na := 2) (mx := 3) (p := 53) (args := [.ref 1, .int x1, .int ((x2 * (q22.2.1 1 5)) + x3)]) (rest := []) (al2 := [some (.ref 1), some (.int x1), some (.int ((x2 * (q22.2.1 1 5)) + x3))]) (by decide +kernel) rfl (by decide +kernel) fo_1 rfl rfl rfl rfl rfl rfl rfl (by omega) (fun d' hd' => fe_60 (by omega) w24) rfl ?_
          refine fs_istore (k := 4) (p := 55) (M := 5) (al' := [some (.ref 0), some (.int x1), some (.int x2), some (.int x3), some (.int q25.1)]) (by decide +kernel) rfl mx_95 rfl rfl ?_
          refine fs_iload_n (k := 1) (p := 56) (by decide +kernel) rfl rfl ?_
          refine fs_iconst (n := 2) (p := 57) (by decide +kernel) rfl kc_2 ?_
          by_cases c26 : ¬ x1 = (2 : Int32)
          · rw [if_pos c26] at h
            refine fs_icmp_ne_t (off := 9) (t := 66) (by decide +kernel) (by decide +kernel) c26 ?_
            refine fs_iload (k := 4) (p := 68) (by decide +kernel) rfl rfl ?_
            refine fs_bipush (n := 8) (p := 70) (by decide +kernel) rfl kb_8 ?_
            by_cases c28 : ¬ q25.1 = (8 : Int32)
            · rw [if_pos c28] at h
              refine fs_icmp_ne_t (off := 8) (t := 78) (by decide +kernel) (by decide +kernel) c28 ?_
              refine fs_bipush (n := 97) (p := 80) (by decide +kernel) rfl kb_97 ?_
              refine fs_iload (k := 4) (p := 82) (by decide +kernel) rfl rfl ?_
              refine fs_iadd (p := 83) (by decide +kernel) rfl ?_
              have h := Option.some.inj h
              subst h
              exact fs_iret (by decide +kernel) rt_95
            · rw [if_neg c28] at h
              refine fs_icmp_ne_f (off := 8) (t := 78) (p := 73) (by decide +kernel) (by decide +kernel) rfl c28 ?_
              refine fs_bipush (n := 46) (p := 75) (by decide +kernel) rfl kb_46 ?_
              refine fs_goto (off := 8) (p := 83) (by decide +kernel) (by decide +kernel) ?_
              have h := Option.some.inj h
              subst h
              exact fs_iret (by decide +kernel) rt_95
          · rw [if_neg c26] at h
            refine fs_icmp_ne_f (off := 9) (t := 66) (p := 60) (by decide +kernel) (by decide +kernel) rfl c26 ?_
            refine fs_bipush (n := 48) (p := 62) (by decide +kernel) rfl kb_48 ?_
            refine fs_iload (k := 4) (p := 64) (by decide +kernel) rfl rfl ?_
            refine fs_iadd (p := 65) (by decide +kernel) rfl ?_
            have h := Option.some.inj h
            subst h
            exact fs_iret (by decide +kernel) rt_95
        · rw [if_neg c23] at h
          refine fs_if_ne_f (off := 5) (t := 34) (p := 32) (by decide +kernel) (by decide +kernel) rfl c23 ?_
          refine fs_iconst (n := -1) (p := 33) (by decide +kernel) rfl kc_m1 ?_
          have h := Option.some.inj h
          subst h
          exact fs_iret (by decide +kernel) rt_95

/-! ZoneShares.isGroup(I)Z -/
theorem mx_114 : iv_mx 114 = 1 := by decide +kernel
theorem rt_114 : iv_rt 114 = some .boolean := by decide +kernel
def fm_114 (x0 : Int32) (σ : fx_S) : Option (Bool × fx_S) :=
  if x0 < 0 then (
    some (false, σ)) else (
    if (3 : Int32) ≤ x0 then (
      some (false, σ)) else (
      some (true, σ)))
theorem fe_114 {z : iv_Z} {d : Nat} (hd : 0 ≤ d) {x0 : Int32} {σ : fx_S} {q : Bool × fx_S} (h : fm_114 x0 σ = some q) : fx_E z 114 d 0 [some (.int x0)] [] σ (some (.int (fx_b q.1))) q.2 := by
  unfold fm_114 at h
  refine fs_iload_n (k := 0) (p := 1) (by decide +kernel) rfl rfl ?_
  by_cases c5 : x0 < 0
  · rw [if_pos c5] at h
    refine fs_if_lt_t (off := 12) (t := 13) (by decide +kernel) (by decide +kernel) c5 ?_
    refine fs_iconst (n := 0) (p := 14) (by decide +kernel) rfl kc_0 ?_
    have h := Option.some.inj h
    subst h
    exact fs_zret (b := false) (by decide +kernel) rt_114
  · rw [if_neg c5] at h
    refine fs_if_lt_f (off := 12) (t := 13) (p := 4) (by decide +kernel) (by decide +kernel) rfl c5 ?_
    refine fs_iload_n (k := 0) (p := 5) (by decide +kernel) rfl rfl ?_
    refine fs_iconst (n := 3) (p := 6) (by decide +kernel) rfl kc_3 ?_
    by_cases c6 : (3 : Int32) ≤ x0
    · rw [if_pos c6] at h
      refine fs_icmp_ge_t (off := 7) (t := 13) (by decide +kernel) (by decide +kernel) c6 ?_
      refine fs_iconst (n := 0) (p := 14) (by decide +kernel) rfl kc_0 ?_
      have h := Option.some.inj h
      subst h
      exact fs_zret (b := false) (by decide +kernel) rt_114
    · rw [if_neg c6] at h
      refine fs_icmp_ge_f (off := 7) (t := 13) (p := 9) (by decide +kernel) (by decide +kernel) rfl c6 ?_
      refine fs_iconst (n := 1) (p := 10) (by decide +kernel) rfl kc_1 ?_
      refine fs_goto (off := 4) (p := 14) (by decide +kernel) (by decide +kernel) ?_
      have h := Option.some.inj h
      subst h
      exact fs_zret (b := true) (by decide +kernel) rt_114

/-! ZoneShares.isZone(I)Z -/
theorem mx_115 : iv_mx 115 = 1 := by decide +kernel
theorem rt_115 : iv_rt 115 = some .boolean := by decide +kernel
def fm_115 (x0 : Int32) (σ : fx_S) : Option (Bool × fx_S) :=
  if x0 < 0 then (
    some (false, σ)) else (
    if (8 : Int32) ≤ x0 then (
      some (false, σ)) else (
      some (true, σ)))
theorem fe_115 {z : iv_Z} {d : Nat} (hd : 0 ≤ d) {x0 : Int32} {σ : fx_S} {q : Bool × fx_S} (h : fm_115 x0 σ = some q) : fx_E z 115 d 0 [some (.int x0)] [] σ (some (.int (fx_b q.1))) q.2 := by
  unfold fm_115 at h
  refine fs_iload_n (k := 0) (p := 1) (by decide +kernel) rfl rfl ?_
  by_cases c5 : x0 < 0
  · rw [if_pos c5] at h
    refine fs_if_lt_t (off := 13) (t := 14) (by decide +kernel) (by decide +kernel) c5 ?_
    refine fs_iconst (n := 0) (p := 15) (by decide +kernel) rfl kc_0 ?_
    have h := Option.some.inj h
    subst h
    exact fs_zret (b := false) (by decide +kernel) rt_115
  · rw [if_neg c5] at h
    refine fs_if_lt_f (off := 13) (t := 14) (p := 4) (by decide +kernel) (by decide +kernel) rfl c5 ?_
    refine fs_iload_n (k := 0) (p := 5) (by decide +kernel) rfl rfl ?_
    refine fs_bipush (n := 8) (p := 7) (by decide +kernel) rfl kb_8 ?_
    by_cases c6 : (8 : Int32) ≤ x0
    · rw [if_pos c6] at h
      refine fs_icmp_ge_t (off := 7) (t := 14) (by decide +kernel) (by decide +kernel) c6 ?_
      refine fs_iconst (n := 0) (p := 15) (by decide +kernel) rfl kc_0 ?_
      have h := Option.some.inj h
      subst h
      exact fs_zret (b := false) (by decide +kernel) rt_115
    · rw [if_neg c6] at h
      refine fs_icmp_ge_f (off := 7) (t := 14) (p := 10) (by decide +kernel) (by decide +kernel) rfl c6 ?_
      refine fs_iconst (n := 1) (p := 11) (by decide +kernel) rfl kc_1 ?_
      refine fs_goto (off := 4) (p := 15) (by decide +kernel) (by decide +kernel) ?_
      have h := Option.some.inj h
      subst h
      exact fs_zret (b := true) (by decide +kernel) rt_115

/-! ZoneShares.isLand(I)Z -/
theorem mx_116 : iv_mx 116 = 1 := by decide +kernel
theorem rt_116 : iv_rt 116 = some .boolean := by decide +kernel
def fm_116 (x0 : Int32) (σ : fx_S) : Option (Bool × fx_S) :=
  if x0 < 0 then (
    some (false, σ)) else (
    if (4 : Int32) ≤ x0 then (
      some (false, σ)) else (
      some (true, σ)))
theorem fe_116 {z : iv_Z} {d : Nat} (hd : 0 ≤ d) {x0 : Int32} {σ : fx_S} {q : Bool × fx_S} (h : fm_116 x0 σ = some q) : fx_E z 116 d 0 [some (.int x0)] [] σ (some (.int (fx_b q.1))) q.2 := by
  unfold fm_116 at h
  refine fs_iload_n (k := 0) (p := 1) (by decide +kernel) rfl rfl ?_
  by_cases c5 : x0 < 0
  · rw [if_pos c5] at h
    refine fs_if_lt_t (off := 12) (t := 13) (by decide +kernel) (by decide +kernel) c5 ?_
    refine fs_iconst (n := 0) (p := 14) (by decide +kernel) rfl kc_0 ?_
    have h := Option.some.inj h
    subst h
    exact fs_zret (b := false) (by decide +kernel) rt_116
  · rw [if_neg c5] at h
    refine fs_if_lt_f (off := 12) (t := 13) (p := 4) (by decide +kernel) (by decide +kernel) rfl c5 ?_
    refine fs_iload_n (k := 0) (p := 5) (by decide +kernel) rfl rfl ?_
    refine fs_iconst (n := 4) (p := 6) (by decide +kernel) rfl kc_4 ?_
    by_cases c6 : (4 : Int32) ≤ x0
    · rw [if_pos c6] at h
      refine fs_icmp_ge_t (off := 7) (t := 13) (by decide +kernel) (by decide +kernel) c6 ?_
      refine fs_iconst (n := 0) (p := 14) (by decide +kernel) rfl kc_0 ?_
      have h := Option.some.inj h
      subst h
      exact fs_zret (b := false) (by decide +kernel) rt_116
    · rw [if_neg c6] at h
      refine fs_icmp_ge_f (off := 7) (t := 13) (p := 9) (by decide +kernel) (by decide +kernel) rfl c6 ?_
      refine fs_iconst (n := 1) (p := 10) (by decide +kernel) rfl kc_1 ?_
      refine fs_goto (off := 4) (p := 14) (by decide +kernel) (by decide +kernel) ?_
      have h := Option.some.inj h
      subst h
      exact fs_zret (b := true) (by decide +kernel) rt_116

/-! ZoneShares.isDistrict(I)Z -/
theorem mx_117 : iv_mx 117 = 1 := by decide +kernel
theorem rt_117 : iv_rt 117 = some .boolean := by decide +kernel
def fm_117 (x0 : Int32) (σ : fx_S) : Option (Bool × fx_S) :=
  if x0 < 0 then (
    some (false, σ)) else (
    if (4 : Int32) ≤ x0 then (
      some (false, σ)) else (
      some (true, σ)))
theorem fe_117 {z : iv_Z} {d : Nat} (hd : 0 ≤ d) {x0 : Int32} {σ : fx_S} {q : Bool × fx_S} (h : fm_117 x0 σ = some q) : fx_E z 117 d 0 [some (.int x0)] [] σ (some (.int (fx_b q.1))) q.2 := by
  unfold fm_117 at h
  refine fs_iload_n (k := 0) (p := 1) (by decide +kernel) rfl rfl ?_
  by_cases c5 : x0 < 0
  · rw [if_pos c5] at h
    refine fs_if_lt_t (off := 12) (t := 13) (by decide +kernel) (by decide +kernel) c5 ?_
    refine fs_iconst (n := 0) (p := 14) (by decide +kernel) rfl kc_0 ?_
    have h := Option.some.inj h
    subst h
    exact fs_zret (b := false) (by decide +kernel) rt_117
  · rw [if_neg c5] at h
    refine fs_if_lt_f (off := 12) (t := 13) (p := 4) (by decide +kernel) (by decide +kernel) rfl c5 ?_
    refine fs_iload_n (k := 0) (p := 5) (by decide +kernel) rfl rfl ?_
    refine fs_iconst (n := 4) (p := 6) (by decide +kernel) rfl kc_4 ?_
    by_cases c6 : (4 : Int32) ≤ x0
    · rw [if_pos c6] at h
      refine fs_icmp_ge_t (off := 7) (t := 13) (by decide +kernel) (by decide +kernel) c6 ?_
      refine fs_iconst (n := 0) (p := 14) (by decide +kernel) rfl kc_0 ?_
      have h := Option.some.inj h
      subst h
      exact fs_zret (b := false) (by decide +kernel) rt_117
    · rw [if_neg c6] at h
      refine fs_icmp_ge_f (off := 7) (t := 13) (p := 9) (by decide +kernel) (by decide +kernel) rfl c6 ?_
      refine fs_iconst (n := 1) (p := 10) (by decide +kernel) rfl kc_1 ?_
      refine fs_goto (off := 4) (p := 14) (by decide +kernel) (by decide +kernel) ?_
      have h := Option.some.inj h
      subst h
      exact fs_zret (b := true) (by decide +kernel) rt_117

/-! ZoneShares.isTarget(II)Z -/
theorem mx_118 : iv_mx 118 = 3 := by decide +kernel
theorem rt_118 : iv_rt 118 = some .boolean := by decide +kernel
def fm_118 (x1 : Int32) (x2 : Int32) (σ : fx_S) : Option (Bool × fx_S) :=
  (fm_114 x1 σ).bind fun q11 =>
  if (fx_b q11.1) = 0 then (
    some (false, q11.2)) else (
    if x2 < 0 then (
      some (false, q11.2)) else (
      if (8 : Int32) < x2 then (
        some (false, q11.2)) else (
        (fm_57 1 q11.2).bind fun q17 =>
        if (fx_b q17.1) = 0 then (
          some (false, q17.2)) else (
          some (true, q17.2)))))
theorem fe_118 {z : iv_Z} {d : Nat} (hd : 1 ≤ d) {x1 : Int32} {x2 : Int32} {σ : fx_S} {q : Bool × fx_S} (h : fm_118 x1 x2 σ = some q) : fx_E z 118 d 0 [some (.ref 0), some (.int x1), some (.int x2)] [] σ (some (.int (fx_b q.1))) q.2 := by
  unfold fm_118 at h
  refine fs_iload_n (k := 1) (p := 1) (by decide +kernel) rfl rfl ?_
  obtain ⟨q11, w10, h⟩ := fx_bd h
  refine fs_callS (idx := 94) (mj := 114) (na := 1) (mx := 1) (p := 4) (args := [.int x1]) (rest := []) (al2 := [some (.int x1)]) (by decide +kernel) rfl (by decide +kernel) rfl rfl rfl rfl rfl rfl rfl (by omega) (fun d' hd' => fe_114 (by omega) w10) rfl ?_
  by_cases c12 : (fx_b q11.1) = 0
  · rw [if_pos c12] at h
    refine fs_if_eq_t (off := 27) (t := 31) (by decide +kernel) (by decide +kernel) c12 ?_
    refine fs_iconst (n := 0) (p := 32) (by decide +kernel) rfl kc_0 ?_
    have h := Option.some.inj h
    subst h
    exact fs_zret (b := false) (by decide +kernel) rt_118
  · rw [if_neg c12] at h
    refine fs_if_eq_f (off := 27) (t := 31) (p := 7) (by decide +kernel) (by decide +kernel) rfl c12 ?_
    refine fs_iload_n (k := 2) (p := 8) (by decide +kernel) rfl rfl ?_
    by_cases c14 : x2 < 0
    · rw [if_pos c14] at h
      refine fs_if_lt_t (off := 23) (t := 31) (by decide +kernel) (by decide +kernel) c14 ?_
      refine fs_iconst (n := 0) (p := 32) (by decide +kernel) rfl kc_0 ?_
      have h := Option.some.inj h
      subst h
      exact fs_zret (b := false) (by decide +kernel) rt_118
    · rw [if_neg c14] at h
      refine fs_if_lt_f (off := 23) (t := 31) (p := 11) (by decide +kernel) (by decide +kernel) rfl c14 ?_
      refine fs_iload_n (k := 2) (p := 12) (by decide +kernel) rfl rfl ?_
      refine fs_bipush (n := 8) (p := 14) (by decide +kernel) rfl kb_8 ?_
      by_cases c15 : (8 : Int32) < x2
      · rw [if_pos c15] at h
        refine fs_icmp_gt_t (off := 17) (t := 31) (by decide +kernel) (by decide +kernel) c15 ?_
        refine fs_iconst (n := 0) (p := 32) (by decide +kernel) rfl kc_0 ?_
        have h := Option.some.inj h
        subst h
        exact fs_zret (b := false) (by decide +kernel) rt_118
      · rw [if_neg c15] at h
        refine fs_icmp_gt_f (off := 17) (t := 31) (p := 17) (by decide +kernel) (by decide +kernel) rfl c15 ?_
        refine fs_aload_n (k := 0) (p := 18) (by decide +kernel) rfl rfl ?_
        refine fs_gfr (idx := 13) (ci := 9) (j := 1) (p := 21) (by decide +kernel) rfl (by decide +kernel) fo_0 (fr_a0_1) ?_
        obtain ⟨q17, w16, h⟩ := fx_bd h
        refine fs_callV (idx := 146) (mj := 57) (ci := 6) (na := 0) (mx := 1) (p := 24) (args := [.ref 1]) (rest := []) (al2 := [some (.ref 1)]) (by decide +kernel) rfl (by decide +kernel) fo_1 rfl rfl rfl rfl rfl rfl rfl (by omega) (fun d' hd' => fe_57 (by omega) w16) rfl ?_
        by_cases c18 : (fx_b q17.1) = 0
        · rw [if_pos c18] at h
          refine fs_if_eq_t (off := 7) (t := 31) (by decide +kernel) (by decide +kernel) c18 ?_
          refine fs_iconst (n := 0) (p := 32) (by decide +kernel) rfl kc_0 ?_
          have h := Option.some.inj h
          subst h
          exact fs_zret (b := false) (by decide +kernel) rt_118
        · rw [if_neg c18] at h
          refine fs_if_eq_f (off := 7) (t := 31) (p := 27) (by decide +kernel) (by decide +kernel) rfl c18 ?_
          refine fs_iconst (n := 1) (p := 28) (by decide +kernel) rfl kc_1 ?_
          refine fs_goto (off := 4) (p := 32) (by decide +kernel) (by decide +kernel) ?_
          have h := Option.some.inj h
          subst h
          exact fs_zret (b := true) (by decide +kernel) rt_118

/-! ZoneShares.forgetTables()V -/
theorem mx_120 : iv_mx 120 = 2 := by decide +kernel
theorem rt_120 : iv_rt 120 = none := by decide +kernel
def fm_120_2 : Nat → Int32 → fx_S → Option (fx_S)
  | 0, _, _ => none
  | n + 1, x1, σ =>
    if (3 : Int32) ≤ x1 then (
      some σ) else (
      (fx_ldr 4 70 x1).bind fun v3 =>
      fm_120_2 n (x1 + (1 : Int32)) (fx_w1 σ v3 8 (0 : Int32)))
theorem fe_120_2 {z : iv_Z} {d : Nat} (hd : 0 ≤ d) : ∀ (n : Nat) (x1 : Int32) (σ : fx_S) (q : fx_S), fm_120_2 n x1 σ = some q → fx_E z 120 d 2 [some (.ref 0), some (.int x1)] [] σ none q := by
  intro n
  induction n with
  | zero =>
    intro x1 σ q  h
    rw [fm_120_2] at h
    exact fx_no h
  | succ n ih =>
    intro x1 σ q  h
    rw [fm_120_2] at h
    refine fs_iload_n (k := 1) (p := 3) (by decide +kernel) rfl rfl ?_
    refine fs_iconst (n := 3) (p := 4) (by decide +kernel) rfl kc_3 ?_
    by_cases c2 : (3 : Int32) ≤ x1
    · rw [if_pos c2] at h
      refine fs_icmp_ge_t (off := 19) (t := 23) (by decide +kernel) (by decide +kernel) c2 ?_
      have h := Option.some.inj h
      subst h
      exact fs_ret (by decide +kernel) rt_120
    · rw [if_neg c2] at h
      refine fs_icmp_ge_f (off := 19) (t := 23) (p := 7) (by decide +kernel) (by decide +kernel) rfl c2 ?_
      refine fs_aload_n (k := 0) (p := 8) (by decide +kernel) rfl rfl ?_
      refine fs_gfr (idx := 60) (ci := 9) (j := 6) (p := 11) (by decide +kernel) rfl (by decide +kernel) fo_0 (fr_a0_6) ?_
      refine fs_iload_n (k := 1) (p := 12) (by decide +kernel) rfl rfl ?_
      obtain ⟨v3, w4, h⟩ := fx_bd h
      have g5 := fa_70 w4
      refine fs_aaload (t := 4) (p := 13) (by decide +kernel) rfl (by decide +kernel) w4 ?_
      refine fs_iconst (n := 0) (p := 14) (by decide +kernel) rfl kc_0 ?_
      refine fs_pfi (idx := 313) (ci := 2) (j := 8) (p := 17) (by decide +kernel) rfl (by decide +kernel) (by decide +kernel) g5 (fx_oki _ (by decide +kernel)) ?_
      refine fs_iinc (k := 1) (n := 1) (p := 20) (M := 2) (al' := [some (.ref 0), some (.int (x1 + (1 : Int32)))]) (by decide +kernel) rfl kc_1 mx_120 rfl rfl rfl ?_
      refine fs_goto (off := -18) (p := 2) (by decide +kernel) (by decide +kernel) ?_
      exact ih _ _ _ h
def fm_120 (σ : fx_S) : Option (fx_S) :=
  fm_120_2 100000 (0 : Int32) σ
theorem fe_120 {z : iv_Z} {d : Nat} (hd : 0 ≤ d) {σ : fx_S} {q : fx_S} (h : fm_120 σ = some q) : fx_E z 120 d 0 [some (.ref 0), none] [] σ none q := by
  unfold fm_120 at h
  refine fs_iconst (n := 0) (p := 1) (by decide +kernel) rfl kc_0 ?_
  refine fs_istore_n (k := 1) (p := 2) (M := 2) (al' := [some (.ref 0), some (.int (0 : Int32))]) (by decide +kernel) rfl mx_120 rfl rfl ?_
  exact fe_120_2 hd 100000 _ _ _ h

/-! ZoneShares.adoptCounts(I)I -/
theorem mx_122 : iv_mx 122 = 6 := by decide +kernel
theorem rt_122 : iv_rt 122 = some .int := by decide +kernel
def fm_122_12 : Nat → Int32 → Nat → Int32 → Int32 → fx_S → Option (Int32 × fx_S)
  | 0, _, _, _, _, _ => none
  | n + 1, x1, x2, x3, x4, σ =>
    if (8 : Int32) ≤ x4 then (
      (fm_76 (x2 + 3) (8 : Int32) σ).bind fun q4 =>
      (fx_st q4.2 3 ((x1 * (9 : Int32)) + (8 : Int32)) (q4.1 + (q4.2.1 x2 7))).bind fun t5 =>
      some (x3, t5)) else (
      (fm_76 (x2 + 3) x4 σ).bind fun q9 =>
      (fx_st q9.2 3 ((x1 * (9 : Int32)) + x4) q9.1).bind fun t10 =>
      fm_122_12 n x1 x2 (x3 + q9.1) (x4 + (1 : Int32)) t10)
theorem fe_122_12 {z : iv_Z} {d : Nat} (hd : 1 ≤ d) : ∀ (n : Nat) (x1 : Int32) (x2 : Nat) (x3 : Int32) (x4 : Int32) (o5 : Option Value) (σ : fx_S) (q : Int32 × fx_S) (g2 : fx_oc x2 2 = true), fm_122_12 n x1 x2 x3 x4 σ = some q → fx_E z 122 d 12 [some (.ref 0), some (.int x1), some (.ref x2), some (.int x3), some (.int x4), o5] [] σ (some (.int q.1)) q.2 := by
  intro n
  induction n with
  | zero =>
    intro x1 x2 x3 x4 o5 σ q g2 h
    rw [fm_122_12] at h
    exact fx_no h
  | succ n ih =>
    intro x1 x2 x3 x4 o5 σ q g2 h
    rw [fm_122_12] at h
    refine fs_iload (k := 4) (p := 14) (by decide +kernel) rfl rfl ?_
    refine fs_bipush (n := 8) (p := 16) (by decide +kernel) rfl kb_8 ?_
    by_cases c2 : (8 : Int32) ≤ x4
    · rw [if_pos c2] at h
      refine fs_icmp_ge_t (off := 42) (t := 58) (by decide +kernel) (by decide +kernel) c2 ?_
      refine fs_aload_n (k := 0) (p := 59) (by decide +kernel) rfl rfl ?_
      refine fs_gfr (idx := 13) (ci := 9) (j := 1) (p := 62) (by decide +kernel) rfl (by decide +kernel) fo_0 (fr_a0_1) ?_
      refine fs_gfr (idx := 103) (ci := 6) (j := 1) (p := 65) (by decide +kernel) rfl (by decide +kernel) fo_1 (fr_a1_1) ?_
      refine fs_iload_n (k := 1) (p := 66) (by decide +kernel) rfl rfl ?_
      refine fs_bipush (n := 9) (p := 68) (by decide +kernel) rfl kb_9 ?_
      refine fs_imul (p := 69) (by decide +kernel) rfl ?_
      refine fs_bipush (n := 8) (p := 71) (by decide +kernel) rfl kb_8 ?_
      refine fs_iadd (p := 72) (by decide +kernel) rfl ?_
      refine fs_aload_n (k := 2) (p := 73) (by decide +kernel) rfl rfl ?_
      refine fs_gfr (idx := 202) (ci := 2) (j := 2) (p := 76) (by decide +kernel) rfl (by decide +kernel) g2 (fr_2_2 g2) ?_
      refine fs_bipush (n := 8) (p := 78) (by decide +kernel) rfl kb_8 ?_
      obtain ⟨q4, w3, h⟩ := fx_bd h
      refine fs_callV (idx := 237) (mj := 76) (ci := 7) (na := 1) (mx := 4) (p := 81) (args := [.ref (x2 + 3), .int (8 : Int32)]) (rest := [.int ((x1 * (9 : Int32)) + (8 : Int32)), .ref 3]) (al2 := [some (.ref (x2 + 3)), some (.int (8 : Int32)), none, none]) (by decide +kernel) rfl (by decide +kernel) (fg_2_2 g2) rfl rfl rfl rfl rfl rfl rfl (by omega) (fun d' hd' => fe_76 (by omega) w3) rfl ?_
      refine fs_aload_n (k := 2) (p := 82) (by decide +kernel) rfl rfl ?_
      refine fs_gfi (idx := 196) (ci := 2) (j := 7) (p := 85) (by decide +kernel) rfl (by decide +kernel) g2 ?_
      refine fs_iadd (p := 86) (by decide +kernel) rfl ?_
      obtain ⟨t5, w6, h⟩ := fx_bd h
      refine fs_iastore (p := 87) (by decide +kernel) rfl w6 ?_
      refine fs_iload_n (k := 3) (p := 88) (by decide +kernel) rfl rfl ?_
      have h := Option.some.inj h
      subst h
      exact fs_iret (by decide +kernel) rt_122
    · rw [if_neg c2] at h
      refine fs_icmp_ge_f (off := 42) (t := 58) (p := 19) (by decide +kernel) (by decide +kernel) rfl c2 ?_
      refine fs_aload_n (k := 2) (p := 20) (by decide +kernel) rfl rfl ?_
      refine fs_gfr (idx := 202) (ci := 2) (j := 2) (p := 23) (by decide +kernel) rfl (by decide +kernel) g2 (fr_2_2 g2) ?_
      refine fs_iload (k := 4) (p := 25) (by decide +kernel) rfl rfl ?_
      obtain ⟨q9, w8, h⟩ := fx_bd h
      refine fs_callV (idx := 237) (mj := 76) (ci := 7) (na := 1) (mx := 4) (p := 28) (args := [.ref (x2 + 3), .int x4]) (rest := []) (al2 := [some (.ref (x2 + 3)), some (.int x4), none, none]) (by decide +kernel) rfl (by decide +kernel) (fg_2_2 g2) rfl rfl rfl rfl rfl rfl rfl (by omega) (fun d' hd' => fe_76 (by omega) w8) rfl ?_
      refine fs_istore (k := 5) (p := 30) (M := 6) (al' := [some (.ref 0), some (.int x1), some (.ref x2), some (.int x3), some (.int x4), some (.int q9.1)]) (by decide +kernel) rfl mx_122 rfl rfl ?_
      refine fs_aload_n (k := 0) (p := 31) (by decide +kernel) rfl rfl ?_
      refine fs_gfr (idx := 13) (ci := 9) (j := 1) (p := 34) (by decide +kernel) rfl (by decide +kernel) fo_0 (fr_a0_1) ?_
      refine fs_gfr (idx := 103) (ci := 6) (j := 1) (p := 37) (by decide +kernel) rfl (by decide +kernel) fo_1 (fr_a1_1) ?_
      refine fs_iload_n (k := 1) (p := 38) (by decide +kernel) rfl rfl ?_
      refine fs_bipush (n := 9) (p := 40) (by decide +kernel) rfl kb_9 ?_
      refine fs_imul (p := 41) (by decide +kernel) rfl ?_
      refine fs_iload (k := 4) (p := 43) (by decide +kernel) rfl rfl ?_
      refine fs_iadd (p := 44) (by decide +kernel) rfl ?_
      refine fs_iload (k := 5) (p := 46) (by decide +kernel) rfl rfl ?_
      obtain ⟨t10, w11, h⟩ := fx_bd h
      refine fs_iastore (p := 47) (by decide +kernel) rfl w11 ?_
      refine fs_iload_n (k := 3) (p := 48) (by decide +kernel) rfl rfl ?_
      refine fs_iload (k := 5) (p := 50) (by decide +kernel) rfl rfl ?_
      refine fs_iadd (p := 51) (by decide +kernel) rfl ?_
      refine fs_istore_n (k := 3) (p := 52) (M := 6) (al' := [some (.ref 0), some (.int x1), some (.ref x2), some (.int (x3 + q9.1)), some (.int x4), some (.int q9.1)]) (by decide +kernel) rfl mx_122 rfl rfl ?_
      refine fs_iinc (k := 4) (n := 1) (p := 55) (M := 6) (al' := [some (.ref 0), some (.int x1), some (.ref x2), some (.int (x3 + q9.1)), some (.int (x4 + (1 : Int32))), some (.int q9.1)]) (by decide +kernel) rfl kc_1 mx_122 rfl rfl rfl ?_
      refine fs_goto (off := -43) (p := 12) (by decide +kernel) (by decide +kernel) ?_
      exact ih _ _ _ _ _ _ _ g2 h
def fm_122 (x1 : Int32) (σ : fx_S) : Option (Int32 × fx_S) :=
  (fx_ldr 4 70 x1).bind fun v29 =>
  fm_122_12 100000 x1 v29 (0 : Int32) (0 : Int32) σ
theorem fe_122 {z : iv_Z} {d : Nat} (hd : 1 ≤ d) {x1 : Int32} {σ : fx_S} {q : Int32 × fx_S} (h : fm_122 x1 σ = some q) : fx_E z 122 d 0 [some (.ref 0), some (.int x1), none, none, none, none] [] σ (some (.int q.1)) q.2 := by
  unfold fm_122 at h
  refine fs_aload_n (k := 0) (p := 1) (by decide +kernel) rfl rfl ?_
  refine fs_gfr (idx := 60) (ci := 9) (j := 6) (p := 4) (by decide +kernel) rfl (by decide +kernel) fo_0 (fr_a0_6) ?_
  refine fs_iload_n (k := 1) (p := 5) (by decide +kernel) rfl rfl ?_
  obtain ⟨v29, w30, h⟩ := fx_bd h
  have g31 := fa_70 w30
  refine fs_aaload (t := 4) (p := 6) (by decide +kernel) rfl (by decide +kernel) w30 ?_
  refine fs_astore_n (k := 2) (p := 7) (M := 6) (al' := [some (.ref 0), some (.int x1), some (.ref v29), none, none, none]) (by decide +kernel) rfl mx_122 rfl rfl ?_
  refine fs_iconst (n := 0) (p := 8) (by decide +kernel) rfl kc_0 ?_
  refine fs_istore_n (k := 3) (p := 9) (M := 6) (al' := [some (.ref 0), some (.int x1), some (.ref v29), some (.int (0 : Int32)), none, none]) (by decide +kernel) rfl mx_122 rfl rfl ?_
  refine fs_iconst (n := 0) (p := 10) (by decide +kernel) rfl kc_0 ?_
  refine fs_istore (k := 4) (p := 12) (M := 6) (al' := [some (.ref 0), some (.int x1), some (.ref v29), some (.int (0 : Int32)), some (.int (0 : Int32)), none]) (by decide +kernel) rfl mx_122 rfl rfl ?_
  exact fe_122_12 hd 100000 _ _ _ _ _ _ _ g31 h

/-! ZoneShares.gcd(JJ)J -/
theorem mx_128 : iv_mx 128 = 11 := by decide +kernel
theorem rt_128 : iv_rt 128 = some .long := by decide +kernel
def fm_128_44 (x4 : Int64) (σ : fx_S) : Option (Int64 × fx_S) :=
  some (x4, σ)
theorem fe_128_44 {z : iv_Z} {d : Nat} (hd : 0 ≤ d) (x4 : Int64) (o0 : Option Value) (o2 : Option Value) (o6 : Option Value) (o8 : Option Value) (o9 : Option Value) (σ : fx_S) (q : Int64 × fx_S) (h : fm_128_44  x4 σ = some q) : fx_E z 128 d 44 [o0, none, o2, none, some (.long x4), none, o6, none, o8, o9, none] [] σ (some (.long q.1)) q.2 := by
  unfold fm_128_44 at h
  refine fs_lload (k := 4) (p := 46) (by decide +kernel) rfl rfl ?_
  have h := Option.some.inj h
  subst h
  exact fs_lret (by decide +kernel) rt_128
def fm_128_9 : Nat → Int64 → Int64 → Int32 → fx_S → Option (Int64 × fx_S)
  | 0, _, _, _, _ => none
  | n + 1, x4, x6, x8, σ =>
    if (100 : Int32) ≤ x8 then (
      fm_128_44 x4 σ) else (
      if x6 = (0 : Int64) then (
        fm_128_44 x4 σ) else (
        if ¬ x6 = 0 then (
        fm_128_9 n x6 (x4 - x4 / x6 * x6) (x8 + (1 : Int32)) σ) else none))
theorem fe_128_9 {z : iv_Z} {d : Nat} (hd : 0 ≤ d) : ∀ (n : Nat) (x4 : Int64) (x6 : Int64) (x8 : Int32) (o0 : Option Value) (o2 : Option Value) (o9 : Option Value) (σ : fx_S) (q : Int64 × fx_S), fm_128_9 n x4 x6 x8 σ = some q → fx_E z 128 d 9 [o0, none, o2, none, some (.long x4), none, some (.long x6), none, some (.int x8), o9, none] [] σ (some (.long q.1)) q.2 := by
  intro n
  induction n with
  | zero =>
    intro x4 x6 x8 o0 o2 o9 σ q  h
    rw [fm_128_9] at h
    exact fx_no h
  | succ n ih =>
    intro x4 x6 x8 o0 o2 o9 σ q  h
    rw [fm_128_9] at h
    refine fs_iload (k := 8) (p := 11) (by decide +kernel) rfl rfl ?_
    refine fs_bipush (n := 100) (p := 13) (by decide +kernel) rfl kb_100 ?_
    by_cases c2 : (100 : Int32) ≤ x8
    · rw [if_pos c2] at h
      refine fs_icmp_ge_t (off := 31) (t := 44) (by decide +kernel) (by decide +kernel) c2 ?_
      exact fe_128_44 hd _ _ _ _ _ _ _ _ h
    · rw [if_neg c2] at h
      refine fs_icmp_ge_f (off := 31) (t := 44) (p := 16) (by decide +kernel) (by decide +kernel) rfl c2 ?_
      refine fs_lload (k := 6) (p := 18) (by decide +kernel) rfl rfl ?_
      refine fs_lconst (n := 0) (p := 19) (by decide +kernel) rfl kl_0 ?_
      by_cases c4 : x6 = (0 : Int64)
      · rw [if_pos c4] at h
        refine fs_lcmp_eq_t (off := 24) (t := 44) (by decide +kernel) (by decide +kernel) (by decide +kernel) c4 ?_
        exact fe_128_44 hd _ _ _ _ _ _ _ _ h
      · rw [if_neg c4] at h
        refine fs_lcmp_eq_f (off := 24) (t := 44) (p := 23) (by decide +kernel) (by decide +kernel) (by decide +kernel) rfl c4 ?_
        refine fs_lload (k := 4) (p := 25) (by decide +kernel) rfl rfl ?_
        refine fs_lload (k := 6) (p := 27) (by decide +kernel) rfl rfl ?_
        obtain ⟨z6, h⟩ := fx_gd h
        refine fs_lrem (p := 28) (by decide +kernel) rfl z6 ?_
        refine fs_lstore (k := 9) (p := 30) (M := 11) (al' := [o0, none, o2, none, some (.long x4), none, some (.long x6), none, some (.int x8), some (.long (x4 - x4 / x6 * x6)), none]) (by decide +kernel) rfl mx_128 rfl rfl ?_
        refine fs_lload (k := 6) (p := 32) (by decide +kernel) rfl rfl ?_
        refine fs_lstore (k := 4) (p := 34) (M := 11) (al' := [o0, none, o2, none, some (.long x6), none, some (.long x6), none, some (.int x8), some (.long (x4 - x4 / x6 * x6)), none]) (by decide +kernel) rfl mx_128 rfl rfl ?_
        refine fs_lload (k := 9) (p := 36) (by decide +kernel) rfl rfl ?_
        refine fs_lstore (k := 6) (p := 38) (M := 11) (al' := [o0, none, o2, none, some (.long x6), none, some (.long (x4 - x4 / x6 * x6)), none, some (.int x8), some (.long (x4 - x4 / x6 * x6)), none]) (by decide +kernel) rfl mx_128 rfl rfl ?_
        refine fs_iinc (k := 8) (n := 1) (p := 41) (M := 11) (al' := [o0, none, o2, none, some (.long x6), none, some (.long (x4 - x4 / x6 * x6)), none, some (.int (x8 + (1 : Int32))), some (.long (x4 - x4 / x6 * x6)), none]) (by decide +kernel) rfl kc_1 mx_128 rfl rfl rfl ?_
        refine fs_goto (off := -32) (p := 9) (by decide +kernel) (by decide +kernel) ?_
        exact ih _ _ _ _ _ _ _ _ h
def fm_128 (x0 : Int64) (x2 : Int64) (σ : fx_S) : Option (Int64 × fx_S) :=
  fm_128_9 100000 x0 x2 (0 : Int32) σ
theorem fe_128 {z : iv_Z} {d : Nat} (hd : 0 ≤ d) {x0 : Int64} {x2 : Int64} {σ : fx_S} {q : Int64 × fx_S} (h : fm_128 x0 x2 σ = some q) : fx_E z 128 d 0 [some (.long x0), none, some (.long x2), none, none, none, none, none, none, none, none] [] σ (some (.long q.1)) q.2 := by
  unfold fm_128 at h
  refine fs_lload_n (k := 0) (p := 1) (by decide +kernel) rfl rfl ?_
  refine fs_lstore (k := 4) (p := 3) (M := 11) (al' := [some (.long x0), none, some (.long x2), none, some (.long x0), none, none, none, none, none, none]) (by decide +kernel) rfl mx_128 rfl rfl ?_
  refine fs_lload_n (k := 2) (p := 4) (by decide +kernel) rfl rfl ?_
  refine fs_lstore (k := 6) (p := 6) (M := 11) (al' := [some (.long x0), none, some (.long x2), none, some (.long x0), none, some (.long x2), none, none, none, none]) (by decide +kernel) rfl mx_128 rfl rfl ?_
  refine fs_iconst (n := 0) (p := 7) (by decide +kernel) rfl kc_0 ?_
  refine fs_istore (k := 8) (p := 9) (M := 11) (al' := [some (.long x0), none, some (.long x2), none, some (.long x0), none, some (.long x2), none, some (.int (0 : Int32)), none, none]) (by decide +kernel) rfl mx_128 rfl rfl ?_
  exact fe_128_9 hd 100000 _ _ _ _ _ _ _ _ h

