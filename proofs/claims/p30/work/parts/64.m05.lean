/-! ZoneShares$Rounder.findWay(II)Z -/
theorem mx_46 : iv_mx 46 = 5 := by decide +kernel
theorem rt_46 : iv_rt 46 = some .boolean := by decide +kernel
def fm_46_92 (x2 : Int32) (σ : fx_S) : Option (Bool × fx_S) :=
  (fx_ld σ 12 x2).bind fun v1 =>
  if v1 = (-1 : Int32) then (
    some (false, σ)) else (
    some (true, σ))
theorem fe_46_92 {d : Nat} (hd : 2 ≤ d) (x2 : Int32) (o1 : Option Value) (o3 : Option Value) (o4 : Option Value) (σ : fx_S) (q : Bool × fx_S) (h : fm_46_92  x2 σ = some q) : fx_E none 46 d 92 [some (.ref 6), o1, some (.int x2), o3, o4] [] σ (some (.int (fx_b q.1))) q.2 := by
  unfold fm_46_92 at h
  refine fs_aload_n (k := 0) (p := 93) (by decide +kernel) rfl rfl ?_
  refine fs_gfr (idx := 27) (ci := 5) (j := 5) (p := 96) (by decide +kernel) rfl (by decide +kernel) fo_6 (fr_a6_5) ?_
  refine fs_iload_n (k := 2) (p := 97) (by decide +kernel) rfl rfl ?_
  obtain ⟨v1, e2, h⟩ := fx_bd h
  refine fs_iaload (p := 98) (by decide +kernel) rfl e2 ?_
  refine fs_iconst (n := -1) (p := 99) (by decide +kernel) rfl kc_m1 ?_
  by_cases c3 : v1 = (-1 : Int32)
  · rw [if_pos c3] at h
    refine fs_icmp_eq_t (off := 7) (t := 106) (by decide +kernel) (by decide +kernel) c3 ?_
    refine fs_iconst (n := 0) (p := 107) (by decide +kernel) rfl kc_0 ?_
    have h := Option.some.inj h
    subst h
    exact fs_zret (b := false) (by decide +kernel) rt_46
  · rw [if_neg c3] at h
    refine fs_icmp_eq_f (off := 7) (t := 106) (p := 102) (by decide +kernel) (by decide +kernel) rfl c3 ?_
    refine fs_iconst (n := 1) (p := 103) (by decide +kernel) rfl kc_1 ?_
    refine fs_goto (off := 4) (p := 107) (by decide +kernel) (by decide +kernel) ?_
    have h := Option.some.inj h
    subst h
    exact fs_zret (b := true) (by decide +kernel) rt_46
def fm_46_86 (k_21 : Int32 → Int32 → fx_S → Option (Bool × fx_S)) (x2 : Int32) (x3 : Int32) (σ : fx_S) : Option (Bool × fx_S) :=
  k_21 x2 (x3 + (1 : Int32)) σ
theorem fe_46_86 {d : Nat} (hd : 2 ≤ d) {k_21 : Int32 → Int32 → fx_S → Option (Bool × fx_S)} (hk_21 : ∀ (x2 : Int32) (x3 : Int32) (o1 : Option Value) (o4 : Option Value) (σ : fx_S) (q : Bool × fx_S), k_21 x2 x3 σ = some q → fx_E none 46 d 21 [some (.ref 6), o1, some (.int x2), some (.int x3), o4] [] σ (some (.int (fx_b q.1))) q.2) (x2 : Int32) (x3 : Int32) (o1 : Option Value) (o4 : Option Value) (σ : fx_S) (q : Bool × fx_S) (h : fm_46_86 k_21  x2 x3 σ = some q) : fx_E none 46 d 86 [some (.ref 6), o1, some (.int x2), some (.int x3), o4] [] σ (some (.int (fx_b q.1))) q.2 := by
  unfold fm_46_86 at h
  refine fs_iinc (k := 3) (n := 1) (p := 89) (M := 5) (al' := [some (.ref 6), o1, some (.int x2), some (.int (x3 + (1 : Int32))), o4]) (by decide +kernel) rfl kc_1 mx_46 rfl rfl rfl ?_
  refine fs_goto (off := -68) (p := 21) (by decide +kernel) (by decide +kernel) ?_
  exact hk_21 _ _ _ _ _ _ h
def fm_46_21 : Nat → Int32 → Int32 → fx_S → Option (Bool × fx_S)
  | 0, _, _, _ => none
  | n + 1, x2, x3, σ =>
    if (σ.1 6 7) ≤ x3 then (
      fm_46_92 x2 σ) else (
      (fx_ld σ 12 x2).bind fun v2 =>
      if ¬ v2 = (-1 : Int32) then (
        fm_46_92 x2 σ) else (
        (fx_ld σ 13 x3).bind fun v5 =>
        if (8 : Int32) ≤ v5 then (
          if (17 : Int32) ≤ v5 then (
            (fm_50 σ).bind fun q10 =>
            fm_46_86 (fm_46_21 n) x2 x3 q10) else (
            (fm_49 (v5 - (8 : Int32)) σ).bind fun q12 =>
            fm_46_86 (fm_46_21 n) x2 x3 q12)) else (
          (fm_48 v5 σ).bind fun q14 =>
          fm_46_86 (fm_46_21 n) x2 x3 q14)))
theorem fe_46_21 {d : Nat} (hd : 2 ≤ d) : ∀ (n : Nat) (x2 : Int32) (x3 : Int32) (o1 : Option Value) (o4 : Option Value) (σ : fx_S) (q : Bool × fx_S), fm_46_21 n x2 x3 σ = some q → fx_E none 46 d 21 [some (.ref 6), o1, some (.int x2), some (.int x3), o4] [] σ (some (.int (fx_b q.1))) q.2 := by
  intro n
  induction n with
  | zero =>
    intro x2 x3 o1 o4 σ q  h
    rw [fm_46_21] at h
    exact fx_no h
  | succ n ih =>
    intro x2 x3 o1 o4 σ q  h
    rw [fm_46_21] at h
    refine fs_iload_n (k := 3) (p := 22) (by decide +kernel) rfl rfl ?_
    refine fs_aload_n (k := 0) (p := 23) (by decide +kernel) rfl rfl ?_
    refine fs_gfi (idx := 90) (ci := 5) (j := 7) (p := 26) (by decide +kernel) rfl (by decide +kernel) fo_6 ?_
    by_cases c1 : (σ.1 6 7) ≤ x3
    · rw [if_pos c1] at h
      refine fs_icmp_ge_t (off := 66) (t := 92) (by decide +kernel) (by decide +kernel) c1 ?_
      exact fe_46_92 hd _ _ _ _ _ _ h
    · rw [if_neg c1] at h
      refine fs_icmp_ge_f (off := 66) (t := 92) (p := 29) (by decide +kernel) (by decide +kernel) rfl c1 ?_
      refine fs_aload_n (k := 0) (p := 30) (by decide +kernel) rfl rfl ?_
      refine fs_gfr (idx := 27) (ci := 5) (j := 5) (p := 33) (by decide +kernel) rfl (by decide +kernel) fo_6 (fr_a6_5) ?_
      refine fs_iload_n (k := 2) (p := 34) (by decide +kernel) rfl rfl ?_
      obtain ⟨v2, e3, h⟩ := fx_bd h
      refine fs_iaload (p := 35) (by decide +kernel) rfl e3 ?_
      refine fs_iconst (n := -1) (p := 36) (by decide +kernel) rfl kc_m1 ?_
      by_cases c4 : ¬ v2 = (-1 : Int32)
      · rw [if_pos c4] at h
        refine fs_icmp_ne_t (off := 56) (t := 92) (by decide +kernel) (by decide +kernel) c4 ?_
        exact fe_46_92 hd _ _ _ _ _ _ h
      · rw [if_neg c4] at h
        refine fs_icmp_ne_f (off := 56) (t := 92) (p := 39) (by decide +kernel) (by decide +kernel) rfl c4 ?_
        refine fs_aload_n (k := 0) (p := 40) (by decide +kernel) rfl rfl ?_
        refine fs_gfr (idx := 30) (ci := 5) (j := 6) (p := 43) (by decide +kernel) rfl (by decide +kernel) fo_6 (fr_a6_6) ?_
        refine fs_iload_n (k := 3) (p := 44) (by decide +kernel) rfl rfl ?_
        obtain ⟨v5, e6, h⟩ := fx_bd h
        refine fs_iaload (p := 45) (by decide +kernel) rfl e6 ?_
        refine fs_istore (k := 4) (p := 47) (M := 5) (al' := [some (.ref 6), o1, some (.int x2), some (.int x3), some (.int v5)]) (by decide +kernel) rfl mx_46 rfl rfl ?_
        refine fs_iload (k := 4) (p := 49) (by decide +kernel) rfl rfl ?_
        refine fs_bipush (n := 8) (p := 51) (by decide +kernel) rfl kb_8 ?_
        by_cases c7 : (8 : Int32) ≤ v5
        · rw [if_pos c7] at h
          refine fs_icmp_ge_t (off := 12) (t := 63) (by decide +kernel) (by decide +kernel) c7 ?_
          refine fs_iload (k := 4) (p := 65) (by decide +kernel) rfl rfl ?_
          refine fs_bipush (n := 17) (p := 67) (by decide +kernel) rfl kb_17 ?_
          by_cases c8 : (17 : Int32) ≤ v5
          · rw [if_pos c8] at h
            refine fs_icmp_ge_t (off := 15) (t := 82) (by decide +kernel) (by decide +kernel) c8 ?_
            refine fs_aload_n (k := 0) (p := 83) (by decide +kernel) rfl rfl ?_
            obtain ⟨q10, e9, h⟩ := fx_bd h
            refine fs_callV (idx := 103) (mj := 50) (ci := 5) (na := 0) (mx := 2) (p := 86) (args := [.ref 6]) (rest := []) (al2 := [some (.ref 6), none]) (by decide +kernel) rfl (by decide +kernel) fo_6 rfl rfl rfl rfl rfl rfl rfl (by omega) (fun d' hd' => fe_50 (by omega) e9) rfl ?_
            exact fe_46_86 hd ih _ _ _ _ _ _ h
          · rw [if_neg c8] at h
            refine fs_icmp_ge_f (off := 15) (t := 82) (p := 70) (by decide +kernel) (by decide +kernel) rfl c8 ?_
            refine fs_aload_n (k := 0) (p := 71) (by decide +kernel) rfl rfl ?_
            refine fs_iload (k := 4) (p := 73) (by decide +kernel) rfl rfl ?_
            refine fs_bipush (n := 8) (p := 75) (by decide +kernel) rfl kb_8 ?_
            refine fs_isub (p := 76) (by decide +kernel) rfl ?_
            obtain ⟨q12, e11, h⟩ := fx_bd h
            refine fs_callV (idx := 100) (mj := 49) (ci := 5) (na := 1) (mx := 4) (p := 79) (args := [.ref 6, .int (v5 - (8 : Int32))]) (rest := []) (al2 := [some (.ref 6), some (.int (v5 - (8 : Int32))), none, none]) (by decide +kernel) rfl (by decide +kernel) fo_6 rfl rfl rfl rfl rfl rfl rfl (by omega) (fun d' hd' => fe_49 (by omega) e11) rfl ?_
            refine fs_goto (off := 7) (p := 86) (by decide +kernel) (by decide +kernel) ?_
            exact fe_46_86 hd ih _ _ _ _ _ _ h
        · rw [if_neg c7] at h
          refine fs_icmp_ge_f (off := 12) (t := 63) (p := 54) (by decide +kernel) (by decide +kernel) rfl c7 ?_
          refine fs_aload_n (k := 0) (p := 55) (by decide +kernel) rfl rfl ?_
          refine fs_iload (k := 4) (p := 57) (by decide +kernel) rfl rfl ?_
          obtain ⟨q14, e13, h⟩ := fx_bd h
          refine fs_callV (idx := 97) (mj := 48) (ci := 5) (na := 1) (mx := 4) (p := 60) (args := [.ref 6, .int v5]) (rest := []) (al2 := [some (.ref 6), some (.int v5), none, none]) (by decide +kernel) rfl (by decide +kernel) fo_6 rfl rfl rfl rfl rfl rfl rfl (by omega) (fun d' hd' => fe_48 (by omega) e13) rfl ?_
          refine fs_goto (off := 26) (p := 86) (by decide +kernel) (by decide +kernel) ?_
          exact fe_46_86 hd ih _ _ _ _ _ _ h
def fm_46 (x1 : Int32) (x2 : Int32) (σ : fx_S) : Option (Bool × fx_S) :=
  (fm_235 12 (-1 : Int32) σ).bind fun q40 =>
  (fm_47 x1 x1 (fx_w1 q40 6 7 (0 : Int32))).bind fun q42 =>
  fm_46_21 100000 x2 (0 : Int32) q42
theorem fe_46 {d : Nat} (hd : 2 ≤ d) {x1 : Int32} {x2 : Int32} {σ : fx_S} {q : Bool × fx_S} (h : fm_46 x1 x2 σ = some q) : fx_E none 46 d 0 [some (.ref 6), some (.int x1), some (.int x2), none, none] [] σ (some (.int (fx_b q.1))) q.2 := by
  unfold fm_46 at h
  refine fs_aload_n (k := 0) (p := 1) (by decide +kernel) rfl rfl ?_
  refine fs_gfr (idx := 27) (ci := 5) (j := 5) (p := 4) (by decide +kernel) rfl (by decide +kernel) fo_6 (fr_a6_5) ?_
  refine fs_iconst (n := -1) (p := 5) (by decide +kernel) rfl kc_m1 ?_
  obtain ⟨q40, e39, h⟩ := fx_bd h
  refine fs_callS (idx := 84) (mj := 235) (na := 2) (mx := 4) (p := 8) (args := [.ref 12, .int (-1 : Int32)]) (rest := []) (al2 := [some (.ref 12), some (.int (-1 : Int32)), none, none]) (by decide +kernel) rfl (by decide +kernel) rfl rfl rfl rfl rfl rfl rfl (by omega) (fun d' hd' => fe_235 (by omega) e39) rfl ?_
  refine fs_aload_n (k := 0) (p := 9) (by decide +kernel) rfl rfl ?_
  refine fs_iconst (n := 0) (p := 10) (by decide +kernel) rfl kc_0 ?_
  refine fs_pfi (idx := 90) (ci := 5) (j := 7) (p := 13) (by decide +kernel) rfl (by decide +kernel) (by decide +kernel) fo_6 (fx_oki _ (by decide +kernel)) ?_
  refine fs_aload_n (k := 0) (p := 14) (by decide +kernel) rfl rfl ?_
  refine fs_iload_n (k := 1) (p := 15) (by decide +kernel) rfl rfl ?_
  refine fs_iload_n (k := 1) (p := 16) (by decide +kernel) rfl rfl ?_
  obtain ⟨q42, e41, h⟩ := fx_bd h
  refine fs_callV (idx := 94) (mj := 47) (ci := 5) (na := 2) (mx := 3) (p := 19) (args := [.ref 6, .int x1, .int x1]) (rest := []) (al2 := [some (.ref 6), some (.int x1), some (.int x1)]) (by decide +kernel) rfl (by decide +kernel) fo_6 rfl rfl rfl rfl rfl rfl rfl (by omega) (fun d' hd' => fe_47 (by omega) e41) rfl ?_
  refine fs_iconst (n := 0) (p := 20) (by decide +kernel) rfl kc_0 ?_
  refine fs_istore_n (k := 3) (p := 21) (M := 5) (al' := [some (.ref 6), some (.int x1), some (.int x2), some (.int (0 : Int32)), none]) (by decide +kernel) rfl mx_46 rfl rfl ?_
  exact fe_46_21 hd 100000 _ _ _ _ _ _ h

/-! ZoneShares$Rounder.turnWay(II)V -/
theorem mx_51 : iv_mx 51 = 5 := by decide +kernel
theorem rt_51 : iv_rt 51 = none := by decide +kernel
def fm_51_5 : Nat → Int32 → Int32 → Int32 → fx_S → Option (fx_S)
  | 0, _, _, _, _ => none
  | n + 1, x1, x3, x4, σ =>
    if (18 : Int32) ≤ x4 then (
      some σ) else (
      if x3 = x1 then (
        some σ) else (
        (fx_ld σ 12 x3).bind fun v3 =>
        (fm_52 v3 x3 σ).bind fun q6 =>
        (fx_ld q6 12 x3).bind fun v7 =>
        fm_51_5 n x1 v7 (x4 + (1 : Int32)) q6))
theorem fe_51_5 {d : Nat} (hd : 1 ≤ d) : ∀ (n : Nat) (x1 : Int32) (x3 : Int32) (x4 : Int32) (o2 : Option Value) (σ : fx_S) (q : fx_S), fm_51_5 n x1 x3 x4 σ = some q → fx_E none 51 d 5 [some (.ref 6), some (.int x1), o2, some (.int x3), some (.int x4)] [] σ none q := by
  intro n
  induction n with
  | zero =>
    intro x1 x3 x4 o2 σ q  h
    rw [fm_51_5] at h
    exact fx_no h
  | succ n ih =>
    intro x1 x3 x4 o2 σ q  h
    rw [fm_51_5] at h
    refine fs_iload (k := 4) (p := 7) (by decide +kernel) rfl rfl ?_
    refine fs_bipush (n := 18) (p := 9) (by decide +kernel) rfl kb_18 ?_
    by_cases c1 : (18 : Int32) ≤ x4
    · rw [if_pos c1] at h
      refine fs_icmp_ge_t (off := 32) (t := 41) (by decide +kernel) (by decide +kernel) c1 ?_
      have h := Option.some.inj h
      subst h
      exact fs_ret (by decide +kernel) rt_51
    · rw [if_neg c1] at h
      refine fs_icmp_ge_f (off := 32) (t := 41) (p := 12) (by decide +kernel) (by decide +kernel) rfl c1 ?_
      refine fs_iload_n (k := 3) (p := 13) (by decide +kernel) rfl rfl ?_
      refine fs_iload_n (k := 1) (p := 14) (by decide +kernel) rfl rfl ?_
      by_cases c2 : x3 = x1
      · rw [if_pos c2] at h
        refine fs_icmp_eq_t (off := 27) (t := 41) (by decide +kernel) (by decide +kernel) c2 ?_
        have h := Option.some.inj h
        subst h
        exact fs_ret (by decide +kernel) rt_51
      · rw [if_neg c2] at h
        refine fs_icmp_eq_f (off := 27) (t := 41) (p := 17) (by decide +kernel) (by decide +kernel) rfl c2 ?_
        refine fs_aload_n (k := 0) (p := 18) (by decide +kernel) rfl rfl ?_
        refine fs_aload_n (k := 0) (p := 19) (by decide +kernel) rfl rfl ?_
        refine fs_gfr (idx := 27) (ci := 5) (j := 5) (p := 22) (by decide +kernel) rfl (by decide +kernel) fo_6 (fr_a6_5) ?_
        refine fs_iload_n (k := 3) (p := 23) (by decide +kernel) rfl rfl ?_
        obtain ⟨v3, e4, h⟩ := fx_bd h
        refine fs_iaload (p := 24) (by decide +kernel) rfl e4 ?_
        refine fs_iload_n (k := 3) (p := 25) (by decide +kernel) rfl rfl ?_
        obtain ⟨q6, e5, h⟩ := fx_bd h
        refine fs_callV (idx := 106) (mj := 52) (ci := 5) (na := 2) (mx := 3) (p := 28) (args := [.ref 6, .int v3, .int x3]) (rest := []) (al2 := [some (.ref 6), some (.int v3), some (.int x3)]) (by decide +kernel) rfl (by decide +kernel) fo_6 rfl rfl rfl rfl rfl rfl rfl (by omega) (fun d' hd' => fe_52 (by omega) e5) rfl ?_
        refine fs_aload_n (k := 0) (p := 29) (by decide +kernel) rfl rfl ?_
        refine fs_gfr (idx := 27) (ci := 5) (j := 5) (p := 32) (by decide +kernel) rfl (by decide +kernel) fo_6 (fr_a6_5) ?_
        refine fs_iload_n (k := 3) (p := 33) (by decide +kernel) rfl rfl ?_
        obtain ⟨v7, e8, h⟩ := fx_bd h
        refine fs_iaload (p := 34) (by decide +kernel) rfl e8 ?_
        refine fs_istore_n (k := 3) (p := 35) (M := 5) (al' := [some (.ref 6), some (.int x1), (fx_kl o2), some (.int v7), some (.int x4)]) (by decide +kernel) rfl mx_51 rfl rfl ?_
        refine fs_iinc (k := 4) (n := 1) (p := 38) (M := 5) (al' := [some (.ref 6), some (.int x1), (fx_kl o2), some (.int v7), some (.int (x4 + (1 : Int32)))]) (by decide +kernel) rfl kc_1 mx_51 rfl rfl rfl ?_
        refine fs_goto (off := -33) (p := 5) (by decide +kernel) (by decide +kernel) ?_
        exact ih _ _ _ _ _ _ h
def fm_51 (x1 : Int32) (x2 : Int32) (σ : fx_S) : Option (fx_S) :=
  fm_51_5 100000 x1 x2 (0 : Int32) σ
theorem fe_51 {d : Nat} (hd : 1 ≤ d) {x1 : Int32} {x2 : Int32} {σ : fx_S} {q : fx_S} (h : fm_51 x1 x2 σ = some q) : fx_E none 51 d 0 [some (.ref 6), some (.int x1), some (.int x2), none, none] [] σ none q := by
  unfold fm_51 at h
  refine fs_iload_n (k := 2) (p := 1) (by decide +kernel) rfl rfl ?_
  refine fs_istore_n (k := 3) (p := 2) (M := 5) (al' := [some (.ref 6), some (.int x1), some (.int x2), some (.int x2), none]) (by decide +kernel) rfl mx_51 rfl rfl ?_
  refine fs_iconst (n := 0) (p := 3) (by decide +kernel) rfl kc_0 ?_
  refine fs_istore (k := 4) (p := 5) (M := 5) (al' := [some (.ref 6), some (.int x1), some (.int x2), some (.int x2), some (.int (0 : Int32))]) (by decide +kernel) rfl mx_51 rfl rfl ?_
  exact fe_51_5 hd 100000 _ _ _ _ _ _ h

/-! ZoneShares$Table.clear()V -/
theorem mx_68 : iv_mx 68 = 1 := by decide +kernel
theorem rt_68 : iv_rt 68 = none := by decide +kernel
def fm_68 (x0 : Nat) (σ : fx_S) : Option (fx_S) :=
  if fx_oc x0 7 = true then (
  (fm_235 (x0 + 1) (0 : Int32) σ).bind fun q8 =>
  (fm_235 (x0 + 4) (0 : Int32) q8).bind fun q10 =>
  (fm_235 (x0 + 5) (0 : Int32) q10).bind fun q12 =>
  some q12) else none
theorem fe_68 {d : Nat} (hd : 1 ≤ d) {x0 : Nat} {σ : fx_S} {q : fx_S} (h : fm_68 x0 σ = some q) : fx_E none 68 d 0 [some (.ref x0)] [] σ none q := by
  unfold fm_68 at h
  obtain ⟨g0, h⟩ := fx_gd h
  refine fs_aload_n (k := 0) (p := 1) (by decide +kernel) rfl rfl ?_
  refine fs_gfr (idx := 9) (ci := 7) (j := 0) (p := 4) (by decide +kernel) rfl (by decide +kernel) g0 (fr_7_0 g0) ?_
  refine fs_iconst (n := 0) (p := 5) (by decide +kernel) rfl kc_0 ?_
  obtain ⟨q8, e7, h⟩ := fx_bd h
  refine fs_callS (idx := 36) (mj := 235) (na := 2) (mx := 4) (p := 8) (args := [.ref (x0 + 1), .int (0 : Int32)]) (rest := []) (al2 := [some (.ref (x0 + 1)), some (.int (0 : Int32)), none, none]) (by decide +kernel) rfl (by decide +kernel) rfl rfl rfl rfl rfl rfl rfl (by omega) (fun d' hd' => fe_235 (by omega) e7) rfl ?_
  refine fs_aload_n (k := 0) (p := 9) (by decide +kernel) rfl rfl ?_
  refine fs_gfr (idx := 21) (ci := 7) (j := 3) (p := 12) (by decide +kernel) rfl (by decide +kernel) g0 (fr_7_3 g0) ?_
  refine fs_iconst (n := 0) (p := 13) (by decide +kernel) rfl kc_0 ?_
  obtain ⟨q10, e9, h⟩ := fx_bd h
  refine fs_callS (idx := 36) (mj := 235) (na := 2) (mx := 4) (p := 16) (args := [.ref (x0 + 4), .int (0 : Int32)]) (rest := []) (al2 := [some (.ref (x0 + 4)), some (.int (0 : Int32)), none, none]) (by decide +kernel) rfl (by decide +kernel) rfl rfl rfl rfl rfl rfl rfl (by omega) (fun d' hd' => fe_235 (by omega) e9) rfl ?_
  refine fs_aload_n (k := 0) (p := 17) (by decide +kernel) rfl rfl ?_
  refine fs_gfr (idx := 24) (ci := 7) (j := 4) (p := 20) (by decide +kernel) rfl (by decide +kernel) g0 (fr_7_4 g0) ?_
  refine fs_iconst (n := 0) (p := 21) (by decide +kernel) rfl kc_0 ?_
  obtain ⟨q12, e11, h⟩ := fx_bd h
  refine fs_callS (idx := 36) (mj := 235) (na := 2) (mx := 4) (p := 24) (args := [.ref (x0 + 5), .int (0 : Int32)]) (rest := []) (al2 := [some (.ref (x0 + 5)), some (.int (0 : Int32)), none, none]) (by decide +kernel) rfl (by decide +kernel) rfl rfl rfl rfl rfl rfl rfl (by omega) (fun d' hd' => fe_235 (by omega) e11) rfl ?_
  have h := Option.some.inj h
  subst h
  exact fs_ret (by decide +kernel) rt_68

/-! ZoneShares$Table.cut()V -/
theorem mx_70 : iv_mx 70 = 3 := by decide +kernel
theorem rt_70 : iv_rt 70 = none := by decide +kernel
def fm_70_57 (k_2 : Nat → Int32 → fx_S → Option (fx_S)) (x0 : Nat) (x1 : Int32) (σ : fx_S) : Option (fx_S) :=
  (fm_72 (x0 + 4) x1 σ).bind fun q2 =>
  (fx_st q2.2 (x0 + 2) x1 q2.1).bind fun t3 =>
  (fx_ld t3 (x0 + 2) x1).bind fun v5 =>
  (fm_71 x0 x1 v5 t3).bind fun q8 =>
  k_2 x0 (x1 + (1 : Int32)) q8
theorem fe_70_57 {d : Nat} (hd : 1 ≤ d) {k_2 : Nat → Int32 → fx_S → Option (fx_S)} (hk_2 : ∀ (x0 : Nat) (x1 : Int32) (o2 : Option Value) (σ : fx_S) (q : fx_S) (g0 : fx_oc x0 7 = true), k_2 x0 x1 σ = some q → fx_E none 70 d 2 [some (.ref x0), some (.int x1), o2] [] σ none q) (x0 : Nat) (x1 : Int32) (o2 : Option Value) (σ : fx_S) (q : fx_S) (g0 : fx_oc x0 7 = true) (h : fm_70_57 k_2  x0 x1 σ = some q) : fx_E none 70 d 57 [some (.ref x0), some (.int x1), o2] [] σ none q := by
  unfold fm_70_57 at h
  refine fs_aload_n (k := 0) (p := 58) (by decide +kernel) rfl rfl ?_
  refine fs_gfr (idx := 15) (ci := 7) (j := 1) (p := 61) (by decide +kernel) rfl (by decide +kernel) g0 (fr_7_1 g0) ?_
  refine fs_iload_n (k := 1) (p := 62) (by decide +kernel) rfl rfl ?_
  refine fs_aload_n (k := 0) (p := 63) (by decide +kernel) rfl rfl ?_
  refine fs_gfr (idx := 21) (ci := 7) (j := 3) (p := 66) (by decide +kernel) rfl (by decide +kernel) g0 (fr_7_3 g0) ?_
  refine fs_iload_n (k := 1) (p := 67) (by decide +kernel) rfl rfl ?_
  obtain ⟨q2, e1, h⟩ := fx_bd h
  refine fs_callS (idx := 42) (mj := 72) (na := 2) (mx := 4) (p := 70) (args := [.ref (x0 + 4), .int x1]) (rest := [.int x1, .ref (x0 + 2)]) (al2 := [some (.ref (x0 + 4)), some (.int x1), none, none]) (by decide +kernel) rfl (by decide +kernel) rfl rfl rfl rfl rfl rfl rfl (by omega) (fun d' hd' => fe_72 (by omega) e1) rfl ?_
  obtain ⟨t3, e4, h⟩ := fx_bd h
  refine fs_iastore (p := 71) (by decide +kernel) rfl e4 ?_
  refine fs_aload_n (k := 0) (p := 72) (by decide +kernel) rfl rfl ?_
  refine fs_iload_n (k := 1) (p := 73) (by decide +kernel) rfl rfl ?_
  refine fs_aload_n (k := 0) (p := 74) (by decide +kernel) rfl rfl ?_
  refine fs_gfr (idx := 15) (ci := 7) (j := 1) (p := 77) (by decide +kernel) rfl (by decide +kernel) g0 (fr_7_1 g0) ?_
  refine fs_iload_n (k := 1) (p := 78) (by decide +kernel) rfl rfl ?_
  obtain ⟨v5, e6, h⟩ := fx_bd h
  refine fs_iaload (p := 79) (by decide +kernel) rfl e6 ?_
  obtain ⟨q8, e7, h⟩ := fx_bd h
  refine fs_callV (idx := 52) (mj := 71) (ci := 7) (na := 2) (mx := 6) (p := 82) (args := [.ref x0, .int x1, .int v5]) (rest := []) (al2 := [some (.ref x0), some (.int x1), some (.int v5), none, none, none]) (by decide +kernel) rfl (by decide +kernel) g0 rfl rfl rfl rfl rfl rfl rfl (by omega) (fun d' hd' => fe_71 (by omega) e7) rfl ?_
  refine fs_iinc (k := 1) (n := 1) (p := 85) (M := 3) (al' := [some (.ref x0), some (.int (x1 + (1 : Int32))), o2]) (by decide +kernel) rfl kc_1 mx_70 rfl rfl rfl ?_
  refine fs_goto (off := -83) (p := 2) (by decide +kernel) (by decide +kernel) ?_
  exact hk_2 _ _ _ _ _ g0 h
def fm_70_31 (k_2 : Nat → Int32 → fx_S → Option (fx_S)) (x0 : Nat) (x1 : Int32) (x2 : Int32) (s0 : Nat) (s1 : Int32) (s2 : Int32) (σ : fx_S) : Option (fx_S) :=
  (fx_st σ s0 s1 s2).bind fun t1 =>
  if ¬ x2 = 0 then (
    fm_70_57 k_2 x0 x1 t1) else (
    (fx_cpy t1 (x0 + 5) (x1 * (9 : Int32)) (x0 + 4) (x1 * (9 : Int32)) (9 : Int32)).bind fun t4 =>
    fm_70_57 k_2 x0 x1 t4)
theorem fe_70_31 {d : Nat} (hd : 1 ≤ d) {k_2 : Nat → Int32 → fx_S → Option (fx_S)} (hk_2 : ∀ (x0 : Nat) (x1 : Int32) (o2 : Option Value) (σ : fx_S) (q : fx_S) (g0 : fx_oc x0 7 = true), k_2 x0 x1 σ = some q → fx_E none 70 d 2 [some (.ref x0), some (.int x1), o2] [] σ none q) (x0 : Nat) (x1 : Int32) (x2 : Int32) (s0 : Nat) (s1 : Int32) (s2 : Int32) (σ : fx_S) (q : fx_S) (g0 : fx_oc x0 7 = true) (h : fm_70_31 k_2  x0 x1 x2 s0 s1 s2 σ = some q) : fx_E none 70 d 31 [some (.ref x0), some (.int x1), some (.int x2)] [.int s2, .int s1, .ref s0] σ none q := by
  unfold fm_70_31 at h
  obtain ⟨t1, e2, h⟩ := fx_bd h
  refine fs_iastore (p := 32) (by decide +kernel) rfl e2 ?_
  refine fs_iload_n (k := 2) (p := 33) (by decide +kernel) rfl rfl ?_
  by_cases c3 : ¬ x2 = 0
  · rw [if_pos c3] at h
    refine fs_if_ne_t (off := 24) (t := 57) (by decide +kernel) (by decide +kernel) c3 ?_
    exact fe_70_57 hd hk_2 _ _ _ _ _ g0 h
  · rw [if_neg c3] at h
    refine fs_if_ne_f (off := 24) (t := 57) (p := 36) (by decide +kernel) (by decide +kernel) rfl c3 ?_
    refine fs_aload_n (k := 0) (p := 37) (by decide +kernel) rfl rfl ?_
    refine fs_gfr (idx := 24) (ci := 7) (j := 4) (p := 40) (by decide +kernel) rfl (by decide +kernel) g0 (fr_7_4 g0) ?_
    refine fs_iload_n (k := 1) (p := 41) (by decide +kernel) rfl rfl ?_
    refine fs_bipush (n := 9) (p := 43) (by decide +kernel) rfl kb_9 ?_
    refine fs_imul (p := 44) (by decide +kernel) rfl ?_
    refine fs_aload_n (k := 0) (p := 45) (by decide +kernel) rfl rfl ?_
    refine fs_gfr (idx := 21) (ci := 7) (j := 3) (p := 48) (by decide +kernel) rfl (by decide +kernel) g0 (fr_7_3 g0) ?_
    refine fs_iload_n (k := 1) (p := 49) (by decide +kernel) rfl rfl ?_
    refine fs_bipush (n := 9) (p := 51) (by decide +kernel) rfl kb_9 ?_
    refine fs_imul (p := 52) (by decide +kernel) rfl ?_
    refine fs_bipush (n := 9) (p := 54) (by decide +kernel) rfl kb_9 ?_
    obtain ⟨t4, e5, h⟩ := fx_bd h
    refine fs_cpy (idx := 46) (p := 57) (by decide +kernel) rfl (by decide +kernel) rfl e5 ?_
    exact fe_70_57 hd hk_2 _ _ _ _ _ g0 h
def fm_70_2 : Nat → Nat → Int32 → fx_S → Option (fx_S)
  | 0, _, _, _ => none
  | n + 1, x0, x1, σ =>
    if (8 : Int32) ≤ x1 then (
      some σ) else (
      (fm_72 (x0 + 4) x1 σ).bind fun q3 =>
      fm_70_31 (fm_70_2 n) x0 x1 q3.1 (x0 + 3) x1 (if ¬ q3.1 = 0 then (0 : Int32) else (1 : Int32)) q3.2)
theorem fe_70_2 {d : Nat} (hd : 1 ≤ d) : ∀ (n : Nat) (x0 : Nat) (x1 : Int32) (o2 : Option Value) (σ : fx_S) (q : fx_S) (g0 : fx_oc x0 7 = true), fm_70_2 n x0 x1 σ = some q → fx_E none 70 d 2 [some (.ref x0), some (.int x1), o2] [] σ none q := by
  intro n
  induction n with
  | zero =>
    intro x0 x1 o2 σ q g0 h
    rw [fm_70_2] at h
    exact fx_no h
  | succ n ih =>
    intro x0 x1 o2 σ q g0 h
    rw [fm_70_2] at h
    refine fs_iload_n (k := 1) (p := 3) (by decide +kernel) rfl rfl ?_
    refine fs_bipush (n := 8) (p := 5) (by decide +kernel) rfl kb_8 ?_
    by_cases c1 : (8 : Int32) ≤ x1
    · rw [if_pos c1] at h
      refine fs_icmp_ge_t (off := 83) (t := 88) (by decide +kernel) (by decide +kernel) c1 ?_
      have h := Option.some.inj h
      subst h
      exact fs_ret (by decide +kernel) rt_70
    · rw [if_neg c1] at h
      refine fs_icmp_ge_f (off := 83) (t := 88) (p := 8) (by decide +kernel) (by decide +kernel) rfl c1 ?_
      refine fs_aload_n (k := 0) (p := 9) (by decide +kernel) rfl rfl ?_
      refine fs_gfr (idx := 21) (ci := 7) (j := 3) (p := 12) (by decide +kernel) rfl (by decide +kernel) g0 (fr_7_3 g0) ?_
      refine fs_iload_n (k := 1) (p := 13) (by decide +kernel) rfl rfl ?_
      obtain ⟨q3, e2, h⟩ := fx_bd h
      refine fs_callS (idx := 42) (mj := 72) (na := 2) (mx := 4) (p := 16) (args := [.ref (x0 + 4), .int x1]) (rest := []) (al2 := [some (.ref (x0 + 4)), some (.int x1), none, none]) (by decide +kernel) rfl (by decide +kernel) rfl rfl rfl rfl rfl rfl rfl (by omega) (fun d' hd' => fe_72 (by omega) e2) rfl ?_
      refine fs_istore_n (k := 2) (p := 17) (M := 3) (al' := [some (.ref x0), some (.int x1), some (.int q3.1)]) (by decide +kernel) rfl mx_70 rfl rfl ?_
      refine fs_aload_n (k := 0) (p := 18) (by decide +kernel) rfl rfl ?_
      refine fs_gfr (idx := 18) (ci := 7) (j := 2) (p := 21) (by decide +kernel) rfl (by decide +kernel) g0 (fr_7_2 g0) ?_
      refine fs_iload_n (k := 1) (p := 22) (by decide +kernel) rfl rfl ?_
      refine fs_iload_n (k := 2) (p := 23) (by decide +kernel) rfl rfl ?_
      by_cases c4 : ¬ q3.1 = 0
      · rw [if_pos c4] at h
        refine fs_if_ne_t (off := 7) (t := 30) (by decide +kernel) (by decide +kernel) c4 ?_
        refine fs_iconst (n := 0) (p := 31) (by decide +kernel) rfl kc_0 ?_
        exact fe_70_31 hd ih _ _ _ _ _ _ _ _ g0 h
      · rw [if_neg c4] at h
        refine fs_if_ne_f (off := 7) (t := 30) (p := 26) (by decide +kernel) (by decide +kernel) rfl c4 ?_
        refine fs_iconst (n := 1) (p := 27) (by decide +kernel) rfl kc_1 ?_
        refine fs_goto (off := 4) (p := 31) (by decide +kernel) (by decide +kernel) ?_
        exact fe_70_31 hd ih _ _ _ _ _ _ _ _ g0 h
def fm_70 (x0 : Nat) (σ : fx_S) : Option (fx_S) :=
  if fx_oc x0 7 = true then (
  fm_70_2 100000 x0 (0 : Int32) σ) else none
theorem fe_70 {d : Nat} (hd : 1 ≤ d) {x0 : Nat} {σ : fx_S} {q : fx_S} (h : fm_70 x0 σ = some q) : fx_E none 70 d 0 [some (.ref x0), none, none] [] σ none q := by
  unfold fm_70 at h
  obtain ⟨g0, h⟩ := fx_gd h
  refine fs_iconst (n := 0) (p := 1) (by decide +kernel) rfl kc_0 ?_
  refine fs_istore_n (k := 1) (p := 2) (M := 3) (al' := [some (.ref x0), some (.int (0 : Int32)), none]) (by decide +kernel) rfl mx_70 rfl rfl ?_
  exact fe_70_2 hd 100000 _ _ _ _ _ g0 h

/-! ZoneShares$Table.giveByRests()V -/
theorem mx_74 : iv_mx 74 = 4 := by decide +kernel
theorem rt_74 : iv_rt 74 = none := by decide +kernel
def fm_74_38 (k_2 : Nat → Int32 → fx_S → Option (fx_S)) (x0 : Nat) (x1 : Int32) (σ : fx_S) : Option (fx_S) :=
  k_2 x0 (x1 + (1 : Int32)) σ
theorem fe_74_38 {d : Nat} (hd : 2 ≤ d) {k_2 : Nat → Int32 → fx_S → Option (fx_S)} (hk_2 : ∀ (x0 : Nat) (x1 : Int32) (o2 : Option Value) (o3 : Option Value) (σ : fx_S) (q : fx_S) (g0 : fx_oc x0 7 = true), k_2 x0 x1 σ = some q → fx_E none 74 d 2 [some (.ref x0), some (.int x1), o2, o3] [] σ none q) (x0 : Nat) (x1 : Int32) (o2 : Option Value) (o3 : Option Value) (σ : fx_S) (q : fx_S) (g0 : fx_oc x0 7 = true) (h : fm_74_38 k_2  x0 x1 σ = some q) : fx_E none 74 d 38 [some (.ref x0), some (.int x1), o2, o3] [] σ none q := by
  unfold fm_74_38 at h
  refine fs_iinc (k := 1) (n := 1) (p := 41) (M := 4) (al' := [some (.ref x0), some (.int (x1 + (1 : Int32))), o2, o3]) (by decide +kernel) rfl kc_1 mx_74 rfl rfl rfl ?_
  refine fs_goto (off := -39) (p := 2) (by decide +kernel) (by decide +kernel) ?_
  exact hk_2 _ _ _ _ _ _ g0 h
def fm_74_16 (k_2 : Nat → Int32 → fx_S → Option (fx_S)) : Nat → Nat → Int32 → Int32 → Int32 → fx_S → Option (fx_S)
  | 0, _, _, _, _, _ => none
  | n + 1, x0, x1, x2, x3, σ =>
    if (9 : Int32) ≤ x3 then (
      fm_74_38 k_2 x0 x1 σ) else (
      if x2 ≤ x3 then (
        fm_74_38 k_2 x0 x1 σ) else (
        (fm_75 x0 x1 σ).bind fun q4 =>
        fm_74_16 k_2 n x0 x1 x2 (x3 + (1 : Int32)) q4))
theorem fe_74_16 {d : Nat} (hd : 2 ≤ d) {k_2 : Nat → Int32 → fx_S → Option (fx_S)} (hk_2 : ∀ (x0 : Nat) (x1 : Int32) (o2 : Option Value) (o3 : Option Value) (σ : fx_S) (q : fx_S) (g0 : fx_oc x0 7 = true), k_2 x0 x1 σ = some q → fx_E none 74 d 2 [some (.ref x0), some (.int x1), o2, o3] [] σ none q) : ∀ (n : Nat) (x0 : Nat) (x1 : Int32) (x2 : Int32) (x3 : Int32) (σ : fx_S) (q : fx_S) (g0 : fx_oc x0 7 = true), fm_74_16 k_2 n x0 x1 x2 x3 σ = some q → fx_E none 74 d 16 [some (.ref x0), some (.int x1), some (.int x2), some (.int x3)] [] σ none q := by
  intro n
  induction n with
  | zero =>
    intro x0 x1 x2 x3 σ q g0 h
    rw [fm_74_16] at h
    exact fx_no h
  | succ n ih =>
    intro x0 x1 x2 x3 σ q g0 h
    rw [fm_74_16] at h
    refine fs_iload_n (k := 3) (p := 17) (by decide +kernel) rfl rfl ?_
    refine fs_bipush (n := 9) (p := 19) (by decide +kernel) rfl kb_9 ?_
    by_cases c1 : (9 : Int32) ≤ x3
    · rw [if_pos c1] at h
      refine fs_icmp_ge_t (off := 19) (t := 38) (by decide +kernel) (by decide +kernel) c1 ?_
      exact fe_74_38 hd hk_2 _ _ _ _ _ _ g0 h
    · rw [if_neg c1] at h
      refine fs_icmp_ge_f (off := 19) (t := 38) (p := 22) (by decide +kernel) (by decide +kernel) rfl c1 ?_
      refine fs_iload_n (k := 3) (p := 23) (by decide +kernel) rfl rfl ?_
      refine fs_iload_n (k := 2) (p := 24) (by decide +kernel) rfl rfl ?_
      by_cases c2 : x2 ≤ x3
      · rw [if_pos c2] at h
        refine fs_icmp_ge_t (off := 14) (t := 38) (by decide +kernel) (by decide +kernel) c2 ?_
        exact fe_74_38 hd hk_2 _ _ _ _ _ _ g0 h
      · rw [if_neg c2] at h
        refine fs_icmp_ge_f (off := 14) (t := 38) (p := 27) (by decide +kernel) (by decide +kernel) rfl c2 ?_
        refine fs_aload_n (k := 0) (p := 28) (by decide +kernel) rfl rfl ?_
        refine fs_iload_n (k := 1) (p := 29) (by decide +kernel) rfl rfl ?_
        obtain ⟨q4, e3, h⟩ := fx_bd h
        refine fs_callV (idx := 60) (mj := 75) (ci := 7) (na := 1) (mx := 5) (p := 32) (args := [.ref x0, .int x1]) (rest := []) (al2 := [some (.ref x0), some (.int x1), none, none, none]) (by decide +kernel) rfl (by decide +kernel) g0 rfl rfl rfl rfl rfl rfl rfl (by omega) (fun d' hd' => fe_75 (by omega) e3) rfl ?_
        refine fs_iinc (k := 3) (n := 1) (p := 35) (M := 4) (al' := [some (.ref x0), some (.int x1), some (.int x2), some (.int (x3 + (1 : Int32)))]) (by decide +kernel) rfl kc_1 mx_74 rfl rfl rfl ?_
        refine fs_goto (off := -19) (p := 16) (by decide +kernel) (by decide +kernel) ?_
        exact ih _ _ _ _ _ _ g0 h
def fm_74_2 : Nat → Nat → Int32 → fx_S → Option (fx_S)
  | 0, _, _, _ => none
  | n + 1, x0, x1, σ =>
    if (8 : Int32) ≤ x1 then (
      some σ) else (
      (fm_73 x0 x1 σ).bind fun q3 =>
      fm_74_16 (fm_74_2 n) 100000 x0 x1 q3.1 (0 : Int32) q3.2)
theorem fe_74_2 {d : Nat} (hd : 2 ≤ d) : ∀ (n : Nat) (x0 : Nat) (x1 : Int32) (o2 : Option Value) (o3 : Option Value) (σ : fx_S) (q : fx_S) (g0 : fx_oc x0 7 = true), fm_74_2 n x0 x1 σ = some q → fx_E none 74 d 2 [some (.ref x0), some (.int x1), o2, o3] [] σ none q := by
  intro n
  induction n with
  | zero =>
    intro x0 x1 o2 o3 σ q g0 h
    rw [fm_74_2] at h
    exact fx_no h
  | succ n ih =>
    intro x0 x1 o2 o3 σ q g0 h
    rw [fm_74_2] at h
    refine fs_iload_n (k := 1) (p := 3) (by decide +kernel) rfl rfl ?_
    refine fs_bipush (n := 8) (p := 5) (by decide +kernel) rfl kb_8 ?_
    by_cases c1 : (8 : Int32) ≤ x1
    · rw [if_pos c1] at h
      refine fs_icmp_ge_t (off := 39) (t := 44) (by decide +kernel) (by decide +kernel) c1 ?_
      have h := Option.some.inj h
      subst h
      exact fs_ret (by decide +kernel) rt_74
    · rw [if_neg c1] at h
      refine fs_icmp_ge_f (off := 39) (t := 44) (p := 8) (by decide +kernel) (by decide +kernel) rfl c1 ?_
      refine fs_aload_n (k := 0) (p := 9) (by decide +kernel) rfl rfl ?_
      refine fs_iload_n (k := 1) (p := 10) (by decide +kernel) rfl rfl ?_
      obtain ⟨q3, e2, h⟩ := fx_bd h
      refine fs_callV (idx := 56) (mj := 73) (ci := 7) (na := 1) (mx := 2) (p := 13) (args := [.ref x0, .int x1]) (rest := []) (al2 := [some (.ref x0), some (.int x1)]) (by decide +kernel) rfl (by decide +kernel) g0 rfl rfl rfl rfl rfl rfl rfl (by omega) (fun d' hd' => fe_73 (by omega) e2) rfl ?_
      refine fs_istore_n (k := 2) (p := 14) (M := 4) (al' := [some (.ref x0), some (.int x1), some (.int q3.1), o3]) (by decide +kernel) rfl mx_74 rfl rfl ?_
      refine fs_iconst (n := 0) (p := 15) (by decide +kernel) rfl kc_0 ?_
      refine fs_istore_n (k := 3) (p := 16) (M := 4) (al' := [some (.ref x0), some (.int x1), some (.int q3.1), some (.int (0 : Int32))]) (by decide +kernel) rfl mx_74 rfl rfl ?_
      exact fe_74_16 hd ih 100000 _ _ _ _ _ _ g0 h
def fm_74 (x0 : Nat) (σ : fx_S) : Option (fx_S) :=
  if fx_oc x0 7 = true then (
  fm_74_2 100000 x0 (0 : Int32) σ) else none
theorem fe_74 {d : Nat} (hd : 2 ≤ d) {x0 : Nat} {σ : fx_S} {q : fx_S} (h : fm_74 x0 σ = some q) : fx_E none 74 d 0 [some (.ref x0), none, none, none] [] σ none q := by
  unfold fm_74 at h
  obtain ⟨g0, h⟩ := fx_gd h
  refine fs_iconst (n := 0) (p := 1) (by decide +kernel) rfl kc_0 ?_
  refine fs_istore_n (k := 1) (p := 2) (M := 4) (al' := [some (.ref x0), some (.int (0 : Int32)), none, none]) (by decide +kernel) rfl mx_74 rfl rfl ?_
  exact fe_74_2 hd 100000 _ _ _ _ _ _ g0 h

/-! ZoneShares$Table.common()J -/
theorem mx_78 : iv_mx 78 = 6 := by decide +kernel
theorem rt_78 : iv_rt 78 = some .long := by decide +kernel
def fm_78_52 (k_4 : Nat → Int64 → Int32 → fx_S → Option (Int64 × fx_S)) (x0 : Nat) (x1 : Int64) (x3 : Int32) (σ : fx_S) : Option (Int64 × fx_S) :=
  k_4 x0 x1 (x3 + (1 : Int32)) σ
theorem fe_78_52 {d : Nat} (hd : 1 ≤ d) {k_4 : Nat → Int64 → Int32 → fx_S → Option (Int64 × fx_S)} (hk_4 : ∀ (x0 : Nat) (x1 : Int64) (x3 : Int32) (o4 : Option Value) (σ : fx_S) (q : Int64 × fx_S) (g0 : fx_oc x0 7 = true), k_4 x0 x1 x3 σ = some q → fx_E none 78 d 4 [some (.ref x0), some (.long x1), none, some (.int x3), o4, none] [] σ (some (.long q.1)) q.2) (x0 : Nat) (x1 : Int64) (x3 : Int32) (o4 : Option Value) (σ : fx_S) (q : Int64 × fx_S) (g0 : fx_oc x0 7 = true) (h : fm_78_52 k_4  x0 x1 x3 σ = some q) : fx_E none 78 d 52 [some (.ref x0), some (.long x1), none, some (.int x3), o4, none] [] σ (some (.long q.1)) q.2 := by
  unfold fm_78_52 at h
  refine fs_iinc (k := 3) (n := 1) (p := 55) (M := 6) (al' := [some (.ref x0), some (.long x1), none, some (.int (x3 + (1 : Int32))), o4, none]) (by decide +kernel) rfl kc_1 mx_78 rfl rfl rfl ?_
  refine fs_goto (off := -51) (p := 4) (by decide +kernel) (by decide +kernel) ?_
  exact hk_4 _ _ _ _ _ _ g0 h
def fm_78_4 : Nat → Nat → Int64 → Int32 → fx_S → Option (Int64 × fx_S)
  | 0, _, _, _, _ => none
  | n + 1, x0, x1, x3, σ =>
    if (8 : Int32) ≤ x3 then (
      some (x1, σ)) else (
      (fx_ld σ (x0 + 2) x3).bind fun v2 =>
      (fm_128 x1 (v2).toInt64 σ).bind fun q5 =>
      (fx_ld q5.2 (x0 + 2) x3).bind fun v6 =>
      if v6 ≤ 0 then (
        fm_78_52 (fm_78_4 n) x0 x1 x3 q5.2) else (
        if q5.1 ≤ (0 : Int64) then (
          fm_78_52 (fm_78_4 n) x0 x1 x3 q5.2) else (
          if ¬ q5.1 = 0 then (
          (fx_ld q5.2 (x0 + 2) x3).bind fun v11 =>
          fm_78_52 (fm_78_4 n) x0 ((x1 / q5.1) * (v11).toInt64) x3 q5.2) else none)))
theorem fe_78_4 {d : Nat} (hd : 1 ≤ d) : ∀ (n : Nat) (x0 : Nat) (x1 : Int64) (x3 : Int32) (o4 : Option Value) (σ : fx_S) (q : Int64 × fx_S) (g0 : fx_oc x0 7 = true), fm_78_4 n x0 x1 x3 σ = some q → fx_E none 78 d 4 [some (.ref x0), some (.long x1), none, some (.int x3), o4, none] [] σ (some (.long q.1)) q.2 := by
  intro n
  induction n with
  | zero =>
    intro x0 x1 x3 o4 σ q g0 h
    rw [fm_78_4] at h
    exact fx_no h
  | succ n ih =>
    intro x0 x1 x3 o4 σ q g0 h
    rw [fm_78_4] at h
    refine fs_iload_n (k := 3) (p := 5) (by decide +kernel) rfl rfl ?_
    refine fs_bipush (n := 8) (p := 7) (by decide +kernel) rfl kb_8 ?_
    by_cases c1 : (8 : Int32) ≤ x3
    · rw [if_pos c1] at h
      refine fs_icmp_ge_t (off := 51) (t := 58) (by decide +kernel) (by decide +kernel) c1 ?_
      refine fs_lload_n (k := 1) (p := 59) (by decide +kernel) rfl rfl ?_
      have h := Option.some.inj h
      subst h
      exact fs_lret (by decide +kernel) rt_78
    · rw [if_neg c1] at h
      refine fs_icmp_ge_f (off := 51) (t := 58) (p := 10) (by decide +kernel) (by decide +kernel) rfl c1 ?_
      refine fs_lload_n (k := 1) (p := 11) (by decide +kernel) rfl rfl ?_
      refine fs_aload_n (k := 0) (p := 12) (by decide +kernel) rfl rfl ?_
      refine fs_gfr (idx := 15) (ci := 7) (j := 1) (p := 15) (by decide +kernel) rfl (by decide +kernel) g0 (fr_7_1 g0) ?_
      refine fs_iload_n (k := 3) (p := 16) (by decide +kernel) rfl rfl ?_
      obtain ⟨v2, e3, h⟩ := fx_bd h
      refine fs_iaload (p := 17) (by decide +kernel) rfl e3 ?_
      refine fs_i2l (p := 18) (by decide +kernel) rfl ?_
      obtain ⟨q5, e4, h⟩ := fx_bd h
      refine fs_callS (idx := 64) (mj := 128) (na := 2) (mx := 11) (p := 21) (args := [.long x1, .long (v2).toInt64]) (rest := []) (al2 := [some (.long x1), none, some (.long (v2).toInt64), none, none, none, none, none, none, none, none]) (by decide +kernel) rfl (by decide +kernel) rfl rfl rfl rfl rfl rfl rfl (by omega) (fun d' hd' => fe_128 (by omega) e4) rfl ?_
      refine fs_lstore (k := 4) (p := 23) (M := 6) (al' := [some (.ref x0), some (.long x1), none, some (.int x3), some (.long q5.1), none]) (by decide +kernel) rfl mx_78 rfl rfl ?_
      refine fs_aload_n (k := 0) (p := 24) (by decide +kernel) rfl rfl ?_
      refine fs_gfr (idx := 15) (ci := 7) (j := 1) (p := 27) (by decide +kernel) rfl (by decide +kernel) g0 (fr_7_1 g0) ?_
      refine fs_iload_n (k := 3) (p := 28) (by decide +kernel) rfl rfl ?_
      obtain ⟨v6, e7, h⟩ := fx_bd h
      refine fs_iaload (p := 29) (by decide +kernel) rfl e7 ?_
      by_cases c8 : v6 ≤ 0
      · rw [if_pos c8] at h
        refine fs_if_le_t (off := 23) (t := 52) (by decide +kernel) (by decide +kernel) c8 ?_
        exact fe_78_52 hd ih _ _ _ _ _ _ g0 h
      · rw [if_neg c8] at h
        refine fs_if_le_f (off := 23) (t := 52) (p := 32) (by decide +kernel) (by decide +kernel) rfl c8 ?_
        refine fs_lload (k := 4) (p := 34) (by decide +kernel) rfl rfl ?_
        refine fs_lconst (n := 0) (p := 35) (by decide +kernel) rfl kl_0 ?_
        by_cases c9 : q5.1 ≤ (0 : Int64)
        · rw [if_pos c9] at h
          refine fs_lcmp_le_t (off := 16) (t := 52) (by decide +kernel) (by decide +kernel) (by decide +kernel) c9 ?_
          exact fe_78_52 hd ih _ _ _ _ _ _ g0 h
        · rw [if_neg c9] at h
          refine fs_lcmp_le_f (off := 16) (t := 52) (p := 39) (by decide +kernel) (by decide +kernel) (by decide +kernel) rfl c9 ?_
          refine fs_lload_n (k := 1) (p := 40) (by decide +kernel) rfl rfl ?_
          refine fs_lload (k := 4) (p := 42) (by decide +kernel) rfl rfl ?_
          obtain ⟨z10, h⟩ := fx_gd h
          refine fs_ldiv (p := 43) (by decide +kernel) rfl z10 ?_
          refine fs_aload_n (k := 0) (p := 44) (by decide +kernel) rfl rfl ?_
          refine fs_gfr (idx := 15) (ci := 7) (j := 1) (p := 47) (by decide +kernel) rfl (by decide +kernel) g0 (fr_7_1 g0) ?_
          refine fs_iload_n (k := 3) (p := 48) (by decide +kernel) rfl rfl ?_
          obtain ⟨v11, e12, h⟩ := fx_bd h
          refine fs_iaload (p := 49) (by decide +kernel) rfl e12 ?_
          refine fs_i2l (p := 50) (by decide +kernel) rfl ?_
          refine fs_lmul (p := 51) (by decide +kernel) rfl ?_
          refine fs_lstore_n (k := 1) (p := 52) (M := 6) (al' := [some (.ref x0), some (.long ((x1 / q5.1) * (v11).toInt64)), none, some (.int x3), some (.long q5.1), none]) (by decide +kernel) rfl mx_78 rfl rfl ?_
          exact fe_78_52 hd ih _ _ _ _ _ _ g0 h
def fm_78 (x0 : Nat) (σ : fx_S) : Option (Int64 × fx_S) :=
  if fx_oc x0 7 = true then (
  fm_78_4 100000 x0 (1 : Int64) (0 : Int32) σ) else none
theorem fe_78 {d : Nat} (hd : 1 ≤ d) {x0 : Nat} {σ : fx_S} {q : Int64 × fx_S} (h : fm_78 x0 σ = some q) : fx_E none 78 d 0 [some (.ref x0), none, none, none, none, none] [] σ (some (.long q.1)) q.2 := by
  unfold fm_78 at h
  obtain ⟨g0, h⟩ := fx_gd h
  refine fs_lconst (n := 1) (p := 1) (by decide +kernel) rfl kl_1 ?_
  refine fs_lstore_n (k := 1) (p := 2) (M := 6) (al' := [some (.ref x0), some (.long (1 : Int64)), none, none, none, none]) (by decide +kernel) rfl mx_78 rfl rfl ?_
  refine fs_iconst (n := 0) (p := 3) (by decide +kernel) rfl kc_0 ?_
  refine fs_istore_n (k := 3) (p := 4) (M := 6) (al' := [some (.ref x0), some (.long (1 : Int64)), none, some (.int (0 : Int32)), none, none]) (by decide +kernel) rfl mx_78 rfl rfl ?_
  exact fe_78_4 hd 100000 _ _ _ _ _ _ g0 h

/-! ZoneShares$Table.offBy(I)J -/
theorem mx_80 : iv_mx 80 = 3 := by decide +kernel
theorem rt_80 : iv_rt 80 = some .long := by decide +kernel
def fm_80 (x0 : Nat) (x1 : Int32) (σ : fx_S) : Option (Int64 × fx_S) :=
  if fx_oc x0 7 = true then (
  (fx_ld σ (x0 + 8) x1).bind fun v11 =>
  (fx_ld σ (x0 + 2) (x1 / (9 : Int32))).bind fun v13 =>
  (fx_ld σ (x0 + 1) (x1 / (9 : Int32))).bind fun v15 =>
  (fx_ld σ (x0 + 4) x1).bind fun v17 =>
  (fm_232 (((v11).toInt64 * (v13).toInt64) - ((v15).toInt64 * (v17).toInt64)) σ).bind fun q20 =>
  some (q20.1, q20.2)) else none
theorem fe_80 {d : Nat} (hd : 1 ≤ d) {x0 : Nat} {x1 : Int32} {σ : fx_S} {q : Int64 × fx_S} (h : fm_80 x0 x1 σ = some q) : fx_E none 80 d 0 [some (.ref x0), some (.int x1), none] [] σ (some (.long q.1)) q.2 := by
  unfold fm_80 at h
  obtain ⟨g0, h⟩ := fx_gd h
  refine fs_iload_n (k := 1) (p := 1) (by decide +kernel) rfl rfl ?_
  refine fs_bipush (n := 9) (p := 3) (by decide +kernel) rfl kb_9 ?_
  refine fs_idiv (p := 4) (by decide +kernel) rfl (by decide) ?_
  refine fs_istore_n (k := 2) (p := 5) (M := 3) (al' := [some (.ref x0), some (.int x1), some (.int (x1 / (9 : Int32)))]) (by decide +kernel) rfl mx_80 rfl rfl ?_
  refine fs_aload_n (k := 0) (p := 6) (by decide +kernel) rfl rfl ?_
  refine fs_gfr (idx := 33) (ci := 7) (j := 7) (p := 9) (by decide +kernel) rfl (by decide +kernel) g0 (fr_7_7 g0) ?_
  refine fs_iload_n (k := 1) (p := 10) (by decide +kernel) rfl rfl ?_
  obtain ⟨v11, e12, h⟩ := fx_bd h
  refine fs_iaload (p := 11) (by decide +kernel) rfl e12 ?_
  refine fs_i2l (p := 12) (by decide +kernel) rfl ?_
  refine fs_aload_n (k := 0) (p := 13) (by decide +kernel) rfl rfl ?_
  refine fs_gfr (idx := 15) (ci := 7) (j := 1) (p := 16) (by decide +kernel) rfl (by decide +kernel) g0 (fr_7_1 g0) ?_
  refine fs_iload_n (k := 2) (p := 17) (by decide +kernel) rfl rfl ?_
  obtain ⟨v13, e14, h⟩ := fx_bd h
  refine fs_iaload (p := 18) (by decide +kernel) rfl e14 ?_
  refine fs_i2l (p := 19) (by decide +kernel) rfl ?_
  refine fs_lmul (p := 20) (by decide +kernel) rfl ?_
  refine fs_aload_n (k := 0) (p := 21) (by decide +kernel) rfl rfl ?_
  refine fs_gfr (idx := 9) (ci := 7) (j := 0) (p := 24) (by decide +kernel) rfl (by decide +kernel) g0 (fr_7_0 g0) ?_
  refine fs_iload_n (k := 2) (p := 25) (by decide +kernel) rfl rfl ?_
  obtain ⟨v15, e16, h⟩ := fx_bd h
  refine fs_iaload (p := 26) (by decide +kernel) rfl e16 ?_
  refine fs_i2l (p := 27) (by decide +kernel) rfl ?_
  refine fs_aload_n (k := 0) (p := 28) (by decide +kernel) rfl rfl ?_
  refine fs_gfr (idx := 21) (ci := 7) (j := 3) (p := 31) (by decide +kernel) rfl (by decide +kernel) g0 (fr_7_3 g0) ?_
  refine fs_iload_n (k := 1) (p := 32) (by decide +kernel) rfl rfl ?_
  obtain ⟨v17, e18, h⟩ := fx_bd h
  refine fs_iaload (p := 33) (by decide +kernel) rfl e18 ?_
  refine fs_i2l (p := 34) (by decide +kernel) rfl ?_
  refine fs_lmul (p := 35) (by decide +kernel) rfl ?_
  refine fs_lsub (p := 36) (by decide +kernel) rfl ?_
  obtain ⟨q20, e19, h⟩ := fx_bd h
  refine fs_callS (idx := 68) (mj := 232) (na := 1) (mx := 2) (p := 39) (args := [.long (((v11).toInt64 * (v13).toInt64) - ((v15).toInt64 * (v17).toInt64))]) (rest := []) (al2 := [some (.long (((v11).toInt64 * (v13).toInt64) - ((v15).toInt64 * (v17).toInt64))), none]) (by decide +kernel) rfl (by decide +kernel) rfl rfl rfl rfl rfl rfl rfl (by omega) (fun d' hd' => fe_232 (by omega) e19) rfl ?_
  have h := Option.some.inj h
  subst h
  exact fs_lret (by decide +kernel) rt_80

/-! ZoneShares.undo()I -/
theorem mx_94 : iv_mx 94 = 1 := by decide +kernel
theorem rt_94 : iv_rt 94 = some .int := by decide +kernel
def fm_94 (σ : fx_S) : Option (Int32 × fx_S) :=
  if ¬ (σ.1 16 2) = 0 then (
    (fm_120 σ).bind fun q8 =>
    (fm_32 1 q8).bind fun q10 =>
    some ((q10.1 16 2), q10)) else (
    some ((-1 : Int32), σ))
theorem fe_94 {d : Nat} (hd : 2 ≤ d) {σ : fx_S} {q : Int32 × fx_S} (h : fm_94 σ = some q) : fx_E none 94 d 0 [some (.ref 0)] [] σ (some (.int q.1)) q.2 := by
  unfold fm_94 at h
  refine fs_aload_n (k := 0) (p := 1) (by decide +kernel) rfl rfl ?_
  refine fs_gfr (idx := 29) (ci := 9) (j := 2) (p := 4) (by decide +kernel) rfl (by decide +kernel) fo_0 (fr_a0_2) ?_
  refine fs_gfi (idx := 160) (ci := 3) (j := 2) (p := 7) (by decide +kernel) rfl (by decide +kernel) fo_16 ?_
  by_cases c6 : ¬ (σ.1 16 2) = 0
  · rw [if_pos c6] at h
    refine fs_if_ne_t (off := 5) (t := 12) (by decide +kernel) (by decide +kernel) c6 ?_
    refine fs_aload_n (k := 0) (p := 13) (by decide +kernel) rfl rfl ?_
    obtain ⟨q8, e7, h⟩ := fx_bd h
    refine fs_callV (idx := 163) (mj := 120) (ci := 9) (na := 0) (mx := 2) (p := 16) (args := [.ref 0]) (rest := []) (al2 := [some (.ref 0), none]) (by decide +kernel) rfl (by decide +kernel) fo_0 rfl rfl rfl rfl rfl rfl rfl (by omega) (fun d' hd' => fe_120 (by omega) e7) rfl ?_
    refine fs_aload_n (k := 0) (p := 17) (by decide +kernel) rfl rfl ?_
    refine fs_gfr (idx := 29) (ci := 9) (j := 2) (p := 20) (by decide +kernel) rfl (by decide +kernel) fo_0 (fr_a0_2) ?_
    refine fs_aload_n (k := 0) (p := 21) (by decide +kernel) rfl rfl ?_
    refine fs_gfr (idx := 13) (ci := 9) (j := 1) (p := 24) (by decide +kernel) rfl (by decide +kernel) fo_0 (fr_a0_1) ?_
    obtain ⟨q10, e9, h⟩ := fx_bd h
    refine fs_callV (idx := 166) (mj := 32) (ci := 3) (na := 1) (mx := 2) (p := 27) (args := [.ref 16, .ref 1]) (rest := []) (al2 := [some (.ref 16), some (.ref 1)]) (by decide +kernel) rfl (by decide +kernel) fo_16 rfl rfl rfl rfl rfl rfl rfl (by omega) (fun d' hd' => fe_32 (by omega) e9) rfl ?_
    refine fs_aload_n (k := 0) (p := 28) (by decide +kernel) rfl rfl ?_
    refine fs_gfr (idx := 29) (ci := 9) (j := 2) (p := 31) (by decide +kernel) rfl (by decide +kernel) fo_0 (fr_a0_2) ?_
    refine fs_gfi (idx := 160) (ci := 3) (j := 2) (p := 34) (by decide +kernel) rfl (by decide +kernel) fo_16 ?_
    have h := Option.some.inj h
    subst h
    exact fs_iret (by decide +kernel) rt_94
  · rw [if_neg c6] at h
    refine fs_if_ne_f (off := 5) (t := 12) (p := 10) (by decide +kernel) (by decide +kernel) rfl c6 ?_
    refine fs_iconst (n := -1) (p := 11) (by decide +kernel) rfl kc_m1 ?_
    have h := Option.some.inj h
    subst h
    exact fs_iret (by decide +kernel) rt_94

/-! ZoneShares.weight(II)I -/
theorem mx_112 : iv_mx 112 = 3 := by decide +kernel
theorem rt_112 : iv_rt 112 = some .int := by decide +kernel
def fm_112 (x1 : Int32) (x2 : Int32) (σ : fx_S) : Option (Int32 × fx_S) :=
  (fm_114 x1 σ).bind fun q10 =>
  if (fx_b q10.1) = 0 then (
    some ((-1 : Int32), q10.2)) else (
    (fm_116 x2 q10.2).bind fun q13 =>
    if (fx_b q13.1) = 0 then (
      some ((-1 : Int32), q13.2)) else (
      (fx_ld q13.2 4 ((x1 * (4 : Int32)) + x2)).bind fun v15 =>
      some (v15, q13.2)))
theorem fe_112 {d : Nat} (hd : 1 ≤ d) {x1 : Int32} {x2 : Int32} {σ : fx_S} {q : Int32 × fx_S} (h : fm_112 x1 x2 σ = some q) : fx_E none 112 d 0 [some (.ref 0), some (.int x1), some (.int x2)] [] σ (some (.int q.1)) q.2 := by
  unfold fm_112 at h
  refine fs_iload_n (k := 1) (p := 1) (by decide +kernel) rfl rfl ?_
  obtain ⟨q10, e9, h⟩ := fx_bd h
  refine fs_callS (idx := 94) (mj := 114) (na := 1) (mx := 1) (p := 4) (args := [.int x1]) (rest := []) (al2 := [some (.int x1)]) (by decide +kernel) rfl (by decide +kernel) rfl rfl rfl rfl rfl rfl rfl (by omega) (fun d' hd' => fe_114 (by omega) e9) rfl ?_
  by_cases c11 : (fx_b q10.1) = 0
  · rw [if_pos c11] at h
    refine fs_if_eq_t (off := 26) (t := 30) (by decide +kernel) (by decide +kernel) c11 ?_
    refine fs_iconst (n := -1) (p := 31) (by decide +kernel) rfl kc_m1 ?_
    have h := Option.some.inj h
    subst h
    exact fs_iret (by decide +kernel) rt_112
  · rw [if_neg c11] at h
    refine fs_if_eq_f (off := 26) (t := 30) (p := 7) (by decide +kernel) (by decide +kernel) rfl c11 ?_
    refine fs_iload_n (k := 2) (p := 8) (by decide +kernel) rfl rfl ?_
    obtain ⟨q13, e12, h⟩ := fx_bd h
    refine fs_callS (idx := 116) (mj := 116) (na := 1) (mx := 1) (p := 11) (args := [.int x2]) (rest := []) (al2 := [some (.int x2)]) (by decide +kernel) rfl (by decide +kernel) rfl rfl rfl rfl rfl rfl rfl (by omega) (fun d' hd' => fe_116 (by omega) e12) rfl ?_
    by_cases c14 : (fx_b q13.1) = 0
    · rw [if_pos c14] at h
      refine fs_if_eq_t (off := 19) (t := 30) (by decide +kernel) (by decide +kernel) c14 ?_
      refine fs_iconst (n := -1) (p := 31) (by decide +kernel) rfl kc_m1 ?_
      have h := Option.some.inj h
      subst h
      exact fs_iret (by decide +kernel) rt_112
    · rw [if_neg c14] at h
      refine fs_if_eq_f (off := 19) (t := 30) (p := 14) (by decide +kernel) (by decide +kernel) rfl c14 ?_
      refine fs_aload_n (k := 0) (p := 15) (by decide +kernel) rfl rfl ?_
      refine fs_gfr (idx := 13) (ci := 9) (j := 1) (p := 18) (by decide +kernel) rfl (by decide +kernel) fo_0 (fr_a0_1) ?_
      refine fs_gfr (idx := 119) (ci := 6) (j := 2) (p := 21) (by decide +kernel) rfl (by decide +kernel) fo_1 (fr_a1_2) ?_
      refine fs_iload_n (k := 1) (p := 22) (by decide +kernel) rfl rfl ?_
      refine fs_iconst (n := 4) (p := 23) (by decide +kernel) rfl kc_4 ?_
      refine fs_imul (p := 24) (by decide +kernel) rfl ?_
      refine fs_iload_n (k := 2) (p := 25) (by decide +kernel) rfl rfl ?_
      refine fs_iadd (p := 26) (by decide +kernel) rfl ?_
      obtain ⟨v15, e16, h⟩ := fx_bd h
      refine fs_iaload (p := 27) (by decide +kernel) rfl e16 ?_
      refine fs_goto (off := 4) (p := 31) (by decide +kernel) (by decide +kernel) ?_
      have h := Option.some.inj h
      subst h
      exact fs_iret (by decide +kernel) rt_112

/-! ZoneShares.districtOf(I)I -/
theorem mx_113 : iv_mx 113 = 2 := by decide +kernel
theorem rt_113 : iv_rt 113 = some .int := by decide +kernel
def fm_113 (x1 : Int32) (σ : fx_S) : Option (Int32 × fx_S) :=
  (fm_115 x1 σ).bind fun q7 =>
  if (fx_b q7.1) = 0 then (
    some ((-1 : Int32), q7.2)) else (
    (fx_ld q7.2 5 x1).bind fun v9 =>
    some (v9, q7.2))
theorem fe_113 {d : Nat} (hd : 1 ≤ d) {x1 : Int32} {σ : fx_S} {q : Int32 × fx_S} (h : fm_113 x1 σ = some q) : fx_E none 113 d 0 [some (.ref 0), some (.int x1)] [] σ (some (.int q.1)) q.2 := by
  unfold fm_113 at h
  refine fs_iload_n (k := 1) (p := 1) (by decide +kernel) rfl rfl ?_
  obtain ⟨q7, e6, h⟩ := fx_bd h
  refine fs_callS (idx := 128) (mj := 115) (na := 1) (mx := 1) (p := 4) (args := [.int x1]) (rest := []) (al2 := [some (.int x1)]) (by decide +kernel) rfl (by decide +kernel) rfl rfl rfl rfl rfl rfl rfl (by omega) (fun d' hd' => fe_115 (by omega) e6) rfl ?_
  by_cases c8 : (fx_b q7.1) = 0
  · rw [if_pos c8] at h
    refine fs_if_eq_t (off := 15) (t := 19) (by decide +kernel) (by decide +kernel) c8 ?_
    refine fs_iconst (n := -1) (p := 20) (by decide +kernel) rfl kc_m1 ?_
    have h := Option.some.inj h
    subst h
    exact fs_iret (by decide +kernel) rt_113
  · rw [if_neg c8] at h
    refine fs_if_eq_f (off := 15) (t := 19) (p := 7) (by decide +kernel) (by decide +kernel) rfl c8 ?_
    refine fs_aload_n (k := 0) (p := 8) (by decide +kernel) rfl rfl ?_
    refine fs_gfr (idx := 13) (ci := 9) (j := 1) (p := 11) (by decide +kernel) rfl (by decide +kernel) fo_0 (fr_a0_1) ?_
    refine fs_gfr (idx := 134) (ci := 6) (j := 3) (p := 14) (by decide +kernel) rfl (by decide +kernel) fo_1 (fr_a1_3) ?_
    refine fs_iload_n (k := 1) (p := 15) (by decide +kernel) rfl rfl ?_
    obtain ⟨v9, e10, h⟩ := fx_bd h
    refine fs_iaload (p := 16) (by decide +kernel) rfl e10 ?_
    refine fs_goto (off := 4) (p := 20) (by decide +kernel) (by decide +kernel) ?_
    have h := Option.some.inj h
    subst h
    exact fs_iret (by decide +kernel) rt_113

/-! ZoneShares.startAct()V -/
theorem mx_119 : iv_mx 119 = 1 := by decide +kernel
theorem rt_119 : iv_rt 119 = none := by decide +kernel
def fm_119 (σ : fx_S) : Option (fx_S) :=
  (fm_31 1 σ).bind fun q6 =>
  (fm_120 q6).bind fun q8 =>
  some q8
theorem fe_119 {d : Nat} (hd : 2 ≤ d) {σ : fx_S} {q : fx_S} (h : fm_119 σ = some q) : fx_E none 119 d 0 [some (.ref 0)] [] σ none q := by
  unfold fm_119 at h
  refine fs_aload_n (k := 0) (p := 1) (by decide +kernel) rfl rfl ?_
  refine fs_gfr (idx := 29) (ci := 9) (j := 2) (p := 4) (by decide +kernel) rfl (by decide +kernel) fo_0 (fr_a0_2) ?_
  refine fs_aload_n (k := 0) (p := 5) (by decide +kernel) rfl rfl ?_
  refine fs_gfr (idx := 13) (ci := 9) (j := 1) (p := 8) (by decide +kernel) rfl (by decide +kernel) fo_0 (fr_a0_1) ?_
  obtain ⟨q6, e5, h⟩ := fx_bd h
  refine fs_callV (idx := 310) (mj := 31) (ci := 3) (na := 1) (mx := 2) (p := 11) (args := [.ref 16, .ref 1]) (rest := []) (al2 := [some (.ref 16), some (.ref 1)]) (by decide +kernel) rfl (by decide +kernel) fo_16 rfl rfl rfl rfl rfl rfl rfl (by omega) (fun d' hd' => fe_31 (by omega) e5) rfl ?_
  refine fs_aload_n (k := 0) (p := 12) (by decide +kernel) rfl rfl ?_
  obtain ⟨q8, e7, h⟩ := fx_bd h
  refine fs_callV (idx := 163) (mj := 120) (ci := 9) (na := 0) (mx := 2) (p := 15) (args := [.ref 0]) (rest := []) (al2 := [some (.ref 0), none]) (by decide +kernel) rfl (by decide +kernel) fo_0 rfl rfl rfl rfl rfl rfl rfl (by omega) (fun d' hd' => fe_120 (by omega) e7) rfl ?_
  have h := Option.some.inj h
  subst h
  exact fs_ret (by decide +kernel) rt_119

/-! ZoneShares.countPieces()I -/
theorem mx_123 : iv_mx 123 = 6 := by decide +kernel
theorem rt_123 : iv_rt 123 = some .int := by decide +kernel
def fm_123_101 (k_20 : Int32 → Int32 → Int32 → fx_S → Option (Int32 × fx_S)) (x1 : Int32) (x2 : Int32) (x3 : Int32) (σ : fx_S) : Option (Int32 × fx_S) :=
  k_20 x1 x2 (x3 + (1 : Int32)) σ
theorem fe_123_101 {d : Nat} (hd : 1 ≤ d) {k_20 : Int32 → Int32 → Int32 → fx_S → Option (Int32 × fx_S)} (hk_20 : ∀ (x1 : Int32) (x2 : Int32) (x3 : Int32) (o4 : Option Value) (o5 : Option Value) (σ : fx_S) (q : Int32 × fx_S), k_20 x1 x2 x3 σ = some q → fx_E none 123 d 20 [some (.ref 0), some (.int x1), some (.int x2), some (.int x3), o4, o5] [] σ (some (.int q.1)) q.2) (x1 : Int32) (x2 : Int32) (x3 : Int32) (o4 : Option Value) (o5 : Option Value) (σ : fx_S) (q : Int32 × fx_S) (h : fm_123_101 k_20  x1 x2 x3 σ = some q) : fx_E none 123 d 101 [some (.ref 0), some (.int x1), some (.int x2), some (.int x3), o4, o5] [] σ (some (.int q.1)) q.2 := by
  unfold fm_123_101 at h
  refine fs_iinc (k := 3) (n := 1) (p := 104) (M := 6) (al' := [some (.ref 0), some (.int x1), some (.int x2), some (.int (x3 + (1 : Int32))), o4, o5]) (by decide +kernel) rfl kc_1 mx_123 rfl rfl rfl ?_
  refine fs_goto (off := -84) (p := 20) (by decide +kernel) (by decide +kernel) ?_
  exact hk_20 _ _ _ _ _ _ _ h
def fm_123_88 (k_20 : Int32 → Int32 → Int32 → fx_S → Option (Int32 × fx_S)) (x2 : Int32) (x3 : Int32) (x5 : Int32) (s0 : Int32) (s1 : Int32) (σ : fx_S) : Option (Int32 × fx_S) :=
  (fx_ld σ 69 x5).bind fun v1 =>
  (fx_st σ 69 x5 (v1 + (1 : Int32))).bind fun t3 =>
  fm_123_101 k_20 (s0 + s1) x2 x3 t3
theorem fe_123_88 {d : Nat} (hd : 1 ≤ d) {k_20 : Int32 → Int32 → Int32 → fx_S → Option (Int32 × fx_S)} (hk_20 : ∀ (x1 : Int32) (x2 : Int32) (x3 : Int32) (o4 : Option Value) (o5 : Option Value) (σ : fx_S) (q : Int32 × fx_S), k_20 x1 x2 x3 σ = some q → fx_E none 123 d 20 [some (.ref 0), some (.int x1), some (.int x2), some (.int x3), o4, o5] [] σ (some (.int q.1)) q.2) (x2 : Int32) (x3 : Int32) (x5 : Int32) (s0 : Int32) (s1 : Int32) (o1 : Option Value) (o4 : Option Value) (σ : fx_S) (q : Int32 × fx_S) (h : fm_123_88 k_20  x2 x3 x5 s0 s1 σ = some q) : fx_E none 123 d 88 [some (.ref 0), o1, some (.int x2), some (.int x3), o4, some (.int x5)] [.int s1, .int s0] σ (some (.int q.1)) q.2 := by
  unfold fm_123_88 at h
  refine fs_iadd (p := 89) (by decide +kernel) rfl ?_
  refine fs_istore_n (k := 1) (p := 90) (M := 6) (al' := [some (.ref 0), some (.int (s0 + s1)), some (.int x2), some (.int x3), o4, some (.int x5)]) (by decide +kernel) rfl mx_123 rfl rfl ?_
  refine fs_aload_n (k := 0) (p := 91) (by decide +kernel) rfl rfl ?_
  refine fs_gfr (idx := 54) (ci := 9) (j := 7) (p := 94) (by decide +kernel) rfl (by decide +kernel) fo_0 (fr_a0_7) ?_
  refine fs_iload (k := 5) (p := 96) (by decide +kernel) rfl rfl ?_
  refine fs_dup2 (p := 97) (by decide +kernel) rfl rfl rfl ?_
  obtain ⟨v1, e2, h⟩ := fx_bd h
  refine fs_iaload (p := 98) (by decide +kernel) rfl e2 ?_
  refine fs_iconst (n := 1) (p := 99) (by decide +kernel) rfl kc_1 ?_
  refine fs_iadd (p := 100) (by decide +kernel) rfl ?_
  obtain ⟨t3, e4, h⟩ := fx_bd h
  refine fs_iastore (p := 101) (by decide +kernel) rfl e4 ?_
  exact fe_123_101 hd hk_20 _ _ _ _ _ _ _ h
def fm_123_20 : Nat → Int32 → Int32 → Int32 → fx_S → Option (Int32 × fx_S)
  | 0, _, _, _, _ => none
  | n + 1, x1, x2, x3, σ =>
    if x2 ≤ x3 then (
      some (x1, σ)) else (
      (fm_60 1 (0 : Int32) x3 σ).bind fun q3 =>
      if (8 : Int32) ≤ q3.1 then (
        fm_123_101 (fm_123_20 n) x1 x2 x3 q3.2) else (
        (fm_60 1 (1 : Int32) x3 q3.2).bind fun q6 =>
        (fm_60 1 (2 : Int32) x3 q6.2).bind fun q8 =>
        (fx_ld q8.2 69 ((((q3.1 * (9 : Int32)) + q6.1) * (4 : Int32)) + q8.1)).bind fun v9 =>
        fm_123_88 (fm_123_20 n) x2 x3 ((((q3.1 * (9 : Int32)) + q6.1) * (4 : Int32)) + q8.1) x1 (if ¬ v9 = 0 then (0 : Int32) else (1 : Int32)) q8.2))
theorem fe_123_20 {d : Nat} (hd : 1 ≤ d) : ∀ (n : Nat) (x1 : Int32) (x2 : Int32) (x3 : Int32) (o4 : Option Value) (o5 : Option Value) (σ : fx_S) (q : Int32 × fx_S), fm_123_20 n x1 x2 x3 σ = some q → fx_E none 123 d 20 [some (.ref 0), some (.int x1), some (.int x2), some (.int x3), o4, o5] [] σ (some (.int q.1)) q.2 := by
  intro n
  induction n with
  | zero =>
    intro x1 x2 x3 o4 o5 σ q  h
    rw [fm_123_20] at h
    exact fx_no h
  | succ n ih =>
    intro x1 x2 x3 o4 o5 σ q  h
    rw [fm_123_20] at h
    refine fs_iload_n (k := 3) (p := 21) (by decide +kernel) rfl rfl ?_
    refine fs_iload_n (k := 2) (p := 22) (by decide +kernel) rfl rfl ?_
    by_cases c1 : x2 ≤ x3
    · rw [if_pos c1] at h
      refine fs_icmp_ge_t (off := 85) (t := 107) (by decide +kernel) (by decide +kernel) c1 ?_
      refine fs_iload_n (k := 1) (p := 108) (by decide +kernel) rfl rfl ?_
      have h := Option.some.inj h
      subst h
      exact fs_iret (by decide +kernel) rt_123
    · rw [if_neg c1] at h
      refine fs_icmp_ge_f (off := 85) (t := 107) (p := 25) (by decide +kernel) (by decide +kernel) rfl c1 ?_
      refine fs_aload_n (k := 0) (p := 26) (by decide +kernel) rfl rfl ?_
      refine fs_gfr (idx := 13) (ci := 9) (j := 1) (p := 29) (by decide +kernel) rfl (by decide +kernel) fo_0 (fr_a0_1) ?_
      refine fs_iconst (n := 0) (p := 30) (by decide +kernel) rfl kc_0 ?_
      refine fs_iload_n (k := 3) (p := 31) (by decide +kernel) rfl rfl ?_
      obtain ⟨q3, e2, h⟩ := fx_bd h
      refine fs_callV (idx := 177) (mj := 60) (ci := 6) (na := 2) (mx := 3) (p := 34) (args := [.ref 1, .int (0 : Int32), .int x3]) (rest := []) (al2 := [some (.ref 1), some (.int (0 : Int32)), some (.int x3)]) (by decide +kernel) rfl (by decide +kernel) fo_1 rfl rfl rfl rfl rfl rfl rfl (by omega) (fun d' hd' => fe_60 (by omega) e2) rfl ?_
      refine fs_istore (k := 4) (p := 36) (M := 6) (al' := [some (.ref 0), some (.int x1), some (.int x2), some (.int x3), some (.int q3.1), o5]) (by decide +kernel) rfl mx_123 rfl rfl ?_
      refine fs_iload (k := 4) (p := 38) (by decide +kernel) rfl rfl ?_
      refine fs_bipush (n := 8) (p := 40) (by decide +kernel) rfl kb_8 ?_
      by_cases c4 : (8 : Int32) ≤ q3.1
      · rw [if_pos c4] at h
        refine fs_icmp_ge_t (off := 61) (t := 101) (by decide +kernel) (by decide +kernel) c4 ?_
        exact fe_123_101 hd ih _ _ _ _ _ _ _ h
      · rw [if_neg c4] at h
        refine fs_icmp_ge_f (off := 61) (t := 101) (p := 43) (by decide +kernel) (by decide +kernel) rfl c4 ?_
        refine fs_iload (k := 4) (p := 45) (by decide +kernel) rfl rfl ?_
        refine fs_bipush (n := 9) (p := 47) (by decide +kernel) rfl kb_9 ?_
        refine fs_imul (p := 48) (by decide +kernel) rfl ?_
        refine fs_aload_n (k := 0) (p := 49) (by decide +kernel) rfl rfl ?_
        refine fs_gfr (idx := 13) (ci := 9) (j := 1) (p := 52) (by decide +kernel) rfl (by decide +kernel) fo_0 (fr_a0_1) ?_
        refine fs_iconst (n := 1) (p := 53) (by decide +kernel) rfl kc_1 ?_
        refine fs_iload_n (k := 3) (p := 54) (by decide +kernel) rfl rfl ?_
        obtain ⟨q6, e5, h⟩ := fx_bd h
        refine fs_callV (idx := 177) (mj := 60) (ci := 6) (na := 2) (mx := 3) (p := 57) (args := [.ref 1, .int (1 : Int32), .int x3]) (rest := [.int (q3.1 * (9 : Int32))]) (al2 := [some (.ref 1), some (.int (1 : Int32)), some (.int x3)]) (by decide +kernel) rfl (by decide +kernel) fo_1 rfl rfl rfl rfl rfl rfl rfl (by omega) (fun d' hd' => fe_60 (by omega) e5) rfl ?_
        refine fs_iadd (p := 58) (by decide +kernel) rfl ?_
        refine fs_iconst (n := 4) (p := 59) (by decide +kernel) rfl kc_4 ?_
        refine fs_imul (p := 60) (by decide +kernel) rfl ?_
        refine fs_aload_n (k := 0) (p := 61) (by decide +kernel) rfl rfl ?_
        refine fs_gfr (idx := 13) (ci := 9) (j := 1) (p := 64) (by decide +kernel) rfl (by decide +kernel) fo_0 (fr_a0_1) ?_
        refine fs_iconst (n := 2) (p := 65) (by decide +kernel) rfl kc_2 ?_
        refine fs_iload_n (k := 3) (p := 66) (by decide +kernel) rfl rfl ?_
        obtain ⟨q8, e7, h⟩ := fx_bd h
        refine fs_callV (idx := 177) (mj := 60) (ci := 6) (na := 2) (mx := 3) (p := 69) (args := [.ref 1, .int (2 : Int32), .int x3]) (rest := [.int (((q3.1 * (9 : Int32)) + q6.1) * (4 : Int32))]) (al2 := [some (.ref 1), some (.int (2 : Int32)), some (.int x3)]) (by decide +kernel) rfl (by decide +kernel) fo_1 rfl rfl rfl rfl rfl rfl rfl (by omega) (fun d' hd' => fe_60 (by omega) e7) rfl ?_
        refine fs_iadd (p := 70) (by decide +kernel) rfl ?_
        refine fs_istore (k := 5) (p := 72) (M := 6) (al' := [some (.ref 0), some (.int x1), some (.int x2), some (.int x3), some (.int q3.1), some (.int ((((q3.1 * (9 : Int32)) + q6.1) * (4 : Int32)) + q8.1))]) (by decide +kernel) rfl mx_123 rfl rfl ?_
        refine fs_iload_n (k := 1) (p := 73) (by decide +kernel) rfl rfl ?_
        refine fs_aload_n (k := 0) (p := 74) (by decide +kernel) rfl rfl ?_
        refine fs_gfr (idx := 54) (ci := 9) (j := 7) (p := 77) (by decide +kernel) rfl (by decide +kernel) fo_0 (fr_a0_7) ?_
        refine fs_iload (k := 5) (p := 79) (by decide +kernel) rfl rfl ?_
        obtain ⟨v9, e10, h⟩ := fx_bd h
        refine fs_iaload (p := 80) (by decide +kernel) rfl e10 ?_
        by_cases c11 : ¬ v9 = 0
        · rw [if_pos c11] at h
          refine fs_if_ne_t (off := 7) (t := 87) (by decide +kernel) (by decide +kernel) c11 ?_
          refine fs_iconst (n := 0) (p := 88) (by decide +kernel) rfl kc_0 ?_
          exact fe_123_88 hd ih _ _ _ _ _ _ _ _ _ h
        · rw [if_neg c11] at h
          refine fs_if_ne_f (off := 7) (t := 87) (p := 83) (by decide +kernel) (by decide +kernel) rfl c11 ?_
          refine fs_iconst (n := 1) (p := 84) (by decide +kernel) rfl kc_1 ?_
          refine fs_goto (off := 4) (p := 88) (by decide +kernel) (by decide +kernel) ?_
          exact fe_123_88 hd ih _ _ _ _ _ _ _ _ _ h
def fm_123 (σ : fx_S) : Option (Int32 × fx_S) :=
  (fm_235 69 (0 : Int32) σ).bind fun q32 =>
  (fm_58 1 q32).bind fun q34 =>
  fm_123_20 100000 (0 : Int32) q34.1 (0 : Int32) q34.2
theorem fe_123 {d : Nat} (hd : 1 ≤ d) {σ : fx_S} {q : Int32 × fx_S} (h : fm_123 σ = some q) : fx_E none 123 d 0 [some (.ref 0), none, none, none, none, none] [] σ (some (.int q.1)) q.2 := by
  unfold fm_123 at h
  refine fs_aload_n (k := 0) (p := 1) (by decide +kernel) rfl rfl ?_
  refine fs_gfr (idx := 54) (ci := 9) (j := 7) (p := 4) (by decide +kernel) rfl (by decide +kernel) fo_0 (fr_a0_7) ?_
  refine fs_iconst (n := 0) (p := 5) (by decide +kernel) rfl kc_0 ?_
  obtain ⟨q32, e31, h⟩ := fx_bd h
  refine fs_callS (idx := 323) (mj := 235) (na := 2) (mx := 4) (p := 8) (args := [.ref 69, .int (0 : Int32)]) (rest := []) (al2 := [some (.ref 69), some (.int (0 : Int32)), none, none]) (by decide +kernel) rfl (by decide +kernel) rfl rfl rfl rfl rfl rfl rfl (by omega) (fun d' hd' => fe_235 (by omega) e31) rfl ?_
  refine fs_iconst (n := 0) (p := 9) (by decide +kernel) rfl kc_0 ?_
  refine fs_istore_n (k := 1) (p := 10) (M := 6) (al' := [some (.ref 0), some (.int (0 : Int32)), none, none, none, none]) (by decide +kernel) rfl mx_123 rfl rfl ?_
  refine fs_aload_n (k := 0) (p := 11) (by decide +kernel) rfl rfl ?_
  refine fs_gfr (idx := 13) (ci := 9) (j := 1) (p := 14) (by decide +kernel) rfl (by decide +kernel) fo_0 (fr_a0_1) ?_
  obtain ⟨q34, e33, h⟩ := fx_bd h
  refine fs_callV (idx := 90) (mj := 58) (ci := 6) (na := 0) (mx := 1) (p := 17) (args := [.ref 1]) (rest := []) (al2 := [some (.ref 1)]) (by decide +kernel) rfl (by decide +kernel) fo_1 rfl rfl rfl rfl rfl rfl rfl (by omega) (fun d' hd' => fe_58 (by omega) e33) rfl ?_
  refine fs_istore_n (k := 2) (p := 18) (M := 6) (al' := [some (.ref 0), some (.int (0 : Int32)), some (.int q34.1), none, none, none]) (by decide +kernel) rfl mx_123 rfl rfl ?_
  refine fs_iconst (n := 0) (p := 19) (by decide +kernel) rfl kc_0 ?_
  refine fs_istore_n (k := 3) (p := 20) (M := 6) (al' := [some (.ref 0), some (.int (0 : Int32)), some (.int q34.1), some (.int (0 : Int32)), none, none]) (by decide +kernel) rfl mx_123 rfl rfl ?_
  exact fe_123_20 hd 100000 _ _ _ _ _ _ _ h

/-! ZoneShares.liesApart(II)Z -/
theorem mx_125 : iv_mx 125 = 5 := by decide +kernel
theorem rt_125 : iv_rt 125 = some .boolean := by decide +kernel
def fm_125_52 : Nat → Int32 → Int32 → Int32 → fx_S → Option (Bool × fx_S)
  | 0, _, _, _, _ => none
  | n + 1, x1, x3, x4, σ =>
    if (8 : Int32) ≤ x4 then (
      some (false, σ)) else (
      if ¬ x3 = ((1 : Int32) <<< (x4 &&& 31)) then (
        fm_125_52 n x1 x3 (x4 + (1 : Int32)) σ) else (
        (fm_62 1 (1 : Int32) x4 σ).bind fun q4 =>
        (fm_62 1 (0 : Int32) x1 q4.2).bind fun q6 =>
        if ¬ q4.1 = q6.1 then (
          some (false, q6.2)) else (
          some (true, q6.2))))
theorem fe_125_52 {d : Nat} (hd : 2 ≤ d) : ∀ (n : Nat) (x1 : Int32) (x3 : Int32) (x4 : Int32) (o2 : Option Value) (σ : fx_S) (q : Bool × fx_S), fm_125_52 n x1 x3 x4 σ = some q → fx_E none 125 d 52 [some (.ref 0), some (.int x1), o2, some (.int x3), some (.int x4)] [] σ (some (.int (fx_b q.1))) q.2 := by
  intro n
  induction n with
  | zero =>
    intro x1 x3 x4 o2 σ q  h
    rw [fm_125_52] at h
    exact fx_no h
  | succ n ih =>
    intro x1 x3 x4 o2 σ q  h
    rw [fm_125_52] at h
    refine fs_iload (k := 4) (p := 54) (by decide +kernel) rfl rfl ?_
    refine fs_bipush (n := 8) (p := 56) (by decide +kernel) rfl kb_8 ?_
    by_cases c1 : (8 : Int32) ≤ x4
    · rw [if_pos c1] at h
      refine fs_icmp_ge_t (off := 45) (t := 101) (by decide +kernel) (by decide +kernel) c1 ?_
      refine fs_iconst (n := 0) (p := 102) (by decide +kernel) rfl kc_0 ?_
      have h := Option.some.inj h
      subst h
      exact fs_zret (b := false) (by decide +kernel) rt_125
    · rw [if_neg c1] at h
      refine fs_icmp_ge_f (off := 45) (t := 101) (p := 59) (by decide +kernel) (by decide +kernel) rfl c1 ?_
      refine fs_iload_n (k := 3) (p := 60) (by decide +kernel) rfl rfl ?_
      refine fs_iconst (n := 1) (p := 61) (by decide +kernel) rfl kc_1 ?_
      refine fs_iload (k := 4) (p := 63) (by decide +kernel) rfl rfl ?_
      refine fs_ishl (p := 64) (by decide +kernel) rfl ?_
      by_cases c2 : ¬ x3 = ((1 : Int32) <<< (x4 &&& 31))
      · rw [if_pos c2] at h
        refine fs_icmp_ne_t (off := 31) (t := 95) (by decide +kernel) (by decide +kernel) c2 ?_
        refine fs_iinc (k := 4) (n := 1) (p := 98) (M := 5) (al' := [some (.ref 0), some (.int x1), o2, some (.int x3), some (.int (x4 + (1 : Int32)))]) (by decide +kernel) rfl kc_1 mx_125 rfl rfl rfl ?_
        refine fs_goto (off := -46) (p := 52) (by decide +kernel) (by decide +kernel) ?_
        exact ih _ _ _ _ _ _ h
      · rw [if_neg c2] at h
        refine fs_icmp_ne_f (off := 31) (t := 95) (p := 67) (by decide +kernel) (by decide +kernel) rfl c2 ?_
        refine fs_aload_n (k := 0) (p := 68) (by decide +kernel) rfl rfl ?_
        refine fs_gfr (idx := 13) (ci := 9) (j := 1) (p := 71) (by decide +kernel) rfl (by decide +kernel) fo_0 (fr_a0_1) ?_
        refine fs_iconst (n := 1) (p := 72) (by decide +kernel) rfl kc_1 ?_
        refine fs_iload (k := 4) (p := 74) (by decide +kernel) rfl rfl ?_
        obtain ⟨q4, e3, h⟩ := fx_bd h
        refine fs_callV (idx := 272) (mj := 62) (ci := 6) (na := 2) (mx := 6) (p := 77) (args := [.ref 1, .int (1 : Int32), .int x4]) (rest := []) (al2 := [some (.ref 1), some (.int (1 : Int32)), some (.int x4), none, none, none]) (by decide +kernel) rfl (by decide +kernel) fo_1 rfl rfl rfl rfl rfl rfl rfl (by omega) (fun d' hd' => fe_62 (by omega) e3) rfl ?_
        refine fs_aload_n (k := 0) (p := 78) (by decide +kernel) rfl rfl ?_
        refine fs_gfr (idx := 13) (ci := 9) (j := 1) (p := 81) (by decide +kernel) rfl (by decide +kernel) fo_0 (fr_a0_1) ?_
        refine fs_iconst (n := 0) (p := 82) (by decide +kernel) rfl kc_0 ?_
        refine fs_iload_n (k := 1) (p := 83) (by decide +kernel) rfl rfl ?_
        obtain ⟨q6, e5, h⟩ := fx_bd h
        refine fs_callV (idx := 272) (mj := 62) (ci := 6) (na := 2) (mx := 6) (p := 86) (args := [.ref 1, .int (0 : Int32), .int x1]) (rest := [.int q4.1]) (al2 := [some (.ref 1), some (.int (0 : Int32)), some (.int x1), none, none, none]) (by decide +kernel) rfl (by decide +kernel) fo_1 rfl rfl rfl rfl rfl rfl rfl (by omega) (fun d' hd' => fe_62 (by omega) e5) rfl ?_
        by_cases c7 : ¬ q4.1 = q6.1
        · rw [if_pos c7] at h
          refine fs_icmp_ne_t (off := 7) (t := 93) (by decide +kernel) (by decide +kernel) c7 ?_
          refine fs_iconst (n := 0) (p := 94) (by decide +kernel) rfl kc_0 ?_
          have h := Option.some.inj h
          subst h
          exact fs_zret (b := false) (by decide +kernel) rt_125
        · rw [if_neg c7] at h
          refine fs_icmp_ne_f (off := 7) (t := 93) (p := 89) (by decide +kernel) (by decide +kernel) rfl c7 ?_
          refine fs_iconst (n := 1) (p := 90) (by decide +kernel) rfl kc_1 ?_
          refine fs_goto (off := 4) (p := 94) (by decide +kernel) (by decide +kernel) ?_
          have h := Option.some.inj h
          subst h
          exact fs_zret (b := true) (by decide +kernel) rt_125
def fm_125 (x1 : Int32) (x2 : Int32) (σ : fx_S) : Option (Bool × fx_S) :=
  (fm_65 1 x1 σ).bind fun q17 =>
  if ¬ x2 = (3 : Int32) then (
    if ¬ x2 = (2 : Int32) then (
      fm_125_52 100000 x1 q17.1 (0 : Int32) q17.2) else (
      (fm_230 q17.1 q17.2).bind fun q21 =>
      if q21.1 ≤ (1 : Int32) then (
        some (false, q21.2)) else (
        some (true, q21.2)))) else (
    if ¬ ((q17.1 >>> ((8 : Int32) &&& 31)) &&& (1 : Int32)) = (1 : Int32) then (
      some (false, q17.2)) else (
      some (true, q17.2)))
theorem fe_125 {d : Nat} (hd : 2 ≤ d) {x1 : Int32} {x2 : Int32} {σ : fx_S} {q : Bool × fx_S} (h : fm_125 x1 x2 σ = some q) : fx_E none 125 d 0 [some (.ref 0), some (.int x1), some (.int x2), none, none] [] σ (some (.int (fx_b q.1))) q.2 := by
  unfold fm_125 at h
  refine fs_aload_n (k := 0) (p := 1) (by decide +kernel) rfl rfl ?_
  refine fs_gfr (idx := 13) (ci := 9) (j := 1) (p := 4) (by decide +kernel) rfl (by decide +kernel) fo_0 (fr_a0_1) ?_
  refine fs_iload_n (k := 1) (p := 5) (by decide +kernel) rfl rfl ?_
  obtain ⟨q17, e16, h⟩ := fx_bd h
  refine fs_callV (idx := 329) (mj := 65) (ci := 6) (na := 1) (mx := 5) (p := 8) (args := [.ref 1, .int x1]) (rest := []) (al2 := [some (.ref 1), some (.int x1), none, none, none]) (by decide +kernel) rfl (by decide +kernel) fo_1 rfl rfl rfl rfl rfl rfl rfl (by omega) (fun d' hd' => fe_65 (by omega) e16) rfl ?_
  refine fs_istore_n (k := 3) (p := 9) (M := 5) (al' := [some (.ref 0), some (.int x1), some (.int x2), some (.int q17.1), none]) (by decide +kernel) rfl mx_125 rfl rfl ?_
  refine fs_iload_n (k := 2) (p := 10) (by decide +kernel) rfl rfl ?_
  refine fs_iconst (n := 3) (p := 11) (by decide +kernel) rfl kc_3 ?_
  by_cases c18 : ¬ x2 = (3 : Int32)
  · rw [if_pos c18] at h
    refine fs_icmp_ne_t (off := 19) (t := 30) (by decide +kernel) (by decide +kernel) c18 ?_
    refine fs_iload_n (k := 2) (p := 31) (by decide +kernel) rfl rfl ?_
    refine fs_iconst (n := 2) (p := 32) (by decide +kernel) rfl kc_2 ?_
    by_cases c19 : ¬ x2 = (2 : Int32)
    · rw [if_pos c19] at h
      refine fs_icmp_ne_t (off := 17) (t := 49) (by decide +kernel) (by decide +kernel) c19 ?_
      refine fs_iconst (n := 0) (p := 50) (by decide +kernel) rfl kc_0 ?_
      refine fs_istore (k := 4) (p := 52) (M := 5) (al' := [some (.ref 0), some (.int x1), some (.int x2), some (.int q17.1), some (.int (0 : Int32))]) (by decide +kernel) rfl mx_125 rfl rfl ?_
      exact fe_125_52 hd 100000 _ _ _ _ _ _ h
    · rw [if_neg c19] at h
      refine fs_icmp_ne_f (off := 17) (t := 49) (p := 35) (by decide +kernel) (by decide +kernel) rfl c19 ?_
      refine fs_iload_n (k := 3) (p := 36) (by decide +kernel) rfl rfl ?_
      obtain ⟨q21, e20, h⟩ := fx_bd h
      refine fs_callS (idx := 332) (mj := 230) (na := 1) (mx := 1) (p := 39) (args := [.int q17.1]) (rest := []) (al2 := [some (.int q17.1)]) (by decide +kernel) rfl (by decide +kernel) rfl rfl rfl rfl rfl rfl rfl (by omega) (fun d' hd' => fe_230 (by omega) e20) rfl ?_
      refine fs_iconst (n := 1) (p := 40) (by decide +kernel) rfl kc_1 ?_
      by_cases c22 : q21.1 ≤ (1 : Int32)
      · rw [if_pos c22] at h
        refine fs_icmp_le_t (off := 7) (t := 47) (by decide +kernel) (by decide +kernel) c22 ?_
        refine fs_iconst (n := 0) (p := 48) (by decide +kernel) rfl kc_0 ?_
        have h := Option.some.inj h
        subst h
        exact fs_zret (b := false) (by decide +kernel) rt_125
      · rw [if_neg c22] at h
        refine fs_icmp_le_f (off := 7) (t := 47) (p := 43) (by decide +kernel) (by decide +kernel) rfl c22 ?_
        refine fs_iconst (n := 1) (p := 44) (by decide +kernel) rfl kc_1 ?_
        refine fs_goto (off := 4) (p := 48) (by decide +kernel) (by decide +kernel) ?_
        have h := Option.some.inj h
        subst h
        exact fs_zret (b := true) (by decide +kernel) rt_125
  · rw [if_neg c18] at h
    refine fs_icmp_ne_f (off := 19) (t := 30) (p := 14) (by decide +kernel) (by decide +kernel) rfl c18 ?_
    refine fs_iload_n (k := 3) (p := 15) (by decide +kernel) rfl rfl ?_
    refine fs_bipush (n := 8) (p := 17) (by decide +kernel) rfl kb_8 ?_
    refine fs_ishr (p := 18) (by decide +kernel) rfl ?_
    refine fs_iconst (n := 1) (p := 19) (by decide +kernel) rfl kc_1 ?_
    refine fs_iand (p := 20) (by decide +kernel) rfl ?_
    refine fs_iconst (n := 1) (p := 21) (by decide +kernel) rfl kc_1 ?_
    by_cases c23 : ¬ ((q17.1 >>> ((8 : Int32) &&& 31)) &&& (1 : Int32)) = (1 : Int32)
    · rw [if_pos c23] at h
      refine fs_icmp_ne_t (off := 7) (t := 28) (by decide +kernel) (by decide +kernel) c23 ?_
      refine fs_iconst (n := 0) (p := 29) (by decide +kernel) rfl kc_0 ?_
      have h := Option.some.inj h
      subst h
      exact fs_zret (b := false) (by decide +kernel) rt_125
    · rw [if_neg c23] at h
      refine fs_icmp_ne_f (off := 7) (t := 28) (p := 24) (by decide +kernel) (by decide +kernel) rfl c23 ?_
      refine fs_iconst (n := 1) (p := 25) (by decide +kernel) rfl kc_1 ?_
      refine fs_goto (off := 4) (p := 29) (by decide +kernel) (by decide +kernel) ?_
      have h := Option.some.inj h
      subst h
      exact fs_zret (b := true) (by decide +kernel) rt_125

/-! ZoneShares.lowest(JJI)J -/
theorem mx_127 : iv_mx 127 = 7 := by decide +kernel
theorem rt_127 : iv_rt 127 = some .long := by decide +kernel
def fm_127_28 (x5 : Int64) (s0 : Int64) (σ : fx_S) : Option (Int64 × fx_S) :=
  if ¬ x5 = 0 then (
  some ((s0 / x5), σ)) else none
theorem fe_127_28 {d : Nat} (hd : 1 ≤ d) (x5 : Int64) (s0 : Int64) (o0 : Option Value) (o2 : Option Value) (o4 : Option Value) (σ : fx_S) (q : Int64 × fx_S) (h : fm_127_28  x5 s0 σ = some q) : fx_E none 127 d 28 [o0, none, o2, none, o4, some (.long x5), none] [.long s0] σ (some (.long q.1)) q.2 := by
  unfold fm_127_28 at h
  refine fs_lload (k := 5) (p := 30) (by decide +kernel) rfl rfl ?_
  obtain ⟨z1, h⟩ := fx_gd h
  refine fs_ldiv (p := 31) (by decide +kernel) rfl z1 ?_
  have h := Option.some.inj h
  subst h
  exact fs_lret (by decide +kernel) rt_127
def fm_127 (x0 : Int64) (x2 : Int64) (x4 : Int32) (σ : fx_S) : Option (Int64 × fx_S) :=
  (fm_128 x0 x2 σ).bind fun q7 =>
  if ¬ q7.1 = (0 : Int64) then (
    fm_127_28 q7.1 (if ¬ x4 = 0 then x2 else x0) q7.2) else (
    some ((-1 : Int64), q7.2))
theorem fe_127 {d : Nat} (hd : 1 ≤ d) {x0 : Int64} {x2 : Int64} {x4 : Int32} {σ : fx_S} {q : Int64 × fx_S} (h : fm_127 x0 x2 x4 σ = some q) : fx_E none 127 d 0 [some (.long x0), none, some (.long x2), none, some (.int x4), none, none] [] σ (some (.long q.1)) q.2 := by
  unfold fm_127 at h
  refine fs_lload_n (k := 0) (p := 1) (by decide +kernel) rfl rfl ?_
  refine fs_lload_n (k := 2) (p := 2) (by decide +kernel) rfl rfl ?_
  obtain ⟨q7, e6, h⟩ := fx_bd h
  refine fs_callS (idx := 337) (mj := 128) (na := 2) (mx := 11) (p := 5) (args := [.long x0, .long x2]) (rest := []) (al2 := [some (.long x0), none, some (.long x2), none, none, none, none, none, none, none, none]) (by decide +kernel) rfl (by decide +kernel) rfl rfl rfl rfl rfl rfl rfl (by omega) (fun d' hd' => fe_128 (by omega) e6) rfl ?_
  refine fs_lstore (k := 5) (p := 7) (M := 7) (al' := [some (.long x0), none, some (.long x2), none, some (.int x4), some (.long q7.1), none]) (by decide +kernel) rfl mx_127 rfl rfl ?_
  refine fs_lload (k := 5) (p := 9) (by decide +kernel) rfl rfl ?_
  refine fs_lconst (n := 0) (p := 10) (by decide +kernel) rfl kl_0 ?_
  by_cases c8 : ¬ q7.1 = (0 : Int64)
  · rw [if_pos c8] at h
    refine fs_lcmp_ne_t (off := 7) (t := 18) (by decide +kernel) (by decide +kernel) (by decide +kernel) c8 ?_
    refine fs_iload (k := 4) (p := 20) (by decide +kernel) rfl rfl ?_
    by_cases c9 : ¬ x4 = 0
    · rw [if_pos c9] at h
      refine fs_if_ne_t (off := 7) (t := 27) (by decide +kernel) (by decide +kernel) c9 ?_
      refine fs_lload_n (k := 2) (p := 28) (by decide +kernel) rfl rfl ?_
      exact fe_127_28 hd _ _ _ _ _ _ _ h
    · rw [if_neg c9] at h
      refine fs_if_ne_f (off := 7) (t := 27) (p := 23) (by decide +kernel) (by decide +kernel) rfl c9 ?_
      refine fs_lload_n (k := 0) (p := 24) (by decide +kernel) rfl rfl ?_
      refine fs_goto (off := 4) (p := 28) (by decide +kernel) (by decide +kernel) ?_
      exact fe_127_28 hd _ _ _ _ _ _ _ h
  · rw [if_neg c8] at h
    refine fs_lcmp_ne_f (off := 7) (t := 18) (p := 14) (by decide +kernel) (by decide +kernel) (by decide +kernel) rfl c8 ?_
    refine fs_ldc2 (idx := 221) (p := 17) (x := -1) (by decide +kernel) rfl (by decide +kernel) ?_
    have h := Option.some.inj h
    subst h
    exact fs_lret (by decide +kernel) rt_127

/-! ZoneSharesModel.feed(IIIII)I -/
theorem mx_134 : iv_mx 134 = 6 := by decide +kernel
theorem rt_134 : iv_rt 134 = some .int := by decide +kernel
def fm_134 (x1 : Int32) (x2 : Int32) (x3 : Int32) (x4 : Int32) (x5 : Int32) (σ : fx_S) : Option (Int32 × fx_S) :=
  if ((σ.1 215 4) + (20 : Int32)) ≤ (200 : Int32) then (
    (fm_135 x1 σ).bind fun q14 =>
    (fm_135 x2 q14).bind fun q16 =>
    (fm_135 x3 q16).bind fun q18 =>
    (fm_135 x4 q18).bind fun q20 =>
    (fm_135 x5 q20).bind fun q22 =>
    some ((q22.1 215 4), q22)) else (
    some ((-1 : Int32), σ))
theorem fe_134 {d : Nat} (hd : 1 ≤ d) {x1 : Int32} {x2 : Int32} {x3 : Int32} {x4 : Int32} {x5 : Int32} {σ : fx_S} {q : Int32 × fx_S} (h : fm_134 x1 x2 x3 x4 x5 σ = some q) : fx_E none 134 d 0 [some (.ref 215), some (.int x1), some (.int x2), some (.int x3), some (.int x4), some (.int x5)] [] σ (some (.int q.1)) q.2 := by
  unfold fm_134 at h
  refine fs_aload_n (k := 0) (p := 1) (by decide +kernel) rfl rfl ?_
  refine fs_gfi (idx := 107) (ci := 10) (j := 4) (p := 4) (by decide +kernel) rfl (by decide +kernel) fo_215 ?_
  refine fs_bipush (n := 20) (p := 6) (by decide +kernel) rfl kb_20 ?_
  refine fs_iadd (p := 7) (by decide +kernel) rfl ?_
  refine fs_sipush (n := 200) (p := 10) (by decide +kernel) rfl ks_200 ?_
  by_cases c12 : ((σ.1 215 4) + (20 : Int32)) ≤ (200 : Int32)
  · rw [if_pos c12] at h
    refine fs_icmp_le_t (off := 5) (t := 15) (by decide +kernel) (by decide +kernel) c12 ?_
    refine fs_aload_n (k := 0) (p := 16) (by decide +kernel) rfl rfl ?_
    refine fs_iload_n (k := 1) (p := 17) (by decide +kernel) rfl rfl ?_
    obtain ⟨q14, e13, h⟩ := fx_bd h
    refine fs_callV (idx := 110) (mj := 135) (ci := 10) (na := 1) (mx := 3) (p := 20) (args := [.ref 215, .int x1]) (rest := []) (al2 := [some (.ref 215), some (.int x1), none]) (by decide +kernel) rfl (by decide +kernel) fo_215 rfl rfl rfl rfl rfl rfl rfl (by omega) (fun d' hd' => fe_135 (by omega) e13) rfl ?_
    refine fs_aload_n (k := 0) (p := 21) (by decide +kernel) rfl rfl ?_
    refine fs_iload_n (k := 2) (p := 22) (by decide +kernel) rfl rfl ?_
    obtain ⟨q16, e15, h⟩ := fx_bd h
    refine fs_callV (idx := 110) (mj := 135) (ci := 10) (na := 1) (mx := 3) (p := 25) (args := [.ref 215, .int x2]) (rest := []) (al2 := [some (.ref 215), some (.int x2), none]) (by decide +kernel) rfl (by decide +kernel) fo_215 rfl rfl rfl rfl rfl rfl rfl (by omega) (fun d' hd' => fe_135 (by omega) e15) rfl ?_
    refine fs_aload_n (k := 0) (p := 26) (by decide +kernel) rfl rfl ?_
    refine fs_iload_n (k := 3) (p := 27) (by decide +kernel) rfl rfl ?_
    obtain ⟨q18, e17, h⟩ := fx_bd h
    refine fs_callV (idx := 110) (mj := 135) (ci := 10) (na := 1) (mx := 3) (p := 30) (args := [.ref 215, .int x3]) (rest := []) (al2 := [some (.ref 215), some (.int x3), none]) (by decide +kernel) rfl (by decide +kernel) fo_215 rfl rfl rfl rfl rfl rfl rfl (by omega) (fun d' hd' => fe_135 (by omega) e17) rfl ?_
    refine fs_aload_n (k := 0) (p := 31) (by decide +kernel) rfl rfl ?_
    refine fs_iload (k := 4) (p := 33) (by decide +kernel) rfl rfl ?_
    obtain ⟨q20, e19, h⟩ := fx_bd h
    refine fs_callV (idx := 110) (mj := 135) (ci := 10) (na := 1) (mx := 3) (p := 36) (args := [.ref 215, .int x4]) (rest := []) (al2 := [some (.ref 215), some (.int x4), none]) (by decide +kernel) rfl (by decide +kernel) fo_215 rfl rfl rfl rfl rfl rfl rfl (by omega) (fun d' hd' => fe_135 (by omega) e19) rfl ?_
    refine fs_aload_n (k := 0) (p := 37) (by decide +kernel) rfl rfl ?_
    refine fs_iload (k := 5) (p := 39) (by decide +kernel) rfl rfl ?_
    obtain ⟨q22, e21, h⟩ := fx_bd h
    refine fs_callV (idx := 110) (mj := 135) (ci := 10) (na := 1) (mx := 3) (p := 42) (args := [.ref 215, .int x5]) (rest := []) (al2 := [some (.ref 215), some (.int x5), none]) (by decide +kernel) rfl (by decide +kernel) fo_215 rfl rfl rfl rfl rfl rfl rfl (by omega) (fun d' hd' => fe_135 (by omega) e21) rfl ?_
    refine fs_aload_n (k := 0) (p := 43) (by decide +kernel) rfl rfl ?_
    refine fs_gfi (idx := 107) (ci := 10) (j := 4) (p := 46) (by decide +kernel) rfl (by decide +kernel) fo_215 ?_
    have h := Option.some.inj h
    subst h
    exact fs_iret (by decide +kernel) rt_134
  · rw [if_neg c12] at h
    refine fs_icmp_le_f (off := 5) (t := 15) (p := 13) (by decide +kernel) (by decide +kernel) rfl c12 ?_
    refine fs_iconst (n := -1) (p := 14) (by decide +kernel) rfl kc_m1 ?_
    have h := Option.some.inj h
    subst h
    exact fs_iret (by decide +kernel) rt_134

/-! ZoneSharesModel.readsPart()V -/
theorem mx_146 : iv_mx 146 = 5 := by decide +kernel
theorem rt_146 : iv_rt 146 = none := by decide +kernel
def fm_146_236 (x2 : Int32) (x4 : Int32) (σ : fx_S) : Option (fx_S) :=
  (fx_st σ 220 x2 x4).bind fun t1 =>
  some (fx_w1 t1 215 11 ((t1.1 215 11) ||| ((1 : Int32) <<< (x2 &&& 31))))
theorem fe_146_236 {d : Nat} (hd : 2 ≤ d) (x2 : Int32) (x4 : Int32) (o1 : Option Value) (o3 : Option Value) (σ : fx_S) (q : fx_S) (h : fm_146_236  x2 x4 σ = some q) : fx_E none 146 d 236 [some (.ref 215), o1, some (.int x2), o3, some (.int x4)] [] σ none q := by
  unfold fm_146_236 at h
  refine fs_aload_n (k := 0) (p := 237) (by decide +kernel) rfl rfl ?_
  refine fs_gfr (idx := 23) (ci := 10) (j := 10) (p := 240) (by decide +kernel) rfl (by decide +kernel) fo_215 (fr_a215_10) ?_
  refine fs_iload_n (k := 2) (p := 241) (by decide +kernel) rfl rfl ?_
  refine fs_iload (k := 4) (p := 243) (by decide +kernel) rfl rfl ?_
  obtain ⟨t1, e2, h⟩ := fx_bd h
  refine fs_iastore (p := 244) (by decide +kernel) rfl e2 ?_
  refine fs_aload_n (k := 0) (p := 245) (by decide +kernel) rfl rfl ?_
  refine fs_dup (p := 246) (by decide +kernel) rfl rfl ?_
  refine fs_gfi (idx := 173) (ci := 10) (j := 11) (p := 249) (by decide +kernel) rfl (by decide +kernel) fo_215 ?_
  refine fs_iconst (n := 1) (p := 250) (by decide +kernel) rfl kc_1 ?_
  refine fs_iload_n (k := 2) (p := 251) (by decide +kernel) rfl rfl ?_
  refine fs_ishl (p := 252) (by decide +kernel) rfl ?_
  refine fs_ior (p := 253) (by decide +kernel) rfl ?_
  refine fs_pfi (idx := 173) (ci := 10) (j := 11) (p := 256) (by decide +kernel) rfl (by decide +kernel) (by decide +kernel) fo_215 (fx_oki _ (by decide +kernel)) ?_
  have h := Option.some.inj h
  subst h
  exact fs_ret (by decide +kernel) rt_146
def fm_146_222 (x2 : Int32) (x3 : Int32) (x4 : Int32) (σ : fx_S) : Option (fx_S) :=
  if x4 ≤ (9999 : Int32) then (
    fm_146_236 x2 x4 σ) else (
    (fm_139 (2 : Int32) x3 σ).bind fun q3 =>
    fm_146_236 x2 x4 q3)
theorem fe_146_222 {d : Nat} (hd : 2 ≤ d) (x2 : Int32) (x3 : Int32) (x4 : Int32) (o1 : Option Value) (σ : fx_S) (q : fx_S) (h : fm_146_222  x2 x3 x4 σ = some q) : fx_E none 146 d 222 [some (.ref 215), o1, some (.int x2), some (.int x3), some (.int x4)] [] σ none q := by
  unfold fm_146_222 at h
  refine fs_iload (k := 4) (p := 224) (by decide +kernel) rfl rfl ?_
  refine fs_sipush (n := 9999) (p := 227) (by decide +kernel) rfl ks_9999 ?_
  by_cases c1 : x4 ≤ (9999 : Int32)
  · rw [if_pos c1] at h
    refine fs_icmp_le_t (off := 9) (t := 236) (by decide +kernel) (by decide +kernel) c1 ?_
    exact fe_146_236 hd _ _ _ _ _ _ h
  · rw [if_neg c1] at h
    refine fs_icmp_le_f (off := 9) (t := 236) (p := 230) (by decide +kernel) (by decide +kernel) rfl c1 ?_
    refine fs_aload_n (k := 0) (p := 231) (by decide +kernel) rfl rfl ?_
    refine fs_iconst (n := 2) (p := 232) (by decide +kernel) rfl kc_2 ?_
    refine fs_iload_n (k := 3) (p := 233) (by decide +kernel) rfl rfl ?_
    obtain ⟨q3, e2, h⟩ := fx_bd h
    refine fs_callV (idx := 144) (mj := 139) (ci := 10) (na := 2) (mx := 3) (p := 236) (args := [.ref 215, .int (2 : Int32), .int x3]) (rest := []) (al2 := [some (.ref 215), some (.int (2 : Int32)), some (.int x3)]) (by decide +kernel) rfl (by decide +kernel) fo_215 rfl rfl rfl rfl rfl rfl rfl (by omega) (fun d' hd' => fe_139 (by omega) e2) rfl ?_
    exact fe_146_236 hd _ _ _ _ _ _ h
def fm_146_164 : Nat → Int32 → Int32 → Int32 → fx_S → Option (fx_S)
  | 0, _, _, _, _ => none
  | n + 1, x2, x3, x4, σ =>
    (fm_138 σ).bind fun q2 =>
    if (fx_b q2.1) = 0 then (
      fm_146_222 x2 x3 x4 q2.2) else (
      (fm_137 q2.2).bind fun q5 =>
      (fm_130 (q5.1).toInt64 (48 : Int64) (57 : Int64) q5.2).bind fun q7 =>
      if (fx_b q7.1) = 0 then (
        fm_146_222 x2 x3 x4 q7.2) else (
        (fm_137 q7.2).bind fun q10 =>
        (fm_234 (10000 : Int32) ((((10 : Int32) * x4) + q10.1) - (48 : Int32)) q10.2).bind fun q12 =>
        fm_146_164 n x2 x3 q12.1 (fx_w1 q12.2 215 5 ((q12.2.1 215 5) + (1 : Int32)))))
theorem fe_146_164 {d : Nat} (hd : 2 ≤ d) : ∀ (n : Nat) (x2 : Int32) (x3 : Int32) (x4 : Int32) (o1 : Option Value) (σ : fx_S) (q : fx_S), fm_146_164 n x2 x3 x4 σ = some q → fx_E none 146 d 164 [some (.ref 215), o1, some (.int x2), some (.int x3), some (.int x4)] [] σ none q := by
  intro n
  induction n with
  | zero =>
    intro x2 x3 x4 o1 σ q  h
    rw [fm_146_164] at h
    exact fx_no h
  | succ n ih =>
    intro x2 x3 x4 o1 σ q  h
    rw [fm_146_164] at h
    refine fs_aload_n (k := 0) (p := 165) (by decide +kernel) rfl rfl ?_
    obtain ⟨q2, e1, h⟩ := fx_bd h
    refine fs_callV (idx := 120) (mj := 138) (ci := 10) (na := 0) (mx := 1) (p := 168) (args := [.ref 215]) (rest := []) (al2 := [some (.ref 215)]) (by decide +kernel) rfl (by decide +kernel) fo_215 rfl rfl rfl rfl rfl rfl rfl (by omega) (fun d' hd' => fe_138 (by omega) e1) rfl ?_
    by_cases c3 : (fx_b q2.1) = 0
    · rw [if_pos c3] at h
      refine fs_if_eq_t (off := 54) (t := 222) (by decide +kernel) (by decide +kernel) c3 ?_
      exact fe_146_222 hd _ _ _ _ _ _ h
    · rw [if_neg c3] at h
      refine fs_if_eq_f (off := 54) (t := 222) (p := 171) (by decide +kernel) (by decide +kernel) rfl c3 ?_
      refine fs_aload_n (k := 0) (p := 172) (by decide +kernel) rfl rfl ?_
      obtain ⟨q5, e4, h⟩ := fx_bd h
      refine fs_callV (idx := 136) (mj := 137) (ci := 10) (na := 0) (mx := 1) (p := 175) (args := [.ref 215]) (rest := []) (al2 := [some (.ref 215)]) (by decide +kernel) rfl (by decide +kernel) fo_215 rfl rfl rfl rfl rfl rfl rfl (by omega) (fun d' hd' => fe_137 (by omega) e4) rfl ?_
      refine fs_i2l (p := 176) (by decide +kernel) rfl ?_
      refine fs_ldc2 (idx := 124) (p := 179) (x := 48) (by decide +kernel) rfl (by decide +kernel) ?_
      refine fs_ldc2 (idx := 176) (p := 182) (x := 57) (by decide +kernel) rfl (by decide +kernel) ?_
      obtain ⟨q7, e6, h⟩ := fx_bd h
      refine fs_callS (idx := 128) (mj := 130) (na := 3) (mx := 6) (p := 185) (args := [.long (q5.1).toInt64, .long (48 : Int64), .long (57 : Int64)]) (rest := []) (al2 := [some (.long (q5.1).toInt64), none, some (.long (48 : Int64)), none, some (.long (57 : Int64)), none]) (by decide +kernel) rfl (by decide +kernel) rfl rfl rfl rfl rfl rfl rfl (by omega) (fun d' hd' => fe_130 (by omega) e6) rfl ?_
      by_cases c8 : (fx_b q7.1) = 0
      · rw [if_pos c8] at h
        refine fs_if_eq_t (off := 37) (t := 222) (by decide +kernel) (by decide +kernel) c8 ?_
        exact fe_146_222 hd _ _ _ _ _ _ h
      · rw [if_neg c8] at h
        refine fs_if_eq_f (off := 37) (t := 222) (p := 188) (by decide +kernel) (by decide +kernel) rfl c8 ?_
        refine fs_sipush (n := 10000) (p := 191) (by decide +kernel) rfl ks_10000 ?_
        refine fs_bipush (n := 10) (p := 193) (by decide +kernel) rfl kb_10 ?_
        refine fs_iload (k := 4) (p := 195) (by decide +kernel) rfl rfl ?_
        refine fs_imul (p := 196) (by decide +kernel) rfl ?_
        refine fs_aload_n (k := 0) (p := 197) (by decide +kernel) rfl rfl ?_
        obtain ⟨q10, e9, h⟩ := fx_bd h
        refine fs_callV (idx := 136) (mj := 137) (ci := 10) (na := 0) (mx := 1) (p := 200) (args := [.ref 215]) (rest := [.int ((10 : Int32) * x4), .int (10000 : Int32)]) (al2 := [some (.ref 215)]) (by decide +kernel) rfl (by decide +kernel) fo_215 rfl rfl rfl rfl rfl rfl rfl (by omega) (fun d' hd' => fe_137 (by omega) e9) rfl ?_
        refine fs_iadd (p := 201) (by decide +kernel) rfl ?_
        refine fs_bipush (n := 48) (p := 203) (by decide +kernel) rfl kb_48 ?_
        refine fs_isub (p := 204) (by decide +kernel) rfl ?_
        obtain ⟨q12, e11, h⟩ := fx_bd h
        refine fs_callS (idx := 178) (mj := 234) (na := 2) (mx := 2) (p := 207) (args := [.int (10000 : Int32), .int ((((10 : Int32) * x4) + q10.1) - (48 : Int32))]) (rest := []) (al2 := [some (.int (10000 : Int32)), some (.int ((((10 : Int32) * x4) + q10.1) - (48 : Int32)))]) (by decide +kernel) rfl (by decide +kernel) rfl rfl rfl rfl rfl rfl rfl (by omega) (fun d' hd' => fe_234 (by omega) e11) rfl ?_
        refine fs_istore (k := 4) (p := 209) (M := 5) (al' := [some (.ref 215), o1, some (.int x2), some (.int x3), some (.int q12.1)]) (by decide +kernel) rfl mx_146 rfl rfl ?_
        refine fs_aload_n (k := 0) (p := 210) (by decide +kernel) rfl rfl ?_
        refine fs_dup (p := 211) (by decide +kernel) rfl rfl ?_
        refine fs_gfi (idx := 114) (ci := 10) (j := 5) (p := 214) (by decide +kernel) rfl (by decide +kernel) fo_215 ?_
        refine fs_iconst (n := 1) (p := 215) (by decide +kernel) rfl kc_1 ?_
        refine fs_iadd (p := 216) (by decide +kernel) rfl ?_
        refine fs_pfi (idx := 114) (ci := 10) (j := 5) (p := 219) (by decide +kernel) rfl (by decide +kernel) (by decide +kernel) fo_215 (fx_oki _ (by decide +kernel)) ?_
        refine fs_goto (off := -55) (p := 164) (by decide +kernel) (by decide +kernel) ?_
        exact ih _ _ _ _ _ _ h
def fm_146_161 (x2 : Int32) (x3 : Int32) (σ : fx_S) : Option (fx_S) :=
  fm_146_164 100000 x2 x3 (0 : Int32) σ
theorem fe_146_161 {d : Nat} (hd : 2 ≤ d) (x2 : Int32) (x3 : Int32) (o1 : Option Value) (σ : fx_S) (q : fx_S) (h : fm_146_161  x2 x3 σ = some q) : fx_E none 146 d 161 [some (.ref 215), o1, some (.int x2), some (.int x3), none] [] σ none q := by
  unfold fm_146_161 at h
  refine fs_iconst (n := 0) (p := 162) (by decide +kernel) rfl kc_0 ?_
  refine fs_istore (k := 4) (p := 164) (M := 5) (al' := [some (.ref 215), o1, some (.int x2), some (.int x3), some (.int (0 : Int32))]) (by decide +kernel) rfl mx_146 rfl rfl ?_
  exact fe_146_164 hd 100000 _ _ _ _ _ _ h
def fm_146_113 (x2 : Int32) (σ : fx_S) : Option (fx_S) :=
  (fm_138 (fx_w1 σ 215 5 ((σ.1 215 5) + (1 : Int32)))).bind fun q2 =>
  if (fx_b q2.1) = 0 then (
    fm_146_161 x2 ((fx_w1 σ 215 5 ((σ.1 215 5) + (1 : Int32))).1 215 5) q2.2) else (
    (fm_137 q2.2).bind fun q5 =>
    (fm_130 (q5.1).toInt64 (48 : Int64) (57 : Int64) q5.2).bind fun q7 =>
    if ¬ (fx_b q7.1) = 0 then (
      fm_146_161 x2 ((fx_w1 σ 215 5 ((σ.1 215 5) + (1 : Int32))).1 215 5) q7.2) else (
      (fm_139 (1 : Int32) (q7.2.1 215 5) q7.2).bind fun q10 =>
      fm_146_161 x2 ((fx_w1 σ 215 5 ((σ.1 215 5) + (1 : Int32))).1 215 5) q10))
theorem fe_146_113 {d : Nat} (hd : 2 ≤ d) (x2 : Int32) (o1 : Option Value) (σ : fx_S) (q : fx_S) (h : fm_146_113  x2 σ = some q) : fx_E none 146 d 113 [some (.ref 215), o1, some (.int x2), none, none] [] σ none q := by
  unfold fm_146_113 at h
  refine fs_aload_n (k := 0) (p := 114) (by decide +kernel) rfl rfl ?_
  refine fs_dup (p := 115) (by decide +kernel) rfl rfl ?_
  refine fs_gfi (idx := 114) (ci := 10) (j := 5) (p := 118) (by decide +kernel) rfl (by decide +kernel) fo_215 ?_
  refine fs_iconst (n := 1) (p := 119) (by decide +kernel) rfl kc_1 ?_
  refine fs_iadd (p := 120) (by decide +kernel) rfl ?_
  refine fs_pfi (idx := 114) (ci := 10) (j := 5) (p := 123) (by decide +kernel) rfl (by decide +kernel) (by decide +kernel) fo_215 (fx_oki _ (by decide +kernel)) ?_
  refine fs_aload_n (k := 0) (p := 124) (by decide +kernel) rfl rfl ?_
  refine fs_gfi (idx := 114) (ci := 10) (j := 5) (p := 127) (by decide +kernel) rfl (by decide +kernel) fo_215 ?_
  refine fs_istore_n (k := 3) (p := 128) (M := 5) (al' := [some (.ref 215), o1, some (.int x2), some (.int ((fx_w1 σ 215 5 ((σ.1 215 5) + (1 : Int32))).1 215 5)), none]) (by decide +kernel) rfl mx_146 rfl rfl ?_
  refine fs_aload_n (k := 0) (p := 129) (by decide +kernel) rfl rfl ?_
  obtain ⟨q2, e1, h⟩ := fx_bd h
  refine fs_callV (idx := 120) (mj := 138) (ci := 10) (na := 0) (mx := 1) (p := 132) (args := [.ref 215]) (rest := []) (al2 := [some (.ref 215)]) (by decide +kernel) rfl (by decide +kernel) fo_215 rfl rfl rfl rfl rfl rfl rfl (by omega) (fun d' hd' => fe_138 (by omega) e1) rfl ?_
  by_cases c3 : (fx_b q2.1) = 0
  · rw [if_pos c3] at h
    refine fs_if_eq_t (off := 29) (t := 161) (by decide +kernel) (by decide +kernel) c3 ?_
    exact fe_146_161 hd _ _ _ _ _ h
  · rw [if_neg c3] at h
    refine fs_if_eq_f (off := 29) (t := 161) (p := 135) (by decide +kernel) (by decide +kernel) rfl c3 ?_
    refine fs_aload_n (k := 0) (p := 136) (by decide +kernel) rfl rfl ?_
    obtain ⟨q5, e4, h⟩ := fx_bd h
    refine fs_callV (idx := 136) (mj := 137) (ci := 10) (na := 0) (mx := 1) (p := 139) (args := [.ref 215]) (rest := []) (al2 := [some (.ref 215)]) (by decide +kernel) rfl (by decide +kernel) fo_215 rfl rfl rfl rfl rfl rfl rfl (by omega) (fun d' hd' => fe_137 (by omega) e4) rfl ?_
    refine fs_i2l (p := 140) (by decide +kernel) rfl ?_
    refine fs_ldc2 (idx := 124) (p := 143) (x := 48) (by decide +kernel) rfl (by decide +kernel) ?_
    refine fs_ldc2 (idx := 176) (p := 146) (x := 57) (by decide +kernel) rfl (by decide +kernel) ?_
    obtain ⟨q7, e6, h⟩ := fx_bd h
    refine fs_callS (idx := 128) (mj := 130) (na := 3) (mx := 6) (p := 149) (args := [.long (q5.1).toInt64, .long (48 : Int64), .long (57 : Int64)]) (rest := []) (al2 := [some (.long (q5.1).toInt64), none, some (.long (48 : Int64)), none, some (.long (57 : Int64)), none]) (by decide +kernel) rfl (by decide +kernel) rfl rfl rfl rfl rfl rfl rfl (by omega) (fun d' hd' => fe_130 (by omega) e6) rfl ?_
    by_cases c8 : ¬ (fx_b q7.1) = 0
    · rw [if_pos c8] at h
      refine fs_if_ne_t (off := 12) (t := 161) (by decide +kernel) (by decide +kernel) c8 ?_
      exact fe_146_161 hd _ _ _ _ _ h
    · rw [if_neg c8] at h
      refine fs_if_ne_f (off := 12) (t := 161) (p := 152) (by decide +kernel) (by decide +kernel) rfl c8 ?_
      refine fs_aload_n (k := 0) (p := 153) (by decide +kernel) rfl rfl ?_
      refine fs_iconst (n := 1) (p := 154) (by decide +kernel) rfl kc_1 ?_
      refine fs_aload_n (k := 0) (p := 155) (by decide +kernel) rfl rfl ?_
      refine fs_gfi (idx := 114) (ci := 10) (j := 5) (p := 158) (by decide +kernel) rfl (by decide +kernel) fo_215 ?_
      obtain ⟨q10, e9, h⟩ := fx_bd h
      refine fs_callV (idx := 144) (mj := 139) (ci := 10) (na := 2) (mx := 3) (p := 161) (args := [.ref 215, .int (1 : Int32), .int (q7.2.1 215 5)]) (rest := []) (al2 := [some (.ref 215), some (.int (1 : Int32)), some (.int (q7.2.1 215 5))]) (by decide +kernel) rfl (by decide +kernel) fo_215 rfl rfl rfl rfl rfl rfl rfl (by omega) (fun d' hd' => fe_139 (by omega) e9) rfl ?_
      exact fe_146_161 hd _ _ _ _ _ h
def fm_146_78 (x2 : Int32) (σ : fx_S) : Option (fx_S) :=
  (fm_138 (fx_w1 σ 215 5 ((σ.1 215 5) + (1 : Int32)))).bind fun q2 =>
  if (fx_b q2.1) = 0 then (
    fm_146_113 x2 q2.2) else (
    (fm_137 q2.2).bind fun q5 =>
    if q5.1 = (61 : Int32) then (
      fm_146_113 x2 q5.2) else (
      (fm_139 (1 : Int32) (q5.2.1 215 5) q5.2).bind fun q8 =>
      fm_146_113 x2 q8))
theorem fe_146_78 {d : Nat} (hd : 2 ≤ d) (x2 : Int32) (o1 : Option Value) (σ : fx_S) (q : fx_S) (h : fm_146_78  x2 σ = some q) : fx_E none 146 d 78 [some (.ref 215), o1, some (.int x2), none, none] [] σ none q := by
  unfold fm_146_78 at h
  refine fs_aload_n (k := 0) (p := 79) (by decide +kernel) rfl rfl ?_
  refine fs_dup (p := 80) (by decide +kernel) rfl rfl ?_
  refine fs_gfi (idx := 114) (ci := 10) (j := 5) (p := 83) (by decide +kernel) rfl (by decide +kernel) fo_215 ?_
  refine fs_iconst (n := 1) (p := 84) (by decide +kernel) rfl kc_1 ?_
  refine fs_iadd (p := 85) (by decide +kernel) rfl ?_
  refine fs_pfi (idx := 114) (ci := 10) (j := 5) (p := 88) (by decide +kernel) rfl (by decide +kernel) (by decide +kernel) fo_215 (fx_oki _ (by decide +kernel)) ?_
  refine fs_aload_n (k := 0) (p := 89) (by decide +kernel) rfl rfl ?_
  obtain ⟨q2, e1, h⟩ := fx_bd h
  refine fs_callV (idx := 120) (mj := 138) (ci := 10) (na := 0) (mx := 1) (p := 92) (args := [.ref 215]) (rest := []) (al2 := [some (.ref 215)]) (by decide +kernel) rfl (by decide +kernel) fo_215 rfl rfl rfl rfl rfl rfl rfl (by omega) (fun d' hd' => fe_138 (by omega) e1) rfl ?_
  by_cases c3 : (fx_b q2.1) = 0
  · rw [if_pos c3] at h
    refine fs_if_eq_t (off := 21) (t := 113) (by decide +kernel) (by decide +kernel) c3 ?_
    exact fe_146_113 hd _ _ _ _ h
  · rw [if_neg c3] at h
    refine fs_if_eq_f (off := 21) (t := 113) (p := 95) (by decide +kernel) (by decide +kernel) rfl c3 ?_
    refine fs_aload_n (k := 0) (p := 96) (by decide +kernel) rfl rfl ?_
    obtain ⟨q5, e4, h⟩ := fx_bd h
    refine fs_callV (idx := 136) (mj := 137) (ci := 10) (na := 0) (mx := 1) (p := 99) (args := [.ref 215]) (rest := []) (al2 := [some (.ref 215)]) (by decide +kernel) rfl (by decide +kernel) fo_215 rfl rfl rfl rfl rfl rfl rfl (by omega) (fun d' hd' => fe_137 (by omega) e4) rfl ?_
    refine fs_bipush (n := 61) (p := 101) (by decide +kernel) rfl kb_61 ?_
    by_cases c6 : q5.1 = (61 : Int32)
    · rw [if_pos c6] at h
      refine fs_icmp_eq_t (off := 12) (t := 113) (by decide +kernel) (by decide +kernel) c6 ?_
      exact fe_146_113 hd _ _ _ _ h
    · rw [if_neg c6] at h
      refine fs_icmp_eq_f (off := 12) (t := 113) (p := 104) (by decide +kernel) (by decide +kernel) rfl c6 ?_
      refine fs_aload_n (k := 0) (p := 105) (by decide +kernel) rfl rfl ?_
      refine fs_iconst (n := 1) (p := 106) (by decide +kernel) rfl kc_1 ?_
      refine fs_aload_n (k := 0) (p := 107) (by decide +kernel) rfl rfl ?_
      refine fs_gfi (idx := 114) (ci := 10) (j := 5) (p := 110) (by decide +kernel) rfl (by decide +kernel) fo_215 ?_
      obtain ⟨q8, e7, h⟩ := fx_bd h
      refine fs_callV (idx := 144) (mj := 139) (ci := 10) (na := 2) (mx := 3) (p := 113) (args := [.ref 215, .int (1 : Int32), .int (q5.2.1 215 5)]) (rest := []) (al2 := [some (.ref 215), some (.int (1 : Int32)), some (.int (q5.2.1 215 5))]) (by decide +kernel) rfl (by decide +kernel) fo_215 rfl rfl rfl rfl rfl rfl rfl (by omega) (fun d' hd' => fe_139 (by omega) e7) rfl ?_
      exact fe_146_113 hd _ _ _ _ h
def fm_146_47 (x1 : Int32) (s0 : Int32) (σ : fx_S) : Option (fx_S) :=
  if ¬ s0 = (-1 : Int32) then (
    if ¬ (((σ.1 215 11) >>> (s0 &&& 31)) &&& (1 : Int32)) = (1 : Int32) then (
      fm_146_78 s0 σ) else (
      (fm_139 (3 : Int32) x1 σ).bind fun q4 =>
      fm_146_78 s0 q4)) else (
    (fm_139 (1 : Int32) x1 σ).bind fun q6 =>
    some q6)
theorem fe_146_47 {d : Nat} (hd : 2 ≤ d) (x1 : Int32) (s0 : Int32) (σ : fx_S) (q : fx_S) (h : fm_146_47  x1 s0 σ = some q) : fx_E none 146 d 47 [some (.ref 215), some (.int x1), none, none, none] [.int s0] σ none q := by
  unfold fm_146_47 at h
  refine fs_istore_n (k := 2) (p := 48) (M := 5) (al' := [some (.ref 215), some (.int x1), some (.int s0), none, none]) (by decide +kernel) rfl mx_146 rfl rfl ?_
  refine fs_iload_n (k := 2) (p := 49) (by decide +kernel) rfl rfl ?_
  refine fs_iconst (n := -1) (p := 50) (by decide +kernel) rfl kc_m1 ?_
  by_cases c1 : ¬ s0 = (-1 : Int32)
  · rw [if_pos c1] at h
    refine fs_icmp_ne_t (off := 10) (t := 60) (by decide +kernel) (by decide +kernel) c1 ?_
    refine fs_aload_n (k := 0) (p := 61) (by decide +kernel) rfl rfl ?_
    refine fs_gfi (idx := 173) (ci := 10) (j := 11) (p := 64) (by decide +kernel) rfl (by decide +kernel) fo_215 ?_
    refine fs_iload_n (k := 2) (p := 65) (by decide +kernel) rfl rfl ?_
    refine fs_ishr (p := 66) (by decide +kernel) rfl ?_
    refine fs_iconst (n := 1) (p := 67) (by decide +kernel) rfl kc_1 ?_
    refine fs_iand (p := 68) (by decide +kernel) rfl ?_
    refine fs_iconst (n := 1) (p := 69) (by decide +kernel) rfl kc_1 ?_
    by_cases c2 : ¬ (((σ.1 215 11) >>> (s0 &&& 31)) &&& (1 : Int32)) = (1 : Int32)
    · rw [if_pos c2] at h
      refine fs_icmp_ne_t (off := 9) (t := 78) (by decide +kernel) (by decide +kernel) c2 ?_
      exact fe_146_78 hd _ _ _ _ h
    · rw [if_neg c2] at h
      refine fs_icmp_ne_f (off := 9) (t := 78) (p := 72) (by decide +kernel) (by decide +kernel) rfl c2 ?_
      refine fs_aload_n (k := 0) (p := 73) (by decide +kernel) rfl rfl ?_
      refine fs_iconst (n := 3) (p := 74) (by decide +kernel) rfl kc_3 ?_
      refine fs_iload_n (k := 1) (p := 75) (by decide +kernel) rfl rfl ?_
      obtain ⟨q4, e3, h⟩ := fx_bd h
      refine fs_callV (idx := 144) (mj := 139) (ci := 10) (na := 2) (mx := 3) (p := 78) (args := [.ref 215, .int (3 : Int32), .int x1]) (rest := []) (al2 := [some (.ref 215), some (.int (3 : Int32)), some (.int x1)]) (by decide +kernel) rfl (by decide +kernel) fo_215 rfl rfl rfl rfl rfl rfl rfl (by omega) (fun d' hd' => fe_139 (by omega) e3) rfl ?_
      exact fe_146_78 hd _ _ _ _ h
  · rw [if_neg c1] at h
    refine fs_icmp_ne_f (off := 10) (t := 60) (p := 53) (by decide +kernel) (by decide +kernel) rfl c1 ?_
    refine fs_aload_n (k := 0) (p := 54) (by decide +kernel) rfl rfl ?_
    refine fs_iconst (n := 1) (p := 55) (by decide +kernel) rfl kc_1 ?_
    refine fs_iload_n (k := 1) (p := 56) (by decide +kernel) rfl rfl ?_
    obtain ⟨q6, e5, h⟩ := fx_bd h
    refine fs_callV (idx := 144) (mj := 139) (ci := 10) (na := 2) (mx := 3) (p := 59) (args := [.ref 215, .int (1 : Int32), .int x1]) (rest := []) (al2 := [some (.ref 215), some (.int (1 : Int32)), some (.int x1)]) (by decide +kernel) rfl (by decide +kernel) fo_215 rfl rfl rfl rfl rfl rfl rfl (by omega) (fun d' hd' => fe_139 (by omega) e5) rfl ?_
    have h := Option.some.inj h
    subst h
    exact fs_ret (by decide +kernel) rt_146
def fm_146 (σ : fx_S) : Option (fx_S) :=
  (fm_137 σ).bind fun q53 =>
  if ¬ q53.1 = (63 : Int32) then (
    (fm_137 q53.2).bind fun q56 =>
    (fm_130 (q56.1).toInt64 (97 : Int64) (104 : Int64) q56.2).bind fun q58 =>
    if (fx_b q58.1) = 0 then (
      fm_146_47 (σ.1 215 5) (-1 : Int32) q58.2) else (
      (fm_137 q58.2).bind fun q61 =>
      fm_146_47 (σ.1 215 5) (q61.1 - (97 : Int32)) q61.2)) else (
    fm_146_47 (σ.1 215 5) (8 : Int32) q53.2)
theorem fe_146 {d : Nat} (hd : 2 ≤ d) {σ : fx_S} {q : fx_S} (h : fm_146 σ = some q) : fx_E none 146 d 0 [some (.ref 215), none, none, none, none] [] σ none q := by
  unfold fm_146 at h
  refine fs_aload_n (k := 0) (p := 1) (by decide +kernel) rfl rfl ?_
  refine fs_gfi (idx := 114) (ci := 10) (j := 5) (p := 4) (by decide +kernel) rfl (by decide +kernel) fo_215 ?_
  refine fs_istore_n (k := 1) (p := 5) (M := 5) (al' := [some (.ref 215), some (.int (σ.1 215 5)), none, none, none]) (by decide +kernel) rfl mx_146 rfl rfl ?_
  refine fs_aload_n (k := 0) (p := 6) (by decide +kernel) rfl rfl ?_
  obtain ⟨q53, e52, h⟩ := fx_bd h
  refine fs_callV (idx := 136) (mj := 137) (ci := 10) (na := 0) (mx := 1) (p := 9) (args := [.ref 215]) (rest := []) (al2 := [some (.ref 215)]) (by decide +kernel) rfl (by decide +kernel) fo_215 rfl rfl rfl rfl rfl rfl rfl (by omega) (fun d' hd' => fe_137 (by omega) e52) rfl ?_
  refine fs_bipush (n := 63) (p := 11) (by decide +kernel) rfl kb_63 ?_
  by_cases c54 : ¬ q53.1 = (63 : Int32)
  · rw [if_pos c54] at h
    refine fs_icmp_ne_t (off := 8) (t := 19) (by decide +kernel) (by decide +kernel) c54 ?_
    refine fs_aload_n (k := 0) (p := 20) (by decide +kernel) rfl rfl ?_
    obtain ⟨q56, e55, h⟩ := fx_bd h
    refine fs_callV (idx := 136) (mj := 137) (ci := 10) (na := 0) (mx := 1) (p := 23) (args := [.ref 215]) (rest := []) (al2 := [some (.ref 215)]) (by decide +kernel) rfl (by decide +kernel) fo_215 rfl rfl rfl rfl rfl rfl rfl (by omega) (fun d' hd' => fe_137 (by omega) e55) rfl ?_
    refine fs_i2l (p := 24) (by decide +kernel) rfl ?_
    refine fs_ldc2 (idx := 132) (p := 27) (x := 97) (by decide +kernel) rfl (by decide +kernel) ?_
    refine fs_ldc2 (idx := 134) (p := 30) (x := 104) (by decide +kernel) rfl (by decide +kernel) ?_
    obtain ⟨q58, e57, h⟩ := fx_bd h
    refine fs_callS (idx := 128) (mj := 130) (na := 3) (mx := 6) (p := 33) (args := [.long (q56.1).toInt64, .long (97 : Int64), .long (104 : Int64)]) (rest := []) (al2 := [some (.long (q56.1).toInt64), none, some (.long (97 : Int64)), none, some (.long (104 : Int64)), none]) (by decide +kernel) rfl (by decide +kernel) rfl rfl rfl rfl rfl rfl rfl (by omega) (fun d' hd' => fe_130 (by omega) e57) rfl ?_
    by_cases c59 : (fx_b q58.1) = 0
    · rw [if_pos c59] at h
      refine fs_if_eq_t (off := 13) (t := 46) (by decide +kernel) (by decide +kernel) c59 ?_
      refine fs_iconst (n := -1) (p := 47) (by decide +kernel) rfl kc_m1 ?_
      exact fe_146_47 hd _ _ _ _ h
    · rw [if_neg c59] at h
      refine fs_if_eq_f (off := 13) (t := 46) (p := 36) (by decide +kernel) (by decide +kernel) rfl c59 ?_
      refine fs_aload_n (k := 0) (p := 37) (by decide +kernel) rfl rfl ?_
      obtain ⟨q61, e60, h⟩ := fx_bd h
      refine fs_callV (idx := 136) (mj := 137) (ci := 10) (na := 0) (mx := 1) (p := 40) (args := [.ref 215]) (rest := []) (al2 := [some (.ref 215)]) (by decide +kernel) rfl (by decide +kernel) fo_215 rfl rfl rfl rfl rfl rfl rfl (by omega) (fun d' hd' => fe_137 (by omega) e60) rfl ?_
      refine fs_bipush (n := 97) (p := 42) (by decide +kernel) rfl kb_97 ?_
      refine fs_isub (p := 43) (by decide +kernel) rfl ?_
      refine fs_goto (off := 4) (p := 47) (by decide +kernel) (by decide +kernel) ?_
      exact fe_146_47 hd _ _ _ _ h
  · rw [if_neg c54] at h
    refine fs_icmp_ne_f (off := 8) (t := 19) (p := 14) (by decide +kernel) (by decide +kernel) rfl c54 ?_
    refine fs_bipush (n := 8) (p := 16) (by decide +kernel) rfl kb_8 ?_
    refine fs_goto (off := 31) (p := 47) (by decide +kernel) (by decide +kernel) ?_
    exact fe_146_47 hd _ _ _ _ h

/-! ZoneSharesModel.readsCounts()V -/
theorem mx_147 : iv_mx 147 = 2 := by decide +kernel
theorem rt_147 : iv_rt 147 = none := by decide +kernel
def fm_147_78 (k_49 : Int32 → fx_S → Option (fx_S)) (s0 : Int32) (σ : fx_S) : Option (fx_S) :=
  (fm_131 s0 σ).bind fun q2 =>
  k_49 s0 (fx_w1 q2.2 215 5 ((σ.1 215 5) + q2.1))
theorem fe_147_78 {d : Nat} (hd : 3 ≤ d) {k_49 : Int32 → fx_S → Option (fx_S)} (hk_49 : ∀ (x1 : Int32) (σ : fx_S) (q : fx_S), k_49 x1 σ = some q → fx_E none 147 d 49 [some (.ref 215), some (.int x1)] [] σ none q) (s0 : Int32) (o1 : Option Value) (σ : fx_S) (q : fx_S) (h : fm_147_78 k_49  s0 σ = some q) : fx_E none 147 d 78 [some (.ref 215), o1] [.int s0] σ none q := by
  unfold fm_147_78 at h
  refine fs_istore_n (k := 1) (p := 79) (M := 2) (al' := [some (.ref 215), some (.int s0)]) (by decide +kernel) rfl mx_147 rfl rfl ?_
  refine fs_aload_n (k := 0) (p := 80) (by decide +kernel) rfl rfl ?_
  refine fs_dup (p := 81) (by decide +kernel) rfl rfl ?_
  refine fs_gfi (idx := 114) (ci := 10) (j := 5) (p := 84) (by decide +kernel) rfl (by decide +kernel) fo_215 ?_
  refine fs_iload_n (k := 1) (p := 85) (by decide +kernel) rfl rfl ?_
  obtain ⟨q2, e1, h⟩ := fx_bd h
  refine fs_callS (idx := 186) (mj := 131) (na := 1) (mx := 1) (p := 88) (args := [.int s0]) (rest := [.int (σ.1 215 5), .ref 215]) (al2 := [some (.int s0)]) (by decide +kernel) rfl (by decide +kernel) rfl rfl rfl rfl rfl rfl rfl (by omega) (fun d' hd' => fe_131 (by omega) e1) rfl ?_
  refine fs_iadd (p := 89) (by decide +kernel) rfl ?_
  refine fs_pfi (idx := 114) (ci := 10) (j := 5) (p := 92) (by decide +kernel) rfl (by decide +kernel) (by decide +kernel) fo_215 (fx_oki _ (by decide +kernel)) ?_
  refine fs_goto (off := -43) (p := 49) (by decide +kernel) (by decide +kernel) ?_
  exact hk_49 _ _ _ h
def fm_147_49 : Nat → Int32 → fx_S → Option (fx_S)
  | 0, _, _ => none
  | n + 1, x1, σ =>
    if x1 = 0 then (
      (fm_138 σ).bind fun q3 =>
      if (fx_b q3.1) = 0 then (
        some q3.2) else (
        (fm_137 q3.2).bind fun q6 =>
        if q6.1 = (-1 : Int32) then (
          some q6.2) else (
          (fm_139 (1 : Int32) (q6.2.1 215 5) q6.2).bind fun q9 =>
          some q9))) else (
      (fm_146 σ).bind fun q11 =>
      (fm_138 q11).bind fun q13 =>
      if (fx_b q13.1) = 0 then (
        fm_147_78 (fm_147_49 n) (0 : Int32) q13.2) else (
        (fm_137 q13.2).bind fun q16 =>
        fm_147_78 (fm_147_49 n) (if ¬ q16.1 = (44 : Int32) then (0 : Int32) else (1 : Int32)) q16.2))
theorem fe_147_49 {d : Nat} (hd : 3 ≤ d) : ∀ (n : Nat) (x1 : Int32) (σ : fx_S) (q : fx_S), fm_147_49 n x1 σ = some q → fx_E none 147 d 49 [some (.ref 215), some (.int x1)] [] σ none q := by
  intro n
  induction n with
  | zero =>
    intro x1 σ q  h
    rw [fm_147_49] at h
    exact fx_no h
  | succ n ih =>
    intro x1 σ q  h
    rw [fm_147_49] at h
    refine fs_iload_n (k := 1) (p := 50) (by decide +kernel) rfl rfl ?_
    by_cases c1 : x1 = 0
    · rw [if_pos c1] at h
      refine fs_if_eq_t (off := 45) (t := 95) (by decide +kernel) (by decide +kernel) c1 ?_
      refine fs_aload_n (k := 0) (p := 96) (by decide +kernel) rfl rfl ?_
      obtain ⟨q3, e2, h⟩ := fx_bd h
      refine fs_callV (idx := 120) (mj := 138) (ci := 10) (na := 0) (mx := 1) (p := 99) (args := [.ref 215]) (rest := []) (al2 := [some (.ref 215)]) (by decide +kernel) rfl (by decide +kernel) fo_215 rfl rfl rfl rfl rfl rfl rfl (by omega) (fun d' hd' => fe_138 (by omega) e2) rfl ?_
      by_cases c4 : (fx_b q3.1) = 0
      · rw [if_pos c4] at h
        refine fs_if_eq_t (off := 20) (t := 119) (by decide +kernel) (by decide +kernel) c4 ?_
        have h := Option.some.inj h
        subst h
        exact fs_ret (by decide +kernel) rt_147
      · rw [if_neg c4] at h
        refine fs_if_eq_f (off := 20) (t := 119) (p := 102) (by decide +kernel) (by decide +kernel) rfl c4 ?_
        refine fs_aload_n (k := 0) (p := 103) (by decide +kernel) rfl rfl ?_
        obtain ⟨q6, e5, h⟩ := fx_bd h
        refine fs_callV (idx := 136) (mj := 137) (ci := 10) (na := 0) (mx := 1) (p := 106) (args := [.ref 215]) (rest := []) (al2 := [some (.ref 215)]) (by decide +kernel) rfl (by decide +kernel) fo_215 rfl rfl rfl rfl rfl rfl rfl (by omega) (fun d' hd' => fe_137 (by omega) e5) rfl ?_
        refine fs_iconst (n := -1) (p := 107) (by decide +kernel) rfl kc_m1 ?_
        by_cases c7 : q6.1 = (-1 : Int32)
        · rw [if_pos c7] at h
          refine fs_icmp_eq_t (off := 12) (t := 119) (by decide +kernel) (by decide +kernel) c7 ?_
          have h := Option.some.inj h
          subst h
          exact fs_ret (by decide +kernel) rt_147
        · rw [if_neg c7] at h
          refine fs_icmp_eq_f (off := 12) (t := 119) (p := 110) (by decide +kernel) (by decide +kernel) rfl c7 ?_
          refine fs_aload_n (k := 0) (p := 111) (by decide +kernel) rfl rfl ?_
          refine fs_iconst (n := 1) (p := 112) (by decide +kernel) rfl kc_1 ?_
          refine fs_aload_n (k := 0) (p := 113) (by decide +kernel) rfl rfl ?_
          refine fs_gfi (idx := 114) (ci := 10) (j := 5) (p := 116) (by decide +kernel) rfl (by decide +kernel) fo_215 ?_
          obtain ⟨q9, e8, h⟩ := fx_bd h
          refine fs_callV (idx := 144) (mj := 139) (ci := 10) (na := 2) (mx := 3) (p := 119) (args := [.ref 215, .int (1 : Int32), .int (q6.2.1 215 5)]) (rest := []) (al2 := [some (.ref 215), some (.int (1 : Int32)), some (.int (q6.2.1 215 5))]) (by decide +kernel) rfl (by decide +kernel) fo_215 rfl rfl rfl rfl rfl rfl rfl (by omega) (fun d' hd' => fe_139 (by omega) e8) rfl ?_
          have h := Option.some.inj h
          subst h
          exact fs_ret (by decide +kernel) rt_147
    · rw [if_neg c1] at h
      refine fs_if_eq_f (off := 45) (t := 95) (p := 53) (by decide +kernel) (by decide +kernel) rfl c1 ?_
      refine fs_aload_n (k := 0) (p := 54) (by decide +kernel) rfl rfl ?_
      obtain ⟨q11, e10, h⟩ := fx_bd h
      refine fs_callV (idx := 183) (mj := 146) (ci := 10) (na := 0) (mx := 5) (p := 57) (args := [.ref 215]) (rest := []) (al2 := [some (.ref 215), none, none, none, none]) (by decide +kernel) rfl (by decide +kernel) fo_215 rfl rfl rfl rfl rfl rfl rfl (by omega) (fun d' hd' => fe_146 (by omega) e10) rfl ?_
      refine fs_aload_n (k := 0) (p := 58) (by decide +kernel) rfl rfl ?_
      obtain ⟨q13, e12, h⟩ := fx_bd h
      refine fs_callV (idx := 120) (mj := 138) (ci := 10) (na := 0) (mx := 1) (p := 61) (args := [.ref 215]) (rest := []) (al2 := [some (.ref 215)]) (by decide +kernel) rfl (by decide +kernel) fo_215 rfl rfl rfl rfl rfl rfl rfl (by omega) (fun d' hd' => fe_138 (by omega) e12) rfl ?_
      by_cases c14 : (fx_b q13.1) = 0
      · rw [if_pos c14] at h
        refine fs_if_eq_t (off := 16) (t := 77) (by decide +kernel) (by decide +kernel) c14 ?_
        refine fs_iconst (n := 0) (p := 78) (by decide +kernel) rfl kc_0 ?_
        exact fe_147_78 hd ih _ _ _ _ h
      · rw [if_neg c14] at h
        refine fs_if_eq_f (off := 16) (t := 77) (p := 64) (by decide +kernel) (by decide +kernel) rfl c14 ?_
        refine fs_aload_n (k := 0) (p := 65) (by decide +kernel) rfl rfl ?_
        obtain ⟨q16, e15, h⟩ := fx_bd h
        refine fs_callV (idx := 136) (mj := 137) (ci := 10) (na := 0) (mx := 1) (p := 68) (args := [.ref 215]) (rest := []) (al2 := [some (.ref 215)]) (by decide +kernel) rfl (by decide +kernel) fo_215 rfl rfl rfl rfl rfl rfl rfl (by omega) (fun d' hd' => fe_137 (by omega) e15) rfl ?_
        refine fs_bipush (n := 44) (p := 70) (by decide +kernel) rfl kb_44 ?_
        by_cases c17 : ¬ q16.1 = (44 : Int32)
        · rw [if_pos c17] at h
          refine fs_icmp_ne_t (off := 7) (t := 77) (by decide +kernel) (by decide +kernel) c17 ?_
          refine fs_iconst (n := 0) (p := 78) (by decide +kernel) rfl kc_0 ?_
          exact fe_147_78 hd ih _ _ _ _ h
        · rw [if_neg c17] at h
          refine fs_icmp_ne_f (off := 7) (t := 77) (p := 73) (by decide +kernel) (by decide +kernel) rfl c17 ?_
          refine fs_iconst (n := 1) (p := 74) (by decide +kernel) rfl kc_1 ?_
          refine fs_goto (off := 4) (p := 78) (by decide +kernel) (by decide +kernel) ?_
          exact fe_147_78 hd ih _ _ _ _ h
def fm_147_48 (s0 : Int32) (σ : fx_S) : Option (fx_S) :=
  fm_147_49 100000 s0 σ
theorem fe_147_48 {d : Nat} (hd : 3 ≤ d) (s0 : Int32) (o1 : Option Value) (σ : fx_S) (q : fx_S) (h : fm_147_48  s0 σ = some q) : fx_E none 147 d 48 [some (.ref 215), o1] [.int s0] σ none q := by
  unfold fm_147_48 at h
  refine fs_istore_n (k := 1) (p := 49) (M := 2) (al' := [some (.ref 215), some (.int s0)]) (by decide +kernel) rfl mx_147 rfl rfl ?_
  exact fe_147_49 hd 100000 _ _ _ h
def fm_147_17 : Nat → Int32 → fx_S → Option (fx_S)
  | 0, _, _ => none
  | n + 1, x1, σ =>
    if (9 : Int32) ≤ x1 then (
      fm_147_48 (if (σ.1 215 4) ≤ 0 then (0 : Int32) else (1 : Int32)) σ) else (
      (fx_st σ 220 x1 (0 : Int32)).bind fun t3 =>
      fm_147_17 n (x1 + (1 : Int32)) t3)
theorem fe_147_17 {d : Nat} (hd : 3 ≤ d) : ∀ (n : Nat) (x1 : Int32) (σ : fx_S) (q : fx_S), fm_147_17 n x1 σ = some q → fx_E none 147 d 17 [some (.ref 215), some (.int x1)] [] σ none q := by
  intro n
  induction n with
  | zero =>
    intro x1 σ q  h
    rw [fm_147_17] at h
    exact fx_no h
  | succ n ih =>
    intro x1 σ q  h
    rw [fm_147_17] at h
    refine fs_iload_n (k := 1) (p := 18) (by decide +kernel) rfl rfl ?_
    refine fs_bipush (n := 9) (p := 20) (by decide +kernel) rfl kb_9 ?_
    by_cases c1 : (9 : Int32) ≤ x1
    · rw [if_pos c1] at h
      refine fs_icmp_ge_t (off := 16) (t := 36) (by decide +kernel) (by decide +kernel) c1 ?_
      refine fs_aload_n (k := 0) (p := 37) (by decide +kernel) rfl rfl ?_
      refine fs_gfi (idx := 107) (ci := 10) (j := 4) (p := 40) (by decide +kernel) rfl (by decide +kernel) fo_215 ?_
      by_cases c2 : (σ.1 215 4) ≤ 0
      · rw [if_pos c2] at h
        refine fs_if_le_t (off := 7) (t := 47) (by decide +kernel) (by decide +kernel) c2 ?_
        refine fs_iconst (n := 0) (p := 48) (by decide +kernel) rfl kc_0 ?_
        exact fe_147_48 hd _ _ _ _ h
      · rw [if_neg c2] at h
        refine fs_if_le_f (off := 7) (t := 47) (p := 43) (by decide +kernel) (by decide +kernel) rfl c2 ?_
        refine fs_iconst (n := 1) (p := 44) (by decide +kernel) rfl kc_1 ?_
        refine fs_goto (off := 4) (p := 48) (by decide +kernel) (by decide +kernel) ?_
        exact fe_147_48 hd _ _ _ _ h
    · rw [if_neg c1] at h
      refine fs_icmp_ge_f (off := 16) (t := 36) (p := 23) (by decide +kernel) (by decide +kernel) rfl c1 ?_
      refine fs_aload_n (k := 0) (p := 24) (by decide +kernel) rfl rfl ?_
      refine fs_gfr (idx := 23) (ci := 10) (j := 10) (p := 27) (by decide +kernel) rfl (by decide +kernel) fo_215 (fr_a215_10) ?_
      refine fs_iload_n (k := 1) (p := 28) (by decide +kernel) rfl rfl ?_
      refine fs_iconst (n := 0) (p := 29) (by decide +kernel) rfl kc_0 ?_
      obtain ⟨t3, e4, h⟩ := fx_bd h
      refine fs_iastore (p := 30) (by decide +kernel) rfl e4 ?_
      refine fs_iinc (k := 1) (n := 1) (p := 33) (M := 2) (al' := [some (.ref 215), some (.int (x1 + (1 : Int32)))]) (by decide +kernel) rfl kc_1 mx_147 rfl rfl rfl ?_
      refine fs_goto (off := -16) (p := 17) (by decide +kernel) (by decide +kernel) ?_
      exact ih _ _ _ h
def fm_147 (σ : fx_S) : Option (fx_S) :=
  fm_147_17 100000 (0 : Int32) (fx_w1 (fx_w1 (fx_w1 σ 215 5 (0 : Int32)) 215 6 (-1 : Int32)) 215 11 (0 : Int32))
theorem fe_147 {d : Nat} (hd : 3 ≤ d) {σ : fx_S} {q : fx_S} (h : fm_147 σ = some q) : fx_E none 147 d 0 [some (.ref 215), none] [] σ none q := by
  unfold fm_147 at h
  refine fs_aload_n (k := 0) (p := 1) (by decide +kernel) rfl rfl ?_
  refine fs_iconst (n := 0) (p := 2) (by decide +kernel) rfl kc_0 ?_
  refine fs_pfi (idx := 114) (ci := 10) (j := 5) (p := 5) (by decide +kernel) rfl (by decide +kernel) (by decide +kernel) fo_215 (fx_oki _ (by decide +kernel)) ?_
  refine fs_aload_n (k := 0) (p := 6) (by decide +kernel) rfl rfl ?_
  refine fs_iconst (n := -1) (p := 7) (by decide +kernel) rfl kc_m1 ?_
  refine fs_pfi (idx := 117) (ci := 10) (j := 6) (p := 10) (by decide +kernel) rfl (by decide +kernel) (by decide +kernel) fo_215 (fx_oki _ (by decide +kernel)) ?_
  refine fs_aload_n (k := 0) (p := 11) (by decide +kernel) rfl rfl ?_
  refine fs_iconst (n := 0) (p := 12) (by decide +kernel) rfl kc_0 ?_
  refine fs_pfi (idx := 173) (ci := 10) (j := 11) (p := 15) (by decide +kernel) rfl (by decide +kernel) (by decide +kernel) fo_215 (fx_oki _ (by decide +kernel)) ?_
  refine fs_iconst (n := 0) (p := 16) (by decide +kernel) rfl kc_0 ?_
  refine fs_istore_n (k := 1) (p := 17) (M := 2) (al' := [some (.ref 215), some (.int (0 : Int32))]) (by decide +kernel) rfl mx_147 rfl rfl ?_
  exact fe_147_17 hd 100000 _ _ _ h

/-! ZoneSharesModel.counts(I)I -/
theorem mx_149 : iv_mx 149 = 4 := by decide +kernel
theorem rt_149 : iv_rt 149 = some .int := by decide +kernel
def fm_149_41 : Nat → Int32 → Int32 → Int32 → fx_S → Option (Int32 × fx_S)
  | 0, _, _, _, _ => none
  | n + 1, x1, x2, x3, σ =>
    if (9 : Int32) ≤ x3 then (
      some (x2, σ)) else (
      (fx_ld σ 220 x3).bind fun v2 =>
      (fx_st σ 216 (((5 : Int32) + ((9 : Int32) * x1)) + x3) v2).bind fun t4 =>
      (fx_ld t4 220 x3).bind fun v6 =>
      fm_149_41 n x1 (x2 + v6) (x3 + (1 : Int32)) t4)
theorem fe_149_41 {d : Nat} (hd : 4 ≤ d) : ∀ (n : Nat) (x1 : Int32) (x2 : Int32) (x3 : Int32) (σ : fx_S) (q : Int32 × fx_S), fm_149_41 n x1 x2 x3 σ = some q → fx_E none 149 d 41 [some (.ref 215), some (.int x1), some (.int x2), some (.int x3)] [] σ (some (.int q.1)) q.2 := by
  intro n
  induction n with
  | zero =>
    intro x1 x2 x3 σ q  h
    rw [fm_149_41] at h
    exact fx_no h
  | succ n ih =>
    intro x1 x2 x3 σ q  h
    rw [fm_149_41] at h
    refine fs_iload_n (k := 3) (p := 42) (by decide +kernel) rfl rfl ?_
    refine fs_bipush (n := 9) (p := 44) (by decide +kernel) rfl kb_9 ?_
    by_cases c1 : (9 : Int32) ≤ x3
    · rw [if_pos c1] at h
      refine fs_icmp_ge_t (off := 37) (t := 81) (by decide +kernel) (by decide +kernel) c1 ?_
      refine fs_iload_n (k := 2) (p := 82) (by decide +kernel) rfl rfl ?_
      have h := Option.some.inj h
      subst h
      exact fs_iret (by decide +kernel) rt_149
    · rw [if_neg c1] at h
      refine fs_icmp_ge_f (off := 37) (t := 81) (p := 47) (by decide +kernel) (by decide +kernel) rfl c1 ?_
      refine fs_aload_n (k := 0) (p := 48) (by decide +kernel) rfl rfl ?_
      refine fs_gfr (idx := 9) (ci := 10) (j := 0) (p := 51) (by decide +kernel) rfl (by decide +kernel) fo_215 (fr_a215_0) ?_
      refine fs_iconst (n := 5) (p := 52) (by decide +kernel) rfl kc_5 ?_
      refine fs_bipush (n := 9) (p := 54) (by decide +kernel) rfl kb_9 ?_
      refine fs_iload_n (k := 1) (p := 55) (by decide +kernel) rfl rfl ?_
      refine fs_imul (p := 56) (by decide +kernel) rfl ?_
      refine fs_iadd (p := 57) (by decide +kernel) rfl ?_
      refine fs_iload_n (k := 3) (p := 58) (by decide +kernel) rfl rfl ?_
      refine fs_iadd (p := 59) (by decide +kernel) rfl ?_
      refine fs_aload_n (k := 0) (p := 60) (by decide +kernel) rfl rfl ?_
      refine fs_gfr (idx := 23) (ci := 10) (j := 10) (p := 63) (by decide +kernel) rfl (by decide +kernel) fo_215 (fr_a215_10) ?_
      refine fs_iload_n (k := 3) (p := 64) (by decide +kernel) rfl rfl ?_
      obtain ⟨v2, e3, h⟩ := fx_bd h
      refine fs_iaload (p := 65) (by decide +kernel) rfl e3 ?_
      obtain ⟨t4, e5, h⟩ := fx_bd h
      refine fs_iastore (p := 66) (by decide +kernel) rfl e5 ?_
      refine fs_iload_n (k := 2) (p := 67) (by decide +kernel) rfl rfl ?_
      refine fs_aload_n (k := 0) (p := 68) (by decide +kernel) rfl rfl ?_
      refine fs_gfr (idx := 23) (ci := 10) (j := 10) (p := 71) (by decide +kernel) rfl (by decide +kernel) fo_215 (fr_a215_10) ?_
      refine fs_iload_n (k := 3) (p := 72) (by decide +kernel) rfl rfl ?_
      obtain ⟨v6, e7, h⟩ := fx_bd h
      refine fs_iaload (p := 73) (by decide +kernel) rfl e7 ?_
      refine fs_iadd (p := 74) (by decide +kernel) rfl ?_
      refine fs_istore_n (k := 2) (p := 75) (M := 4) (al' := [some (.ref 215), some (.int x1), some (.int (x2 + v6)), some (.int x3)]) (by decide +kernel) rfl mx_149 rfl rfl ?_
      refine fs_iinc (k := 3) (n := 1) (p := 78) (M := 4) (al' := [some (.ref 215), some (.int x1), some (.int (x2 + v6)), some (.int (x3 + (1 : Int32)))]) (by decide +kernel) rfl kc_1 mx_149 rfl rfl rfl ?_
      refine fs_goto (off := -37) (p := 41) (by decide +kernel) (by decide +kernel) ?_
      exact ih _ _ _ _ _ h
def fm_149 (x1 : Int32) (σ : fx_S) : Option (Int32 × fx_S) :=
  (fm_148 x1 σ).bind fun q19 =>
  if ¬ (fx_b q19.1) = 0 then (
    (fm_147 q19.2).bind fun q22 =>
    (fm_138 (fx_w1 q22 215 4 (0 : Int32))).bind fun q24 =>
    if ¬ (fx_b q24.1) = 0 then (
      (fm_132 q24.2).bind fun q27 =>
      fm_149_41 100000 x1 (0 : Int32) (0 : Int32) q27) else (
      some (((-2 : Int32) - (q24.2.1 215 6)), q24.2))) else (
    some ((-1 : Int32), q19.2))
theorem fe_149 {d : Nat} (hd : 4 ≤ d) {x1 : Int32} {σ : fx_S} {q : Int32 × fx_S} (h : fm_149 x1 σ = some q) : fx_E none 149 d 0 [some (.ref 215), some (.int x1), none, none] [] σ (some (.int q.1)) q.2 := by
  unfold fm_149 at h
  refine fs_iload_n (k := 1) (p := 1) (by decide +kernel) rfl rfl ?_
  obtain ⟨q19, e18, h⟩ := fx_bd h
  refine fs_callS (idx := 190) (mj := 148) (na := 1) (mx := 1) (p := 4) (args := [.int x1]) (rest := []) (al2 := [some (.int x1)]) (by decide +kernel) rfl (by decide +kernel) rfl rfl rfl rfl rfl rfl rfl (by omega) (fun d' hd' => fe_148 (by omega) e18) rfl ?_
  by_cases c20 : ¬ (fx_b q19.1) = 0
  · rw [if_pos c20] at h
    refine fs_if_ne_t (off := 5) (t := 9) (by decide +kernel) (by decide +kernel) c20 ?_
    refine fs_aload_n (k := 0) (p := 10) (by decide +kernel) rfl rfl ?_
    obtain ⟨q22, e21, h⟩ := fx_bd h
    refine fs_callV (idx := 193) (mj := 147) (ci := 10) (na := 0) (mx := 2) (p := 13) (args := [.ref 215]) (rest := []) (al2 := [some (.ref 215), none]) (by decide +kernel) rfl (by decide +kernel) fo_215 rfl rfl rfl rfl rfl rfl rfl (by omega) (fun d' hd' => fe_147 (by omega) e21) rfl ?_
    refine fs_aload_n (k := 0) (p := 14) (by decide +kernel) rfl rfl ?_
    refine fs_iconst (n := 0) (p := 15) (by decide +kernel) rfl kc_0 ?_
    refine fs_pfi (idx := 107) (ci := 10) (j := 4) (p := 18) (by decide +kernel) rfl (by decide +kernel) (by decide +kernel) fo_215 (fx_oki _ (by decide +kernel)) ?_
    refine fs_aload_n (k := 0) (p := 19) (by decide +kernel) rfl rfl ?_
    obtain ⟨q24, e23, h⟩ := fx_bd h
    refine fs_callV (idx := 120) (mj := 138) (ci := 10) (na := 0) (mx := 1) (p := 22) (args := [.ref 215]) (rest := []) (al2 := [some (.ref 215)]) (by decide +kernel) rfl (by decide +kernel) fo_215 rfl rfl rfl rfl rfl rfl rfl (by omega) (fun d' hd' => fe_138 (by omega) e23) rfl ?_
    by_cases c25 : ¬ (fx_b q24.1) = 0
    · rw [if_pos c25] at h
      refine fs_if_ne_t (off := 11) (t := 33) (by decide +kernel) (by decide +kernel) c25 ?_
      refine fs_aload_n (k := 0) (p := 34) (by decide +kernel) rfl rfl ?_
      obtain ⟨q27, e26, h⟩ := fx_bd h
      refine fs_callV (idx := 170) (mj := 132) (ci := 10) (na := 0) (mx := 2) (p := 37) (args := [.ref 215]) (rest := []) (al2 := [some (.ref 215), none]) (by decide +kernel) rfl (by decide +kernel) fo_215 rfl rfl rfl rfl rfl rfl rfl (by omega) (fun d' hd' => fe_132 (by omega) e26) rfl ?_
      refine fs_iconst (n := 0) (p := 38) (by decide +kernel) rfl kc_0 ?_
      refine fs_istore_n (k := 2) (p := 39) (M := 4) (al' := [some (.ref 215), some (.int x1), some (.int (0 : Int32)), none]) (by decide +kernel) rfl mx_149 rfl rfl ?_
      refine fs_iconst (n := 0) (p := 40) (by decide +kernel) rfl kc_0 ?_
      refine fs_istore_n (k := 3) (p := 41) (M := 4) (al' := [some (.ref 215), some (.int x1), some (.int (0 : Int32)), some (.int (0 : Int32))]) (by decide +kernel) rfl mx_149 rfl rfl ?_
      exact fe_149_41 hd 100000 _ _ _ _ _ h
    · rw [if_neg c25] at h
      refine fs_if_ne_f (off := 11) (t := 33) (p := 25) (by decide +kernel) (by decide +kernel) rfl c25 ?_
      refine fs_bipush (n := -2) (p := 27) (by decide +kernel) rfl kb_m2 ?_
      refine fs_aload_n (k := 0) (p := 28) (by decide +kernel) rfl rfl ?_
      refine fs_gfi (idx := 117) (ci := 10) (j := 6) (p := 31) (by decide +kernel) rfl (by decide +kernel) fo_215 ?_
      refine fs_isub (p := 32) (by decide +kernel) rfl ?_
      have h := Option.some.inj h
      subst h
      exact fs_iret (by decide +kernel) rt_149
  · rw [if_neg c20] at h
    refine fs_if_ne_f (off := 5) (t := 9) (p := 7) (by decide +kernel) (by decide +kernel) rfl c20 ?_
    refine fs_iconst (n := -1) (p := 8) (by decide +kernel) rfl kc_m1 ?_
    have h := Option.some.inj h
    subst h
    exact fs_iret (by decide +kernel) rt_149

/-! ZoneSharesModel.laysMisfit(I)Z -/
theorem mx_209 : iv_mx 209 = 5 := by decide +kernel
theorem rt_209 : iv_rt 209 = some .boolean := by decide +kernel
def fm_209_93 (k_41 : Int32 → Int64 → Int32 → fx_S → Option (Bool × fx_S)) (x1 : Int32) (x2 : Int64) (x4 : Int32) (σ : fx_S) : Option (Bool × fx_S) :=
  k_41 x1 x2 (x4 + (1 : Int32)) σ
theorem fe_209_93 {d : Nat} (hd : 1 ≤ d) {k_41 : Int32 → Int64 → Int32 → fx_S → Option (Bool × fx_S)} (hk_41 : ∀ (x1 : Int32) (x2 : Int64) (x4 : Int32) (σ : fx_S) (q : Bool × fx_S), k_41 x1 x2 x4 σ = some q → fx_E none 209 d 41 [some (.ref 215), some (.int x1), some (.long x2), none, some (.int x4)] [] σ (some (.int (fx_b q.1))) q.2) (x1 : Int32) (x2 : Int64) (x4 : Int32) (σ : fx_S) (q : Bool × fx_S) (h : fm_209_93 k_41  x1 x2 x4 σ = some q) : fx_E none 209 d 93 [some (.ref 215), some (.int x1), some (.long x2), none, some (.int x4)] [] σ (some (.int (fx_b q.1))) q.2 := by
  unfold fm_209_93 at h
  refine fs_iinc (k := 4) (n := 1) (p := 96) (M := 5) (al' := [some (.ref 215), some (.int x1), some (.long x2), none, some (.int (x4 + (1 : Int32)))]) (by decide +kernel) rfl kc_1 mx_209 rfl rfl rfl ?_
  refine fs_goto (off := -55) (p := 41) (by decide +kernel) (by decide +kernel) ?_
  exact hk_41 _ _ _ _ _ h
def fm_209_41 : Nat → Int32 → Int64 → Int32 → fx_S → Option (Bool × fx_S)
  | 0, _, _, _, _ => none
  | n + 1, x1, x2, x4, σ =>
    if (8 : Int32) ≤ x4 then (
      if x2 ≤ (0 : Int64) then (
        some (false, σ)) else (
        some (true, σ))) else (
      (fm_208 x4 σ).bind fun q4 =>
      if (fx_b q4.1) = 0 then (
        fm_209_93 (fm_209_41 n) x1 x2 x4 q4.2) else (
        (fm_155 x1 x4 q4.2).bind fun q7 =>
        (fm_206 x4 q7.2).bind fun q9 =>
        (fm_232 (((q7.1).toInt64 * x2) - (((q7.2.1 215 42)).toInt64 * (q9.1).toInt64)) q9.2).bind fun q11 =>
        fm_209_93 (fm_209_41 n) x1 x2 x4 (fx_w2 q11.2 215 40 ((q4.2.2 215 40) + q11.1))))
theorem fe_209_41 {d : Nat} (hd : 1 ≤ d) : ∀ (n : Nat) (x1 : Int32) (x2 : Int64) (x4 : Int32) (σ : fx_S) (q : Bool × fx_S), fm_209_41 n x1 x2 x4 σ = some q → fx_E none 209 d 41 [some (.ref 215), some (.int x1), some (.long x2), none, some (.int x4)] [] σ (some (.int (fx_b q.1))) q.2 := by
  intro n
  induction n with
  | zero =>
    intro x1 x2 x4 σ q  h
    rw [fm_209_41] at h
    exact fx_no h
  | succ n ih =>
    intro x1 x2 x4 σ q  h
    rw [fm_209_41] at h
    refine fs_iload (k := 4) (p := 43) (by decide +kernel) rfl rfl ?_
    refine fs_bipush (n := 8) (p := 45) (by decide +kernel) rfl kb_8 ?_
    by_cases c1 : (8 : Int32) ≤ x4
    · rw [if_pos c1] at h
      refine fs_icmp_ge_t (off := 54) (t := 99) (by decide +kernel) (by decide +kernel) c1 ?_
      refine fs_lload_n (k := 2) (p := 100) (by decide +kernel) rfl rfl ?_
      refine fs_lconst (n := 0) (p := 101) (by decide +kernel) rfl kl_0 ?_
      by_cases c2 : x2 ≤ (0 : Int64)
      · rw [if_pos c2] at h
        refine fs_lcmp_le_t (off := 7) (t := 109) (by decide +kernel) (by decide +kernel) (by decide +kernel) c2 ?_
        refine fs_iconst (n := 0) (p := 110) (by decide +kernel) rfl kc_0 ?_
        have h := Option.some.inj h
        subst h
        exact fs_zret (b := false) (by decide +kernel) rt_209
      · rw [if_neg c2] at h
        refine fs_lcmp_le_f (off := 7) (t := 109) (p := 105) (by decide +kernel) (by decide +kernel) (by decide +kernel) rfl c2 ?_
        refine fs_iconst (n := 1) (p := 106) (by decide +kernel) rfl kc_1 ?_
        refine fs_goto (off := 4) (p := 110) (by decide +kernel) (by decide +kernel) ?_
        have h := Option.some.inj h
        subst h
        exact fs_zret (b := true) (by decide +kernel) rt_209
    · rw [if_neg c1] at h
      refine fs_icmp_ge_f (off := 54) (t := 99) (p := 48) (by decide +kernel) (by decide +kernel) rfl c1 ?_
      refine fs_aload_n (k := 0) (p := 49) (by decide +kernel) rfl rfl ?_
      refine fs_iload (k := 4) (p := 51) (by decide +kernel) rfl rfl ?_
      obtain ⟨q4, e3, h⟩ := fx_bd h
      refine fs_callV (idx := 394) (mj := 208) (ci := 10) (na := 1) (mx := 4) (p := 54) (args := [.ref 215, .int x4]) (rest := []) (al2 := [some (.ref 215), some (.int x4), none, none]) (by decide +kernel) rfl (by decide +kernel) fo_215 rfl rfl rfl rfl rfl rfl rfl (by omega) (fun d' hd' => fe_208 (by omega) e3) rfl ?_
      by_cases c5 : (fx_b q4.1) = 0
      · rw [if_pos c5] at h
        refine fs_if_eq_t (off := 39) (t := 93) (by decide +kernel) (by decide +kernel) c5 ?_
        exact fe_209_93 hd ih _ _ _ _ _ h
      · rw [if_neg c5] at h
        refine fs_if_eq_f (off := 39) (t := 93) (p := 57) (by decide +kernel) (by decide +kernel) rfl c5 ?_
        refine fs_aload_n (k := 0) (p := 58) (by decide +kernel) rfl rfl ?_
        refine fs_dup (p := 59) (by decide +kernel) rfl rfl ?_
        refine fs_gfl (idx := 388) (ci := 10) (j := 40) (p := 62) (by decide +kernel) rfl (by decide +kernel) fo_215 ?_
        refine fs_aload_n (k := 0) (p := 63) (by decide +kernel) rfl rfl ?_
        refine fs_iload_n (k := 1) (p := 64) (by decide +kernel) rfl rfl ?_
        refine fs_iload (k := 4) (p := 66) (by decide +kernel) rfl rfl ?_
        obtain ⟨q7, e6, h⟩ := fx_bd h
        refine fs_callV (idx := 264) (mj := 155) (ci := 10) (na := 2) (mx := 3) (p := 69) (args := [.ref 215, .int x1, .int x4]) (rest := [.long (q4.2.2 215 40), .ref 215]) (al2 := [some (.ref 215), some (.int x1), some (.int x4)]) (by decide +kernel) rfl (by decide +kernel) fo_215 rfl rfl rfl rfl rfl rfl rfl (by omega) (fun d' hd' => fe_155 (by omega) e6) rfl ?_
        refine fs_i2l (p := 70) (by decide +kernel) rfl ?_
        refine fs_lload_n (k := 2) (p := 71) (by decide +kernel) rfl rfl ?_
        refine fs_lmul (p := 72) (by decide +kernel) rfl ?_
        refine fs_aload_n (k := 0) (p := 73) (by decide +kernel) rfl rfl ?_
        refine fs_gfi (idx := 382) (ci := 10) (j := 42) (p := 76) (by decide +kernel) rfl (by decide +kernel) fo_215 ?_
        refine fs_i2l (p := 77) (by decide +kernel) rfl ?_
        refine fs_aload_n (k := 0) (p := 78) (by decide +kernel) rfl rfl ?_
        refine fs_iload (k := 4) (p := 80) (by decide +kernel) rfl rfl ?_
        obtain ⟨q9, e8, h⟩ := fx_bd h
        refine fs_callV (idx := 385) (mj := 206) (ci := 10) (na := 1) (mx := 4) (p := 83) (args := [.ref 215, .int x4]) (rest := [.long ((q7.2.1 215 42)).toInt64, .long ((q7.1).toInt64 * x2), .long (q4.2.2 215 40), .ref 215]) (al2 := [some (.ref 215), some (.int x4), none, none]) (by decide +kernel) rfl (by decide +kernel) fo_215 rfl rfl rfl rfl rfl rfl rfl (by omega) (fun d' hd' => fe_206 (by omega) e8) rfl ?_
        refine fs_i2l (p := 84) (by decide +kernel) rfl ?_
        refine fs_lmul (p := 85) (by decide +kernel) rfl ?_
        refine fs_lsub (p := 86) (by decide +kernel) rfl ?_
        obtain ⟨q11, e10, h⟩ := fx_bd h
        refine fs_callS (idx := 397) (mj := 232) (na := 1) (mx := 2) (p := 89) (args := [.long (((q7.1).toInt64 * x2) - (((q7.2.1 215 42)).toInt64 * (q9.1).toInt64))]) (rest := [.long (q4.2.2 215 40), .ref 215]) (al2 := [some (.long (((q7.1).toInt64 * x2) - (((q7.2.1 215 42)).toInt64 * (q9.1).toInt64))), none]) (by decide +kernel) rfl (by decide +kernel) rfl rfl rfl rfl rfl rfl rfl (by omega) (fun d' hd' => fe_232 (by omega) e10) rfl ?_
        refine fs_ladd (p := 90) (by decide +kernel) rfl ?_
        refine fs_pfl (idx := 388) (ci := 10) (j := 40) (p := 93) (by decide +kernel) rfl (by decide +kernel) (by decide +kernel) fo_215 ?_
        exact fe_209_93 hd ih _ _ _ _ _ h
def fm_209_5 : Nat → Int32 → Int64 → Int32 → fx_S → Option (Bool × fx_S)
  | 0, _, _, _, _ => none
  | n + 1, x1, x2, x4, σ =>
    if (8 : Int32) ≤ x4 then (
      fm_209_41 100000 x1 x2 (0 : Int32) (fx_w2 (fx_w2 σ 215 40 (0 : Int64)) 215 41 x2)) else (
      (fm_206 x4 σ).bind fun q3 =>
      fm_209_5 n x1 (x2 + (q3.1).toInt64) (x4 + (1 : Int32)) q3.2)
theorem fe_209_5 {d : Nat} (hd : 1 ≤ d) : ∀ (n : Nat) (x1 : Int32) (x2 : Int64) (x4 : Int32) (σ : fx_S) (q : Bool × fx_S), fm_209_5 n x1 x2 x4 σ = some q → fx_E none 209 d 5 [some (.ref 215), some (.int x1), some (.long x2), none, some (.int x4)] [] σ (some (.int (fx_b q.1))) q.2 := by
  intro n
  induction n with
  | zero =>
    intro x1 x2 x4 σ q  h
    rw [fm_209_5] at h
    exact fx_no h
  | succ n ih =>
    intro x1 x2 x4 σ q  h
    rw [fm_209_5] at h
    refine fs_iload (k := 4) (p := 7) (by decide +kernel) rfl rfl ?_
    refine fs_bipush (n := 8) (p := 9) (by decide +kernel) rfl kb_8 ?_
    by_cases c1 : (8 : Int32) ≤ x4
    · rw [if_pos c1] at h
      refine fs_icmp_ge_t (off := 19) (t := 28) (by decide +kernel) (by decide +kernel) c1 ?_
      refine fs_aload_n (k := 0) (p := 29) (by decide +kernel) rfl rfl ?_
      refine fs_lconst (n := 0) (p := 30) (by decide +kernel) rfl kl_0 ?_
      refine fs_pfl (idx := 388) (ci := 10) (j := 40) (p := 33) (by decide +kernel) rfl (by decide +kernel) (by decide +kernel) fo_215 ?_
      refine fs_aload_n (k := 0) (p := 34) (by decide +kernel) rfl rfl ?_
      refine fs_lload_n (k := 2) (p := 35) (by decide +kernel) rfl rfl ?_
      refine fs_pfl (idx := 391) (ci := 10) (j := 41) (p := 38) (by decide +kernel) rfl (by decide +kernel) (by decide +kernel) fo_215 ?_
      refine fs_iconst (n := 0) (p := 39) (by decide +kernel) rfl kc_0 ?_
      refine fs_istore (k := 4) (p := 41) (M := 5) (al' := [some (.ref 215), some (.int x1), some (.long x2), none, some (.int (0 : Int32))]) (by decide +kernel) rfl mx_209 rfl rfl ?_
      exact fe_209_41 hd 100000 _ _ _ _ _ h
    · rw [if_neg c1] at h
      refine fs_icmp_ge_f (off := 19) (t := 28) (p := 12) (by decide +kernel) (by decide +kernel) rfl c1 ?_
      refine fs_lload_n (k := 2) (p := 13) (by decide +kernel) rfl rfl ?_
      refine fs_aload_n (k := 0) (p := 14) (by decide +kernel) rfl rfl ?_
      refine fs_iload (k := 4) (p := 16) (by decide +kernel) rfl rfl ?_
      obtain ⟨q3, e2, h⟩ := fx_bd h
      refine fs_callV (idx := 385) (mj := 206) (ci := 10) (na := 1) (mx := 4) (p := 19) (args := [.ref 215, .int x4]) (rest := [.long x2]) (al2 := [some (.ref 215), some (.int x4), none, none]) (by decide +kernel) rfl (by decide +kernel) fo_215 rfl rfl rfl rfl rfl rfl rfl (by omega) (fun d' hd' => fe_206 (by omega) e2) rfl ?_
      refine fs_i2l (p := 20) (by decide +kernel) rfl ?_
      refine fs_ladd (p := 21) (by decide +kernel) rfl ?_
      refine fs_lstore_n (k := 2) (p := 22) (M := 5) (al' := [some (.ref 215), some (.int x1), some (.long (x2 + (q3.1).toInt64)), none, some (.int x4)]) (by decide +kernel) rfl mx_209 rfl rfl ?_
      refine fs_iinc (k := 4) (n := 1) (p := 25) (M := 5) (al' := [some (.ref 215), some (.int x1), some (.long (x2 + (q3.1).toInt64)), none, some (.int (x4 + (1 : Int32)))]) (by decide +kernel) rfl kc_1 mx_209 rfl rfl rfl ?_
      refine fs_goto (off := -20) (p := 5) (by decide +kernel) (by decide +kernel) ?_
      exact ih _ _ _ _ _ h
def fm_209 (x1 : Int32) (σ : fx_S) : Option (Bool × fx_S) :=
  fm_209_5 100000 x1 (0 : Int64) (0 : Int32) σ
theorem fe_209 {d : Nat} (hd : 1 ≤ d) {x1 : Int32} {σ : fx_S} {q : Bool × fx_S} (h : fm_209 x1 σ = some q) : fx_E none 209 d 0 [some (.ref 215), some (.int x1), none, none, none] [] σ (some (.int (fx_b q.1))) q.2 := by
  unfold fm_209 at h
  refine fs_lconst (n := 0) (p := 1) (by decide +kernel) rfl kl_0 ?_
  refine fs_lstore_n (k := 2) (p := 2) (M := 5) (al' := [some (.ref 215), some (.int x1), some (.long (0 : Int64)), none, none]) (by decide +kernel) rfl mx_209 rfl rfl ?_
  refine fs_iconst (n := 0) (p := 3) (by decide +kernel) rfl kc_0 ?_
  refine fs_istore (k := 4) (p := 5) (M := 5) (al' := [some (.ref 215), some (.int x1), some (.long (0 : Int64)), none, some (.int (0 : Int32))]) (by decide +kernel) rfl mx_209 rfl rfl ?_
  exact fe_209_5 hd 100000 _ _ _ _ _ h

/-! ZoneSharesModel.misfit(II)J -/
theorem mx_210 : iv_mx 210 = 3 := by decide +kernel
theorem rt_210 : iv_rt 210 = some .long := by decide +kernel
def fm_210_24 (σ : fx_S) : Option (Int64 × fx_S) :=
  some ((-1 : Int64), σ)
theorem fe_210_24 {d : Nat} (hd : 3 ≤ d) (o0 : Option Value) (o1 : Option Value) (o2 : Option Value) (σ : fx_S) (q : Int64 × fx_S) (h : fm_210_24  σ = some q) : fx_E none 210 d 24 [o0, o1, o2] [] σ (some (.long q.1)) q.2 := by
  unfold fm_210_24 at h
  refine fs_ldc2 (idx := 306) (p := 27) (x := -1) (by decide +kernel) rfl (by decide +kernel) ?_
  have h := Option.some.inj h
  subst h
  exact fs_lret (by decide +kernel) rt_210
def fm_210_48 (σ : fx_S) : Option (Int64 × fx_S) :=
  some ((-1 : Int64), σ)
theorem fe_210_48 {d : Nat} (hd : 3 ≤ d) (o0 : Option Value) (o1 : Option Value) (o2 : Option Value) (σ : fx_S) (q : Int64 × fx_S) (h : fm_210_48  σ = some q) : fx_E none 210 d 48 [o0, o1, o2] [] σ (some (.long q.1)) q.2 := by
  unfold fm_210_48 at h
  refine fs_ldc2 (idx := 306) (p := 51) (x := -1) (by decide +kernel) rfl (by decide +kernel) ?_
  have h := Option.some.inj h
  subst h
  exact fs_lret (by decide +kernel) rt_210
def fm_210 (x1 : Int32) (x2 : Int32) (σ : fx_S) : Option (Int64 × fx_S) :=
  (fm_150 σ).bind fun q19 =>
  if (fx_b q19.1) = 0 then (
    fm_210_24 q19.2) else (
    (fm_148 x1 q19.2).bind fun q22 =>
    if (fx_b q22.1) = 0 then (
      fm_210_24 q22.2) else (
      (fm_130 (x2).toInt64 (0 : Int64) (1 : Int64) q22.2).bind fun q25 =>
      if ¬ (fx_b q25.1) = 0 then (
        (fm_205 x1 q25.2).bind fun q28 =>
        if (q28.1 215 42) = 0 then (
          fm_210_48 q28) else (
          (fm_209 x1 q28).bind fun q31 =>
          if ¬ (fx_b q31.1) = 0 then (
            (fm_194 (q31.2.2 215 40) (q31.2.2 215 41) x2 q31.2).bind fun q34 =>
            some (q34.1, q34.2)) else (
            fm_210_48 q31.2))) else (
        fm_210_24 q25.2)))
theorem fe_210 {d : Nat} (hd : 3 ≤ d) {x1 : Int32} {x2 : Int32} {σ : fx_S} {q : Int64 × fx_S} (h : fm_210 x1 x2 σ = some q) : fx_E none 210 d 0 [some (.ref 215), some (.int x1), some (.int x2)] [] σ (some (.long q.1)) q.2 := by
  unfold fm_210 at h
  refine fs_aload_n (k := 0) (p := 1) (by decide +kernel) rfl rfl ?_
  obtain ⟨q19, e18, h⟩ := fx_bd h
  refine fs_callV (idx := 303) (mj := 150) (ci := 10) (na := 0) (mx := 1) (p := 4) (args := [.ref 215]) (rest := []) (al2 := [some (.ref 215)]) (by decide +kernel) rfl (by decide +kernel) fo_215 rfl rfl rfl rfl rfl rfl rfl (by omega) (fun d' hd' => fe_150 (by omega) e18) rfl ?_
  by_cases c20 : (fx_b q19.1) = 0
  · rw [if_pos c20] at h
    refine fs_if_eq_t (off := 20) (t := 24) (by decide +kernel) (by decide +kernel) c20 ?_
    exact fe_210_24 hd _ _ _ _ _ h
  · rw [if_neg c20] at h
    refine fs_if_eq_f (off := 20) (t := 24) (p := 7) (by decide +kernel) (by decide +kernel) rfl c20 ?_
    refine fs_iload_n (k := 1) (p := 8) (by decide +kernel) rfl rfl ?_
    obtain ⟨q22, e21, h⟩ := fx_bd h
    refine fs_callS (idx := 190) (mj := 148) (na := 1) (mx := 1) (p := 11) (args := [.int x1]) (rest := []) (al2 := [some (.int x1)]) (by decide +kernel) rfl (by decide +kernel) rfl rfl rfl rfl rfl rfl rfl (by omega) (fun d' hd' => fe_148 (by omega) e21) rfl ?_
    by_cases c23 : (fx_b q22.1) = 0
    · rw [if_pos c23] at h
      refine fs_if_eq_t (off := 13) (t := 24) (by decide +kernel) (by decide +kernel) c23 ?_
      exact fe_210_24 hd _ _ _ _ _ h
    · rw [if_neg c23] at h
      refine fs_if_eq_f (off := 13) (t := 24) (p := 14) (by decide +kernel) (by decide +kernel) rfl c23 ?_
      refine fs_iload_n (k := 2) (p := 15) (by decide +kernel) rfl rfl ?_
      refine fs_i2l (p := 16) (by decide +kernel) rfl ?_
      refine fs_lconst (n := 0) (p := 17) (by decide +kernel) rfl kl_0 ?_
      refine fs_lconst (n := 1) (p := 18) (by decide +kernel) rfl kl_1 ?_
      obtain ⟨q25, e24, h⟩ := fx_bd h
      refine fs_callS (idx := 128) (mj := 130) (na := 3) (mx := 6) (p := 21) (args := [.long (x2).toInt64, .long (0 : Int64), .long (1 : Int64)]) (rest := []) (al2 := [some (.long (x2).toInt64), none, some (.long (0 : Int64)), none, some (.long (1 : Int64)), none]) (by decide +kernel) rfl (by decide +kernel) rfl rfl rfl rfl rfl rfl rfl (by omega) (fun d' hd' => fe_130 (by omega) e24) rfl ?_
      by_cases c26 : ¬ (fx_b q25.1) = 0
      · rw [if_pos c26] at h
        refine fs_if_ne_t (off := 7) (t := 28) (by decide +kernel) (by decide +kernel) c26 ?_
        refine fs_aload_n (k := 0) (p := 29) (by decide +kernel) rfl rfl ?_
        refine fs_iload_n (k := 1) (p := 30) (by decide +kernel) rfl rfl ?_
        obtain ⟨q28, e27, h⟩ := fx_bd h
        refine fs_callV (idx := 400) (mj := 205) (ci := 10) (na := 1) (mx := 3) (p := 33) (args := [.ref 215, .int x1]) (rest := []) (al2 := [some (.ref 215), some (.int x1), none]) (by decide +kernel) rfl (by decide +kernel) fo_215 rfl rfl rfl rfl rfl rfl rfl (by omega) (fun d' hd' => fe_205 (by omega) e27) rfl ?_
        refine fs_aload_n (k := 0) (p := 34) (by decide +kernel) rfl rfl ?_
        refine fs_gfi (idx := 382) (ci := 10) (j := 42) (p := 37) (by decide +kernel) rfl (by decide +kernel) fo_215 ?_
        by_cases c29 : (q28.1 215 42) = 0
        · rw [if_pos c29] at h
          refine fs_if_eq_t (off := 11) (t := 48) (by decide +kernel) (by decide +kernel) c29 ?_
          exact fe_210_48 hd _ _ _ _ _ h
        · rw [if_neg c29] at h
          refine fs_if_eq_f (off := 11) (t := 48) (p := 40) (by decide +kernel) (by decide +kernel) rfl c29 ?_
          refine fs_aload_n (k := 0) (p := 41) (by decide +kernel) rfl rfl ?_
          refine fs_iload_n (k := 1) (p := 42) (by decide +kernel) rfl rfl ?_
          obtain ⟨q31, e30, h⟩ := fx_bd h
          refine fs_callV (idx := 403) (mj := 209) (ci := 10) (na := 1) (mx := 5) (p := 45) (args := [.ref 215, .int x1]) (rest := []) (al2 := [some (.ref 215), some (.int x1), none, none, none]) (by decide +kernel) rfl (by decide +kernel) fo_215 rfl rfl rfl rfl rfl rfl rfl (by omega) (fun d' hd' => fe_209 (by omega) e30) rfl ?_
          by_cases c32 : ¬ (fx_b q31.1) = 0
          · rw [if_pos c32] at h
            refine fs_if_ne_t (off := 7) (t := 52) (by decide +kernel) (by decide +kernel) c32 ?_
            refine fs_aload_n (k := 0) (p := 53) (by decide +kernel) rfl rfl ?_
            refine fs_gfl (idx := 388) (ci := 10) (j := 40) (p := 56) (by decide +kernel) rfl (by decide +kernel) fo_215 ?_
            refine fs_aload_n (k := 0) (p := 57) (by decide +kernel) rfl rfl ?_
            refine fs_gfl (idx := 391) (ci := 10) (j := 41) (p := 60) (by decide +kernel) rfl (by decide +kernel) fo_215 ?_
            refine fs_iload_n (k := 2) (p := 61) (by decide +kernel) rfl rfl ?_
            obtain ⟨q34, e33, h⟩ := fx_bd h
            refine fs_callS (idx := 342) (mj := 194) (na := 3) (mx := 7) (p := 64) (args := [.long (q31.2.2 215 40), .long (q31.2.2 215 41), .int x2]) (rest := []) (al2 := [some (.long (q31.2.2 215 40)), none, some (.long (q31.2.2 215 41)), none, some (.int x2), none, none]) (by decide +kernel) rfl (by decide +kernel) rfl rfl rfl rfl rfl rfl rfl (by omega) (fun d' hd' => fe_194 (by omega) e33) rfl ?_
            have h := Option.some.inj h
            subst h
            exact fs_lret (by decide +kernel) rt_210
          · rw [if_neg c32] at h
            refine fs_if_ne_f (off := 7) (t := 52) (p := 48) (by decide +kernel) (by decide +kernel) rfl c32 ?_
            exact fe_210_48 hd _ _ _ _ _ h
      · rw [if_neg c26] at h
        refine fs_if_ne_f (off := 7) (t := 28) (p := 24) (by decide +kernel) (by decide +kernel) rfl c26 ?_
        exact fe_210_24 hd _ _ _ _ _ h

/-! ZoneSharesModel.weigh(III)I -/
theorem mx_214 : iv_mx 214 = 6 := by decide +kernel
theorem rt_214 : iv_rt 214 = some .int := by decide +kernel
def fm_214_111 (k_79 : Int32 → Int32 → Int32 → Int32 → Int32 → fx_S → Option (Int32 × fx_S)) (x1 : Int32) (x2 : Int32) (x3 : Int32) (x4 : Int32) (x5 : Int32) (σ : fx_S) : Option (Int32 × fx_S) :=
  k_79 x1 x2 x3 x4 (x5 + (1 : Int32)) σ
theorem fe_214_111 {d : Nat} (hd : 1 ≤ d) {k_79 : Int32 → Int32 → Int32 → Int32 → Int32 → fx_S → Option (Int32 × fx_S)} (hk_79 : ∀ (x1 : Int32) (x2 : Int32) (x3 : Int32) (x4 : Int32) (x5 : Int32) (σ : fx_S) (q : Int32 × fx_S), k_79 x1 x2 x3 x4 x5 σ = some q → fx_E none 214 d 79 [some (.ref 215), some (.int x1), some (.int x2), some (.int x3), some (.int x4), some (.int x5)] [] σ (some (.int q.1)) q.2) (x1 : Int32) (x2 : Int32) (x3 : Int32) (x4 : Int32) (x5 : Int32) (σ : fx_S) (q : Int32 × fx_S) (h : fm_214_111 k_79  x1 x2 x3 x4 x5 σ = some q) : fx_E none 214 d 111 [some (.ref 215), some (.int x1), some (.int x2), some (.int x3), some (.int x4), some (.int x5)] [] σ (some (.int q.1)) q.2 := by
  unfold fm_214_111 at h
  refine fs_iinc (k := 5) (n := 1) (p := 114) (M := 6) (al' := [some (.ref 215), some (.int x1), some (.int x2), some (.int x3), some (.int x4), some (.int (x5 + (1 : Int32)))]) (by decide +kernel) rfl kc_1 mx_214 rfl rfl rfl ?_
  refine fs_goto (off := -35) (p := 79) (by decide +kernel) (by decide +kernel) ?_
  exact hk_79 _ _ _ _ _ _ _ h
def fm_214_96 (k_79 : Int32 → Int32 → Int32 → Int32 → Int32 → fx_S → Option (Int32 × fx_S)) (x1 : Int32) (x2 : Int32) (x3 : Int32) (x4 : Int32) (x5 : Int32) (σ : fx_S) : Option (Int32 × fx_S) :=
  (fx_st σ 216 (((32 : Int32) + ((4 : Int32) * x5)) + x2) x3).bind fun t1 =>
  fm_214_111 k_79 x1 x2 x3 x4 x5 t1
theorem fe_214_96 {d : Nat} (hd : 1 ≤ d) {k_79 : Int32 → Int32 → Int32 → Int32 → Int32 → fx_S → Option (Int32 × fx_S)} (hk_79 : ∀ (x1 : Int32) (x2 : Int32) (x3 : Int32) (x4 : Int32) (x5 : Int32) (σ : fx_S) (q : Int32 × fx_S), k_79 x1 x2 x3 x4 x5 σ = some q → fx_E none 214 d 79 [some (.ref 215), some (.int x1), some (.int x2), some (.int x3), some (.int x4), some (.int x5)] [] σ (some (.int q.1)) q.2) (x1 : Int32) (x2 : Int32) (x3 : Int32) (x4 : Int32) (x5 : Int32) (σ : fx_S) (q : Int32 × fx_S) (h : fm_214_96 k_79  x1 x2 x3 x4 x5 σ = some q) : fx_E none 214 d 96 [some (.ref 215), some (.int x1), some (.int x2), some (.int x3), some (.int x4), some (.int x5)] [] σ (some (.int q.1)) q.2 := by
  unfold fm_214_96 at h
  refine fs_aload_n (k := 0) (p := 97) (by decide +kernel) rfl rfl ?_
  refine fs_gfr (idx := 9) (ci := 10) (j := 0) (p := 100) (by decide +kernel) rfl (by decide +kernel) fo_215 (fr_a215_0) ?_
  refine fs_bipush (n := 32) (p := 102) (by decide +kernel) rfl kb_32 ?_
  refine fs_iconst (n := 4) (p := 103) (by decide +kernel) rfl kc_4 ?_
  refine fs_iload (k := 5) (p := 105) (by decide +kernel) rfl rfl ?_
  refine fs_imul (p := 106) (by decide +kernel) rfl ?_
  refine fs_iadd (p := 107) (by decide +kernel) rfl ?_
  refine fs_iload_n (k := 2) (p := 108) (by decide +kernel) rfl rfl ?_
  refine fs_iadd (p := 109) (by decide +kernel) rfl ?_
  refine fs_iload_n (k := 3) (p := 110) (by decide +kernel) rfl rfl ?_
  obtain ⟨t1, e2, h⟩ := fx_bd h
  refine fs_iastore (p := 111) (by decide +kernel) rfl e2 ?_
  exact fe_214_111 hd hk_79 _ _ _ _ _ _ _ h
def fm_214_79 : Nat → Int32 → Int32 → Int32 → Int32 → Int32 → fx_S → Option (Int32 × fx_S)
  | 0, _, _, _, _, _, _ => none
  | n + 1, x1, x2, x3, x4, x5, σ =>
    if (3 : Int32) ≤ x5 then (
      some (x4, σ)) else (
      if x1 = (-1 : Int32) then (
        fm_214_96 (fm_214_79 n) x1 x2 x3 x4 x5 σ) else (
        if ¬ x1 = x5 then (
          fm_214_111 (fm_214_79 n) x1 x2 x3 x4 x5 σ) else (
          fm_214_96 (fm_214_79 n) x1 x2 x3 x4 x5 σ)))
theorem fe_214_79 {d : Nat} (hd : 1 ≤ d) : ∀ (n : Nat) (x1 : Int32) (x2 : Int32) (x3 : Int32) (x4 : Int32) (x5 : Int32) (σ : fx_S) (q : Int32 × fx_S), fm_214_79 n x1 x2 x3 x4 x5 σ = some q → fx_E none 214 d 79 [some (.ref 215), some (.int x1), some (.int x2), some (.int x3), some (.int x4), some (.int x5)] [] σ (some (.int q.1)) q.2 := by
  intro n
  induction n with
  | zero =>
    intro x1 x2 x3 x4 x5 σ q  h
    rw [fm_214_79] at h
    exact fx_no h
  | succ n ih =>
    intro x1 x2 x3 x4 x5 σ q  h
    rw [fm_214_79] at h
    refine fs_iload (k := 5) (p := 81) (by decide +kernel) rfl rfl ?_
    refine fs_iconst (n := 3) (p := 82) (by decide +kernel) rfl kc_3 ?_
    by_cases c1 : (3 : Int32) ≤ x5
    · rw [if_pos c1] at h
      refine fs_icmp_ge_t (off := 35) (t := 117) (by decide +kernel) (by decide +kernel) c1 ?_
      refine fs_iload (k := 4) (p := 119) (by decide +kernel) rfl rfl ?_
      have h := Option.some.inj h
      subst h
      exact fs_iret (by decide +kernel) rt_214
    · rw [if_neg c1] at h
      refine fs_icmp_ge_f (off := 35) (t := 117) (p := 85) (by decide +kernel) (by decide +kernel) rfl c1 ?_
      refine fs_iload_n (k := 1) (p := 86) (by decide +kernel) rfl rfl ?_
      refine fs_iconst (n := -1) (p := 87) (by decide +kernel) rfl kc_m1 ?_
      by_cases c2 : x1 = (-1 : Int32)
      · rw [if_pos c2] at h
        refine fs_icmp_eq_t (off := 9) (t := 96) (by decide +kernel) (by decide +kernel) c2 ?_
        exact fe_214_96 hd ih _ _ _ _ _ _ _ h
      · rw [if_neg c2] at h
        refine fs_icmp_eq_f (off := 9) (t := 96) (p := 90) (by decide +kernel) (by decide +kernel) rfl c2 ?_
        refine fs_iload_n (k := 1) (p := 91) (by decide +kernel) rfl rfl ?_
        refine fs_iload (k := 5) (p := 93) (by decide +kernel) rfl rfl ?_
        by_cases c3 : ¬ x1 = x5
        · rw [if_pos c3] at h
          refine fs_icmp_ne_t (off := 18) (t := 111) (by decide +kernel) (by decide +kernel) c3 ?_
          exact fe_214_111 hd ih _ _ _ _ _ _ _ h
        · rw [if_neg c3] at h
          refine fs_icmp_ne_f (off := 18) (t := 111) (p := 96) (by decide +kernel) (by decide +kernel) rfl c3 ?_
          exact fe_214_96 hd ih _ _ _ _ _ _ _ h
def fm_214 (x1 : Int32) (x2 : Int32) (x3 : Int32) (σ : fx_S) : Option (Int32 × fx_S) :=
  (fm_130 (x1).toInt64 (-1 : Int64) (2 : Int64) σ).bind fun q25 =>
  if (fx_b q25.1) = 0 then (
    some ((-1 : Int32), q25.2)) else (
    (fm_130 (x2).toInt64 (0 : Int64) (3 : Int64) q25.2).bind fun q28 =>
    if (fx_b q28.1) = 0 then (
      some ((-1 : Int32), q28.2)) else (
      (fm_130 (x3).toInt64 (0 : Int64) (9 : Int64) q28.2).bind fun q31 =>
      if ¬ (fx_b q31.1) = 0 then (
        (fm_213 x1 x2 x3 q31.2).bind fun q34 =>
        if (fx_b q34.1) = 0 then (
          (fm_132 q34.2).bind fun q37 =>
          (fm_233 (0 : Int32) x1 q37).bind fun q39 =>
          (fx_ld q39.2 216 (((32 : Int32) + ((4 : Int32) * q39.1)) + x2)).bind fun v40 =>
          fm_214_79 100000 x1 x2 x3 v40 (0 : Int32) q39.2) else (
          some ((-2 : Int32), q34.2))) else (
        some ((-1 : Int32), q31.2))))
theorem fe_214 {d : Nat} (hd : 1 ≤ d) {x1 : Int32} {x2 : Int32} {x3 : Int32} {σ : fx_S} {q : Int32 × fx_S} (h : fm_214 x1 x2 x3 σ = some q) : fx_E none 214 d 0 [some (.ref 215), some (.int x1), some (.int x2), some (.int x3), none, none] [] σ (some (.int q.1)) q.2 := by
  unfold fm_214 at h
  refine fs_iload_n (k := 1) (p := 1) (by decide +kernel) rfl rfl ?_
  refine fs_i2l (p := 2) (by decide +kernel) rfl ?_
  refine fs_ldc2 (idx := 306) (p := 5) (x := -1) (by decide +kernel) rfl (by decide +kernel) ?_
  refine fs_ldc2 (idx := 161) (p := 8) (x := 2) (by decide +kernel) rfl (by decide +kernel) ?_
  obtain ⟨q25, e24, h⟩ := fx_bd h
  refine fs_callS (idx := 128) (mj := 130) (na := 3) (mx := 6) (p := 11) (args := [.long (x1).toInt64, .long (-1 : Int64), .long (2 : Int64)]) (rest := []) (al2 := [some (.long (x1).toInt64), none, some (.long (-1 : Int64)), none, some (.long (2 : Int64)), none]) (by decide +kernel) rfl (by decide +kernel) rfl rfl rfl rfl rfl rfl rfl (by omega) (fun d' hd' => fe_130 (by omega) e24) rfl ?_
  by_cases c26 : (fx_b q25.1) = 0
  · rw [if_pos c26] at h
    refine fs_if_eq_t (off := 27) (t := 38) (by decide +kernel) (by decide +kernel) c26 ?_
    refine fs_iconst (n := -1) (p := 39) (by decide +kernel) rfl kc_m1 ?_
    have h := Option.some.inj h
    subst h
    exact fs_iret (by decide +kernel) rt_214
  · rw [if_neg c26] at h
    refine fs_if_eq_f (off := 27) (t := 38) (p := 14) (by decide +kernel) (by decide +kernel) rfl c26 ?_
    refine fs_iload_n (k := 2) (p := 15) (by decide +kernel) rfl rfl ?_
    refine fs_i2l (p := 16) (by decide +kernel) rfl ?_
    refine fs_lconst (n := 0) (p := 17) (by decide +kernel) rfl kl_0 ?_
    refine fs_ldc2 (idx := 327) (p := 20) (x := 3) (by decide +kernel) rfl (by decide +kernel) ?_
    obtain ⟨q28, e27, h⟩ := fx_bd h
    refine fs_callS (idx := 128) (mj := 130) (na := 3) (mx := 6) (p := 23) (args := [.long (x2).toInt64, .long (0 : Int64), .long (3 : Int64)]) (rest := []) (al2 := [some (.long (x2).toInt64), none, some (.long (0 : Int64)), none, some (.long (3 : Int64)), none]) (by decide +kernel) rfl (by decide +kernel) rfl rfl rfl rfl rfl rfl rfl (by omega) (fun d' hd' => fe_130 (by omega) e27) rfl ?_
    by_cases c29 : (fx_b q28.1) = 0
    · rw [if_pos c29] at h
      refine fs_if_eq_t (off := 15) (t := 38) (by decide +kernel) (by decide +kernel) c29 ?_
      refine fs_iconst (n := -1) (p := 39) (by decide +kernel) rfl kc_m1 ?_
      have h := Option.some.inj h
      subst h
      exact fs_iret (by decide +kernel) rt_214
    · rw [if_neg c29] at h
      refine fs_if_eq_f (off := 15) (t := 38) (p := 26) (by decide +kernel) (by decide +kernel) rfl c29 ?_
      refine fs_iload_n (k := 3) (p := 27) (by decide +kernel) rfl rfl ?_
      refine fs_i2l (p := 28) (by decide +kernel) rfl ?_
      refine fs_lconst (n := 0) (p := 29) (by decide +kernel) rfl kl_0 ?_
      refine fs_ldc2 (idx := 422) (p := 32) (x := 9) (by decide +kernel) rfl (by decide +kernel) ?_
      obtain ⟨q31, e30, h⟩ := fx_bd h
      refine fs_callS (idx := 128) (mj := 130) (na := 3) (mx := 6) (p := 35) (args := [.long (x3).toInt64, .long (0 : Int64), .long (9 : Int64)]) (rest := []) (al2 := [some (.long (x3).toInt64), none, some (.long (0 : Int64)), none, some (.long (9 : Int64)), none]) (by decide +kernel) rfl (by decide +kernel) rfl rfl rfl rfl rfl rfl rfl (by omega) (fun d' hd' => fe_130 (by omega) e30) rfl ?_
      by_cases c32 : ¬ (fx_b q31.1) = 0
      · rw [if_pos c32] at h
        refine fs_if_ne_t (off := 5) (t := 40) (by decide +kernel) (by decide +kernel) c32 ?_
        refine fs_aload_n (k := 0) (p := 41) (by decide +kernel) rfl rfl ?_
        refine fs_iload_n (k := 1) (p := 42) (by decide +kernel) rfl rfl ?_
        refine fs_iload_n (k := 2) (p := 43) (by decide +kernel) rfl rfl ?_
        refine fs_iload_n (k := 3) (p := 44) (by decide +kernel) rfl rfl ?_
        obtain ⟨q34, e33, h⟩ := fx_bd h
        refine fs_callV (idx := 424) (mj := 213) (ci := 10) (na := 3) (mx := 5) (p := 47) (args := [.ref 215, .int x1, .int x2, .int x3]) (rest := []) (al2 := [some (.ref 215), some (.int x1), some (.int x2), some (.int x3), none]) (by decide +kernel) rfl (by decide +kernel) fo_215 rfl rfl rfl rfl rfl rfl rfl (by omega) (fun d' hd' => fe_213 (by omega) e33) rfl ?_
        by_cases c35 : (fx_b q34.1) = 0
        · rw [if_pos c35] at h
          refine fs_if_eq_t (off := 6) (t := 53) (by decide +kernel) (by decide +kernel) c35 ?_
          refine fs_aload_n (k := 0) (p := 54) (by decide +kernel) rfl rfl ?_
          obtain ⟨q37, e36, h⟩ := fx_bd h
          refine fs_callV (idx := 170) (mj := 132) (ci := 10) (na := 0) (mx := 2) (p := 57) (args := [.ref 215]) (rest := []) (al2 := [some (.ref 215), none]) (by decide +kernel) rfl (by decide +kernel) fo_215 rfl rfl rfl rfl rfl rfl rfl (by omega) (fun d' hd' => fe_132 (by omega) e36) rfl ?_
          refine fs_aload_n (k := 0) (p := 58) (by decide +kernel) rfl rfl ?_
          refine fs_gfr (idx := 9) (ci := 10) (j := 0) (p := 61) (by decide +kernel) rfl (by decide +kernel) fo_215 (fr_a215_0) ?_
          refine fs_bipush (n := 32) (p := 63) (by decide +kernel) rfl kb_32 ?_
          refine fs_iconst (n := 4) (p := 64) (by decide +kernel) rfl kc_4 ?_
          refine fs_iconst (n := 0) (p := 65) (by decide +kernel) rfl kc_0 ?_
          refine fs_iload_n (k := 1) (p := 66) (by decide +kernel) rfl rfl ?_
          obtain ⟨q39, e38, h⟩ := fx_bd h
          refine fs_callS (idx := 428) (mj := 233) (na := 2) (mx := 2) (p := 69) (args := [.int (0 : Int32), .int x1]) (rest := [.int (4 : Int32), .int (32 : Int32), .ref 216]) (al2 := [some (.int (0 : Int32)), some (.int x1)]) (by decide +kernel) rfl (by decide +kernel) rfl rfl rfl rfl rfl rfl rfl (by omega) (fun d' hd' => fe_233 (by omega) e38) rfl ?_
          refine fs_imul (p := 70) (by decide +kernel) rfl ?_
          refine fs_iadd (p := 71) (by decide +kernel) rfl ?_
          refine fs_iload_n (k := 2) (p := 72) (by decide +kernel) rfl rfl ?_
          refine fs_iadd (p := 73) (by decide +kernel) rfl ?_
          obtain ⟨v40, e41, h⟩ := fx_bd h
          refine fs_iaload (p := 74) (by decide +kernel) rfl e41 ?_
          refine fs_istore (k := 4) (p := 76) (M := 6) (al' := [some (.ref 215), some (.int x1), some (.int x2), some (.int x3), some (.int v40), none]) (by decide +kernel) rfl mx_214 rfl rfl ?_
          refine fs_iconst (n := 0) (p := 77) (by decide +kernel) rfl kc_0 ?_
          refine fs_istore (k := 5) (p := 79) (M := 6) (al' := [some (.ref 215), some (.int x1), some (.int x2), some (.int x3), some (.int v40), some (.int (0 : Int32))]) (by decide +kernel) rfl mx_214 rfl rfl ?_
          exact fe_214_79 hd 100000 _ _ _ _ _ _ _ h
        · rw [if_neg c35] at h
          refine fs_if_eq_f (off := 6) (t := 53) (p := 50) (by decide +kernel) (by decide +kernel) rfl c35 ?_
          refine fs_bipush (n := -2) (p := 52) (by decide +kernel) rfl kb_m2 ?_
          have h := Option.some.inj h
          subst h
          exact fs_iret (by decide +kernel) rt_214
      · rw [if_neg c32] at h
        refine fs_if_ne_f (off := 5) (t := 40) (p := 38) (by decide +kernel) (by decide +kernel) rfl c32 ?_
        refine fs_iconst (n := -1) (p := 39) (by decide +kernel) rfl kc_m1 ?_
        have h := Option.some.inj h
        subst h
        exact fs_iret (by decide +kernel) rt_214
